/-! TREES, in one language for both sides: keys K, labels, depths D by place in ORDER, n of them -/
def tW (K : Nat → Int32) (k : Int32) : Nat → Nat → Option Nat
  | _, 0 => none
  | i, m + 1 => if K i = k then some i else tW K k (i + 1) m
def tE (D : Nat → Int32) (d : Int32) : Nat → Nat → Nat
  | e, 0 => e
  | e, m + 1 => if d < D e then tE D d (e + 1) m else e
def tP (D : Nat → Int32) (d : Int32) : Nat → Option Nat
  | 0 => none
  | j + 1 => if D j < d then some j else tP D d j
def tC (D : Nat → Int32) (d : Int32) : Nat → Nat → Nat → Nat
  | _, 0, c => c
  | e, m + 1, c => if d < D e then tC D d (e + 1) m (if D e = d + 1 then c + 1 else c) else c
def tL (D : Nat → Int32) (d : Int32) : Nat → Nat → Nat
  | 0, c => c
  | j + 1, c => if D j < d then c else tL D d j (if D j = d then c + 1 else c)
def oI (o : Option Nat) : Int32 := match o with
  | none => -1
  | some i => nI i
/-- where a key stands; where all below ends; the parent; the place; how many children -/
def tWhere (K : Nat → Int32) (n : Nat) (k : Int32) : Option Nat := tW K k 0 n
def tEnd (D : Nat → Int32) (n i : Nat) : Nat := tE D (D i) (i + 1) (n - (i + 1))
def tPar (D : Nat → Int32) (i : Nat) : Option Nat := tP D (D i) i
def tPlace (D : Nat → Int32) (i : Nat) : Nat := tL D (D i) i 0
def tKids (D : Nat → Int32) (n i : Nat) : Nat := tC D (D i) (i + 1) (n - (i + 1)) 0
theorem iSum_nil : (iSum [] ≤ 8) = True := eq_true (by decide)
theorem iGet_of {h : iHp} {a ci k : Nat} {fs : List Value} (e : h.1 a = some (.inr (ci, fs))) : iGet h a ci k = fs[k]? := by
  unfold iGet
  rw [e]
  dsimp only
  rw [if_pos rfl]
theorem iLdI_of {h : iHp} {a n j : Nat} {f : Nat → Int32} (e : h.1 a = some (.inl (0, n, .inl f))) (hj : j < n) (hn : n < 2 ^ 31) : iLdI h a (nI j) = some (f j) := by
  unfold iLdI
  rw [e]
  dsimp only
  rw [if_pos ⟨Or.inl rfl, nI_in hj hn⟩, nI_clamp (by omega)]
theorem iObj_of {h : iHp} {a ci : Nat} {fs : List Value} (e : h.1 a = some (.inr (ci, fs))) : iObj h a ci = true := by
  unfold iObj
  rw [e]
  exact beq_self_eq_true ci
/-- the class's Tree at t -/
def trAt (h : iHp) (t n : Nat) (K B D : Nat → Int32) : Prop := h.1 t = some (.inr (7, [.ref (t + 1), .ref (t + 2), .ref (t + 3), .int (nI n)])) ∧ h.1 (t + 1) = some (.inl (0, 80, .inl K)) ∧ h.1 (t + 2) = some (.inl (0, 80, .inl B)) ∧ h.1 (t + 3) = some (.inl (0, 80, .inl D)) ∧ n ≤ 80
section TREE
variable {h : iHp} {t n : Nat} {K B D : Nat → Int32}
theorem trAt.o (hT : trAt h t n K B D) : iObj h t 7 = true := iObj_of hT.1
theorem trAt.k (hT : trAt h t n K B D) : iGet h t 7 0 = some (.ref (t + 1)) := iGet_of hT.1
theorem trAt.b (hT : trAt h t n K B D) : iGet h t 7 1 = some (.ref (t + 2)) := iGet_of hT.1
theorem trAt.d (hT : trAt h t n K B D) : iGet h t 7 2 = some (.ref (t + 3)) := iGet_of hT.1
theorem trAt.s (hT : trAt h t n K B D) : iGet h t 7 3 = some (.int (nI n)) := iGet_of hT.1
theorem trAt.lk (hT : trAt h t n K B D) {j : Nat} (hj : j < n) : iLdI h (t + 1) (nI j) = some (K j) := iLdI_of hT.2.1 (by have := hT.2.2.2.2; omega) (by decide)
theorem trAt.lb (hT : trAt h t n K B D) {j : Nat} (hj : j < n) : iLdI h (t + 2) (nI j) = some (B j) := iLdI_of hT.2.2.1 (by have := hT.2.2.2.2; omega) (by decide)
theorem trAt.ld (hT : trAt h t n K B D) {j : Nat} (hj : j < n) : iLdI h (t + 3) (nI j) = some (D j) := iLdI_of hT.2.2.2.1 (by have := hT.2.2.2.2; omega) (by decide)
theorem ev_has (hT : trAt h t n K B D) (i : Int32) : iEv mX7_has [.ref t, .int i] h (some (.int (iB (!decide (i < 0) && !decide (nI n ≤ i))))) h := by
  refine J7_has ?_
  simp only [X7_has_0, X7_has_1, X7_has_4, X7_has_5, X7_has_6, X7_has_9, X7_has_12, X7_has_13, X7_has_16, X7_has_17z, X7_has_17o, hT.s, iOb_some]
  by_cases h1 : i < 0
  · simp [h1]
  · by_cases h2 : nI n ≤ i
    · simp [h1, h2]
    · simp [h1, h2]
theorem has_in {i : Nat} (hi : i < n) (hn : n ≤ 80) : (!decide (nI i < 0) && !decide (nI n ≤ nI i)) = true := by
  have h1 : ¬ nI i < 0 := nI_pos (by omega)
  have h2 : ¬ nI n ≤ nI i := nI_ge hi (by omega)
  simp [h1, h2]
theorem ev_hasI (hT : trAt h t n K B D) {i : Nat} (hi : i < n) : iEv mX7_has [.ref t, .int (nI i)] h (some (.int (iB true))) h := by
  have := ev_has hT (nI i)
  rwa [has_in hi hT.2.2.2.2] at this
theorem ev_keyAt (hT : trAt h t n K B D) {i : Nat} (hi : i < n) : iEv mX7_keyAt [.ref t, .int (nI i)] h (some (.int (K i))) h := by
  refine J7_keyAt ?_
  simp only [X7_keyAt_0, X7_keyAt_1, X7_keyAt_2 (ev_hasI hT hi) hT.o, X7_keyAt_5, iB_0, Bool.true_eq_false, if_false, X7_keyAt_8, X7_keyAt_9, X7_keyAt_12, X7_keyAt_13, hT.k, iOb_some, hT.lk hi, X7_keyAt_14, X7_keyAt_18, and_self]
theorem whereOf_loop (hT : trAt h t n K B D) (k : Int32) (Q : Option Value → iHp → Prop) : ∀ (m i : Nat), i + m = n → iWp 1 mX7_whereOf 2 [.ref t, .int k, .int (nI i)] [] h Q = Q (some (.int (oI (tW K k i m)))) h := by
  intro m
  induction m with
  | zero =>
    intro i hi
    have hn := hT.2.2.2.2
    have e : nI n ≤ nI i := nI_le (by omega) (by omega)
    rw [X7_whereOf_2]
    simp only [X7_whereOf_3, X7_whereOf_4, hT.s, iOb_some, X7_whereOf_7, if_pos e, X7_whereOf_28, X7_whereOf_29, tW, oI]
  | succ m ih =>
    intro i hi
    have hn := hT.2.2.2.2
    have e : ¬ nI n ≤ nI i := nI_ge (by omega) (by omega)
    rw [X7_whereOf_2]
    simp only [X7_whereOf_3, X7_whereOf_4, hT.s, iOb_some, X7_whereOf_7, if_neg e, X7_whereOf_10, X7_whereOf_11, hT.k, X7_whereOf_14, X7_whereOf_15, hT.lk (show i < n by omega), X7_whereOf_16, X7_whereOf_17, X7_whereOf_20, X7_whereOf_21, X7_whereOf_22, X7_whereOf_25, iClr_i, iClr_r, nI_1]
    rw [ih (i + 1) (by omega)]
    by_cases hk : K i = k
    · simp [hk, tW, oI]
    · simp [hk, tW]
theorem ev_whereOf (hT : trAt h t n K B D) (k : Int32) : iEv mX7_whereOf [.ref t, .int k] h (some (.int (oI (tWhere K n k)))) h := by
  refine J7_whereOf ?_
  simp only [X7_whereOf_0, X7_whereOf_1, iClr_i]
  exact (whereOf_loop hT k _ n 0 (by omega)).mpr ⟨rfl, rfl⟩
def dI (j : Nat) : Int32 := match j with
  | 0 => -1
  | j + 1 => nI j
theorem dI_m (j : Nat) : nI j + (-1) = dI j := by
  cases j with
  | zero => decide
  | succ j => exact pk_m1 j
theorem dI_s (j : Nat) : nI j - 1 = dI j := by
  cases j with
  | zero => decide
  | succ j => exact nI_pred j
theorem dI_0 : dI 0 = -1 := rfl
theorem dI_c (j : Nat) : dI (j + 1) = nI j := rfl
theorem ev_hasN (hT : trAt h t n K B D) : iEv mX7_has [.ref t, .int (-1)] h (some (.int (iB false))) h := by
  have := ev_has hT (-1)
  rwa [show (!decide ((-1 : Int32) < 0) && !decide (nI n ≤ -1)) = false by simp [show (-1 : Int32) < 0 by decide]] at this
theorem ev_keyAtN (hT : trAt h t n K B D) : iEv mX7_keyAt [.ref t, .int (-1)] h (some (.int 0)) h := by
  refine J7_keyAt ?_
  simp only [X7_keyAt_0, X7_keyAt_1, X7_keyAt_2 (ev_hasN hT) hT.o, X7_keyAt_5, X7_keyAt_8, X7_keyAt_9, X7_keyAt_12, X7_keyAt_13, X7_keyAt_14, X7_keyAt_17, X7_keyAt_18, iOb_some, iClr_i, iClr_r, iClr_n, iClr_u, iClr_l, rf_s, rf_n, iB_0, iSum_nil, if_true, and_self]
theorem ev_labelAt (hT : trAt h t n K B D) {i : Nat} (hi : i < n) : iEv mX7_labelAt [.ref t, .int (nI i)] h (some (.int (B i))) h := by
  refine J7_labelAt ?_
  simp only [X7_labelAt_0, X7_labelAt_1, X7_labelAt_2 (ev_hasI hT hi) hT.o, X7_labelAt_5, X7_labelAt_8, X7_labelAt_9, X7_labelAt_12, X7_labelAt_13, X7_labelAt_14, X7_labelAt_17, X7_labelAt_18, iOb_some, iClr_i, iClr_r, iClr_n, iClr_u, iClr_l, rf_s, rf_n, iB_0, iSum_nil, Bool.true_eq_false, if_false, hT.b, hT.lb hi, and_self]
theorem ev_depthAt (hT : trAt h t n K B D) {i : Nat} (hi : i < n) : iEv mX7_depthAt [.ref t, .int (nI i)] h (some (.int (D i))) h := by
  refine J7_depthAt ?_
  simp only [X7_depthAt_0, X7_depthAt_1, X7_depthAt_2 (ev_hasI hT hi) hT.o, X7_depthAt_5, X7_depthAt_8, X7_depthAt_9, X7_depthAt_12, X7_depthAt_13, X7_depthAt_14, X7_depthAt_17, X7_depthAt_18, iOb_some, iClr_i, iClr_r, iClr_n, iClr_u, iClr_l, rf_s, rf_n, iB_0, iSum_nil, Bool.true_eq_false, if_false, hT.d, hT.ld hi, and_self]
theorem parentAt_loop (hT : trAt h t n K B D) {i : Nat} (hi : i < n) (Q : Option Value → iHp → Prop) : ∀ j, j ≤ i → iWp 2 mX7_parentAt 12 [.ref t, .int (nI i), .int (dI j)] [] h Q = Q (some (.int (oI (tP D (D i) j)))) h := by
  intro j
  induction j with
  | zero =>
    intro hj
    rw [X7_parentAt_12]
    simp only [X7_parentAt_0, X7_parentAt_1, X7_parentAt_5, X7_parentAt_8, X7_parentAt_9, X7_parentAt_10, X7_parentAt_11, X7_parentAt_13, X7_parentAt_16, X7_parentAt_17, X7_parentAt_20, X7_parentAt_21, X7_parentAt_22, X7_parentAt_23, X7_parentAt_26, X7_parentAt_27, X7_parentAt_28, X7_parentAt_31, X7_parentAt_32, X7_parentAt_33, X7_parentAt_36, X7_parentAt_39, X7_parentAt_40, iOb_some, iClr_i, iClr_r, iClr_n, iClr_u, iClr_l, rf_s, rf_n, iB_0, iSum_nil, dI_0, if_pos (show (-1 : Int32) < 0 by decide), tP, oI]
  | succ j ih =>
    intro hj
    have e : ¬ nI j < 0 := nI_pos (by have := hT.2.2.2.2; omega)
    rw [X7_parentAt_12]
    simp only [X7_parentAt_0, X7_parentAt_1, X7_parentAt_5, X7_parentAt_8, X7_parentAt_9, X7_parentAt_10, X7_parentAt_11, X7_parentAt_13, X7_parentAt_16, X7_parentAt_17, X7_parentAt_20, X7_parentAt_21, X7_parentAt_22, X7_parentAt_23, X7_parentAt_26, X7_parentAt_27, X7_parentAt_28, X7_parentAt_31, X7_parentAt_32, X7_parentAt_33, X7_parentAt_36, X7_parentAt_39, X7_parentAt_40, iOb_some, iClr_i, iClr_r, iClr_n, iClr_u, iClr_l, rf_s, rf_n, iB_0, iSum_nil, dI_c, if_neg e, hT.d, hT.ld hi, hT.ld (show j < n by omega)]
    rw [dI_m, ih (by omega)]
    by_cases hk : D i ≤ D j
    · simp [hk, tP, Int32.not_lt.mpr hk]
    · simp [hk, tP, Int32.not_le.mp hk, oI]
theorem ev_parentAt (hT : trAt h t n K B D) {i : Nat} (hi : i < n) : iEv mX7_parentAt [.ref t, .int (nI i)] h (some (.int (oI (tPar D i)))) h := by
  refine J7_parentAt ?_
  simp only [X7_parentAt_0, X7_parentAt_1, X7_parentAt_2 (ev_hasI hT hi) hT.o, X7_parentAt_5, X7_parentAt_8, X7_parentAt_9, X7_parentAt_10, X7_parentAt_11, X7_parentAt_13, X7_parentAt_16, X7_parentAt_17, X7_parentAt_20, X7_parentAt_21, X7_parentAt_22, X7_parentAt_23, X7_parentAt_26, X7_parentAt_27, X7_parentAt_28, X7_parentAt_31, X7_parentAt_32, X7_parentAt_33, X7_parentAt_36, X7_parentAt_39, X7_parentAt_40, iOb_some, iClr_i, iClr_r, iClr_n, iClr_u, iClr_l, rf_s, rf_n, iB_0, iSum_nil, Bool.true_eq_false, if_false, dI_s]
  rw [parentAt_loop hT hi _ i (Nat.le_refl _)]
  exact ⟨rfl, rfl⟩
theorem tP_lt {d : Int32} : ∀ {j p : Nat}, tP D d j = some p → p < j ∧ D p < d
  | 0, p, h => by cases h
  | j + 1, p, h => by
    unfold tP at h
    split at h
    · cases h
      exact ⟨Nat.lt_succ_self _, by assumption⟩
    · have := tP_lt h
      exact ⟨by omega, this.2⟩
def tPK (K D : Nat → Int32) (i : Nat) : Int32 := match tPar D i with
  | none => 0
  | some p => K p
theorem ev_parentKeyAt (hT : trAt h t n K B D) {i : Nat} (hi : i < n) : iEv mX7_parentKeyAt [.ref t, .int (nI i)] h (some (.int (tPK K D i))) h := by
  refine J7_parentKeyAt ?_
  have e := ev_parentAt hT hi
  unfold tPK
  cases hp : tPar D i with
  | none =>
    rw [hp] at e
    simp only [X7_parentKeyAt_0, X7_parentKeyAt_1, X7_parentKeyAt_2, X7_parentKeyAt_3 e hT.o, X7_parentKeyAt_6 (ev_keyAtN hT) hT.o, X7_parentKeyAt_9, iOb_some, iClr_i, iClr_r, iClr_n, iClr_u, iClr_l, rf_s, rf_n, iB_0, iSum_nil, oI, and_self]
  | some p =>
    rw [hp] at e
    simp only [X7_parentKeyAt_0, X7_parentKeyAt_1, X7_parentKeyAt_2, X7_parentKeyAt_3 e hT.o, X7_parentKeyAt_6 (ev_keyAt hT (show p < n by have := (tP_lt hp).1; omega)) hT.o, X7_parentKeyAt_9, iOb_some, iClr_i, iClr_r, iClr_n, iClr_u, iClr_l, rf_s, rf_n, iB_0, iSum_nil, oI, and_self]
theorem placeAt_loop (hT : trAt h t n K B D) {i : Nat} (hi : i < n) (Q : Option Value → iHp → Prop) : ∀ j c, j ≤ i → iWp 2 mX7_placeAt 14 [.ref t, .int (nI i), .int (nI c), .int (dI j)] [] h Q = Q (some (.int (nI (tL D (D i) j c)))) h := by
  intro j
  induction j with
  | zero =>
    intro c hj
    rw [X7_placeAt_14]
    simp only [X7_placeAt_0, X7_placeAt_1, X7_placeAt_2, X7_placeAt_3, X7_placeAt_7, X7_placeAt_10, X7_placeAt_11, X7_placeAt_12, X7_placeAt_13, X7_placeAt_15, X7_placeAt_18, X7_placeAt_19, X7_placeAt_22, X7_placeAt_23, X7_placeAt_24, X7_placeAt_25, X7_placeAt_28, X7_placeAt_29, X7_placeAt_30, X7_placeAt_33, X7_placeAt_34, X7_placeAt_37, X7_placeAt_38, X7_placeAt_39, X7_placeAt_40, X7_placeAt_43, X7_placeAt_44, X7_placeAt_45, X7_placeAt_48, X7_placeAt_51, X7_placeAt_54, X7_placeAt_57, X7_placeAt_58, iOb_some, iClr_i, iClr_r, iClr_n, iClr_u, iClr_l, rf_s, rf_n, iB_0, iSum_nil, dI_0, if_pos (show (-1 : Int32) < 0 by decide), tL]
  | succ j ih =>
    intro c hj
    have e : ¬ nI j < 0 := nI_pos (by have := hT.2.2.2.2; omega)
    rw [X7_placeAt_14]
    simp only [X7_placeAt_0, X7_placeAt_1, X7_placeAt_2, X7_placeAt_3, X7_placeAt_7, X7_placeAt_10, X7_placeAt_11, X7_placeAt_12, X7_placeAt_13, X7_placeAt_15, X7_placeAt_18, X7_placeAt_19, X7_placeAt_22, X7_placeAt_23, X7_placeAt_24, X7_placeAt_25, X7_placeAt_28, X7_placeAt_29, X7_placeAt_30, X7_placeAt_33, X7_placeAt_34, X7_placeAt_37, X7_placeAt_38, X7_placeAt_39, X7_placeAt_40, X7_placeAt_43, X7_placeAt_44, X7_placeAt_45, X7_placeAt_48, X7_placeAt_51, X7_placeAt_54, X7_placeAt_57, X7_placeAt_58, iOb_some, iClr_i, iClr_r, iClr_n, iClr_u, iClr_l, rf_s, rf_n, iB_0, iSum_nil, dI_c, if_neg e, hT.d, hT.ld hi, hT.ld (show j < n by omega), dI_m, nI_1]
    rw [ih c (by omega), ih (c + 1) (by omega)]
    by_cases hk : D j < D i
    · simp [hk, tL]
    · by_cases h2 : D j = D i
      · simp [h2, tL]
      · simp [hk, h2, tL]
theorem ev_placeAt (hT : trAt h t n K B D) {i : Nat} (hi : i < n) : iEv mX7_placeAt [.ref t, .int (nI i)] h (some (.int (nI (tPlace D i)))) h := by
  refine J7_placeAt ?_
  simp only [X7_placeAt_0, X7_placeAt_1, X7_placeAt_2, X7_placeAt_3, X7_placeAt_4 (ev_hasI hT hi) hT.o, X7_placeAt_7, X7_placeAt_10, X7_placeAt_11, X7_placeAt_12, X7_placeAt_13, X7_placeAt_15, X7_placeAt_18, X7_placeAt_19, X7_placeAt_22, X7_placeAt_23, X7_placeAt_24, X7_placeAt_25, X7_placeAt_28, X7_placeAt_29, X7_placeAt_30, X7_placeAt_33, X7_placeAt_34, X7_placeAt_37, X7_placeAt_38, X7_placeAt_39, X7_placeAt_40, X7_placeAt_43, X7_placeAt_44, X7_placeAt_45, X7_placeAt_48, X7_placeAt_51, X7_placeAt_54, X7_placeAt_57, X7_placeAt_58, iOb_some, iClr_i, iClr_r, iClr_n, iClr_u, iClr_l, rf_s, rf_n, iB_0, iSum_nil, Bool.true_eq_false, if_false, dI_s]
  exact (placeAt_loop hT hi _ i 0 (Nat.le_refl _)).mpr ⟨rfl, rfl⟩
theorem endOf_loop (hT : trAt h t n K B D) {i : Nat} (hi : i < n) (Q : Option Value → iHp → Prop) : ∀ m e, e + m = n → iWp 2 mX7_endOf 12 [.ref t, .int (nI i), .int (nI e)] [] h Q = Q (some (.int (nI (tE D (D i) e m)))) h := by
  intro m
  have hn := hT.2.2.2.2
  induction m with
  | zero =>
    intro e he
    rw [X7_endOf_12]
    simp only [X7_endOf_0, X7_endOf_1, X7_endOf_2, X7_endOf_3, X7_endOf_4, X7_endOf_5, X7_endOf_9, X7_endOf_13, X7_endOf_14, X7_endOf_17, X7_endOf_20, X7_endOf_21, X7_endOf_24, X7_endOf_25, X7_endOf_26, X7_endOf_27, X7_endOf_30, X7_endOf_31, X7_endOf_32, X7_endOf_35, X7_endOf_38, X7_endOf_41, X7_endOf_42, iOb_some, iClr_i, iClr_r, iClr_n, iClr_u, iClr_l, rf_s, rf_n, iB_0, iSum_nil, hT.s, if_pos (nI_le (show n ≤ e by omega) (by omega)), tE]
  | succ m ih =>
    intro e he
    rw [X7_endOf_12]
    simp only [X7_endOf_0, X7_endOf_1, X7_endOf_2, X7_endOf_3, X7_endOf_4, X7_endOf_5, X7_endOf_9, X7_endOf_13, X7_endOf_14, X7_endOf_17, X7_endOf_20, X7_endOf_21, X7_endOf_24, X7_endOf_25, X7_endOf_26, X7_endOf_27, X7_endOf_30, X7_endOf_31, X7_endOf_32, X7_endOf_35, X7_endOf_38, X7_endOf_41, X7_endOf_42, iOb_some, iClr_i, iClr_r, iClr_n, iClr_u, iClr_l, rf_s, rf_n, iB_0, iSum_nil, hT.s, if_neg (nI_ge (show e < n by omega) (by omega)), hT.d, hT.ld hi, hT.ld (show e < n by omega), nI_1]
    rw [ih (e + 1) (by omega)]
    by_cases hk : D e ≤ D i
    · simp [hk, tE, Int32.not_lt.mpr hk]
    · simp [hk, tE, Int32.not_le.mp hk]
theorem ev_endOf (hT : trAt h t n K B D) {i : Nat} (hi : i < n) : iEv mX7_endOf [.ref t, .int (nI i)] h (some (.int (nI (tEnd D n i)))) h := by
  refine J7_endOf ?_
  simp only [X7_endOf_0, X7_endOf_1, X7_endOf_2, X7_endOf_3, X7_endOf_4, X7_endOf_5, X7_endOf_6 (ev_hasI hT hi) hT.o, X7_endOf_9, X7_endOf_13, X7_endOf_14, X7_endOf_17, X7_endOf_20, X7_endOf_21, X7_endOf_24, X7_endOf_25, X7_endOf_26, X7_endOf_27, X7_endOf_30, X7_endOf_31, X7_endOf_32, X7_endOf_35, X7_endOf_38, X7_endOf_41, X7_endOf_42, iOb_some, iClr_i, iClr_r, iClr_n, iClr_u, iClr_l, rf_s, rf_n, iB_0, iSum_nil, Bool.true_eq_false, if_false, nI_1]
  rw [endOf_loop hT hi _ (n - (i + 1)) (i + 1) (by omega)]
  exact ⟨rfl, rfl⟩
theorem childCount_loop (hT : trAt h t n K B D) {i : Nat} (hi : i < n) (Q : Option Value → iHp → Prop) : ∀ m e c, e + m = n → iWp 2 mX7_childCount 14 [.ref t, .int (nI i), .int (nI c), .int (nI e)] [] h Q = Q (some (.int (nI (tC D (D i) e m c)))) h := by
  intro m
  have hn := hT.2.2.2.2
  induction m with
  | zero =>
    intro e c he
    rw [X7_childCount_14]
    simp only [X7_childCount_0, X7_childCount_1, X7_childCount_2, X7_childCount_3, X7_childCount_7, X7_childCount_10, X7_childCount_11, X7_childCount_12, X7_childCount_13, X7_childCount_15, X7_childCount_16, X7_childCount_19, X7_childCount_22, X7_childCount_23, X7_childCount_26, X7_childCount_27, X7_childCount_28, X7_childCount_29, X7_childCount_32, X7_childCount_33, X7_childCount_34, X7_childCount_37, X7_childCount_38, X7_childCount_41, X7_childCount_42, X7_childCount_43, X7_childCount_44, X7_childCount_47, X7_childCount_48, X7_childCount_49, X7_childCount_50, X7_childCount_51, X7_childCount_54, X7_childCount_57, X7_childCount_60, X7_childCount_63, X7_childCount_64, iOb_some, iClr_i, iClr_r, iClr_n, iClr_u, iClr_l, rf_s, rf_n, iB_0, iSum_nil, hT.s, if_pos (nI_le (show n ≤ e by omega) (by omega)), tC]
  | succ m ih =>
    intro e c he
    rw [X7_childCount_14]
    simp only [X7_childCount_0, X7_childCount_1, X7_childCount_2, X7_childCount_3, X7_childCount_7, X7_childCount_10, X7_childCount_11, X7_childCount_12, X7_childCount_13, X7_childCount_15, X7_childCount_16, X7_childCount_19, X7_childCount_22, X7_childCount_23, X7_childCount_26, X7_childCount_27, X7_childCount_28, X7_childCount_29, X7_childCount_32, X7_childCount_33, X7_childCount_34, X7_childCount_37, X7_childCount_38, X7_childCount_41, X7_childCount_42, X7_childCount_43, X7_childCount_44, X7_childCount_47, X7_childCount_48, X7_childCount_49, X7_childCount_50, X7_childCount_51, X7_childCount_54, X7_childCount_57, X7_childCount_60, X7_childCount_63, X7_childCount_64, iOb_some, iClr_i, iClr_r, iClr_n, iClr_u, iClr_l, rf_s, rf_n, iB_0, iSum_nil, hT.s, if_neg (nI_ge (show e < n by omega) (by omega)), hT.d, hT.ld hi, hT.ld (show e < n by omega), nI_1]
    rw [ih (e + 1) c (by omega), ih (e + 1) (c + 1) (by omega)]
    by_cases hk : D e ≤ D i
    · simp [hk, tC, Int32.not_lt.mpr hk]
    · by_cases h2 : D e = D i + 1
      · rw [if_neg hk, if_pos h2]
        show _ = Q (some (.int (nI (if D i < D e then tC D (D i) (e + 1) m (if D e = D i + 1 then c + 1 else c) else c)))) h
        rw [if_pos (Int32.not_le.mp hk), if_pos h2]
      · simp [hk, tC, Int32.not_le.mp hk, h2]
theorem ev_childCount (hT : trAt h t n K B D) {i : Nat} (hi : i < n) : iEv mX7_childCount [.ref t, .int (nI i)] h (some (.int (nI (tKids D n i)))) h := by
  refine J7_childCount ?_
  simp only [X7_childCount_0, X7_childCount_1, X7_childCount_2, X7_childCount_3, X7_childCount_4 (ev_hasI hT hi) hT.o, X7_childCount_7, X7_childCount_10, X7_childCount_11, X7_childCount_12, X7_childCount_13, X7_childCount_15, X7_childCount_16, X7_childCount_19, X7_childCount_22, X7_childCount_23, X7_childCount_26, X7_childCount_27, X7_childCount_28, X7_childCount_29, X7_childCount_32, X7_childCount_33, X7_childCount_34, X7_childCount_37, X7_childCount_38, X7_childCount_41, X7_childCount_42, X7_childCount_43, X7_childCount_44, X7_childCount_47, X7_childCount_48, X7_childCount_49, X7_childCount_50, X7_childCount_51, X7_childCount_54, X7_childCount_57, X7_childCount_60, X7_childCount_63, X7_childCount_64, iOb_some, iClr_i, iClr_r, iClr_n, iClr_u, iClr_l, rf_s, rf_n, iB_0, iSum_nil, Bool.true_eq_false, if_false, nI_1]
  exact (childCount_loop hT hi _ (n - (i + 1)) (i + 1) 0 (by omega)).mpr ⟨rfl, rfl⟩
end TREE

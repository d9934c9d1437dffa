/-! the class's Tree, further reads, and writes; trH: a heap with that Tree in it -/
section TREE2
variable {h b : iHp} {t n : Nat} {K B D : Nat → Int32}
/-- where the child at a place stands, or would: without one of them -/
def tSp (D : Nat → Int32) (d1 : Int32) (pl wo : Int32) (en : Nat) : Nat → Nat → Nat → Nat
  | _, 0, _ => en
  | i, m + 1, a => if D i = d1 then (if nI i = wo then tSp D d1 pl wo en (i + 1) m a else if nI a = pl then i else tSp D d1 pl wo en (i + 1) m (a + 1)) else tSp D d1 pl wo en (i + 1) m a
def tSpot (D : Nat → Int32) (n p : Nat) (pl wo : Int32) : Nat := tSp D (D p + 1) pl wo (tEnd D n p) (p + 1) (tEnd D n p - (p + 1)) 0
theorem spot_loop (hT : trAt h t n K B D) {p : Nat} (hp : p < n) (pl wo : Int32) (Q : Option Value → iHp → Prop) : ∀ m i a, i + m = tEnd D n p → p < i → iWp 3 mX7_spot 15 [.ref t, .int (nI p), .int pl, .int wo, .int (nI (tEnd D n p)), .int (nI a), .int (nI i)] [] h Q = Q (some (.int (nI (tSp D (D p + 1) pl wo (tEnd D n p) i m a)))) h := by
  intro m
  have hE := tEnd_gt (D := D) hp
  have hn := hT.2.2.2.2
  induction m with
  | zero =>
    intro i a hi h1
    rw [X7_spot_15]
    simp only [X7_spot_0, X7_spot_1, X7_spot_5, X7_spot_7, X7_spot_8, X7_spot_10, X7_spot_11, X7_spot_12, X7_spot_13, X7_spot_17, X7_spot_19, X7_spot_22, X7_spot_23, X7_spot_28, X7_spot_29, X7_spot_33, X7_spot_34, X7_spot_35, X7_spot_38, X7_spot_40, X7_spot_41, X7_spot_44, X7_spot_46, X7_spot_47, X7_spot_50, X7_spot_52, X7_spot_53, X7_spot_56, X7_spot_59, X7_spot_62, X7_spot_64, iOb_some, iClr_i, iClr_r, iClr_n, iClr_u, iClr_l, rf_s, rf_n, iB_0, iSum_nil, if_pos (nI_le (show tEnd D n p ≤ i by omega) (by omega)), tSp]
  | succ m ih =>
    intro i a hi h1
    rw [X7_spot_15]
    simp only [X7_spot_0, X7_spot_1, X7_spot_5, X7_spot_7, X7_spot_8, X7_spot_10, X7_spot_11, X7_spot_12, X7_spot_13, X7_spot_17, X7_spot_19, X7_spot_22, X7_spot_23, X7_spot_25 (ev_depthAt hT (show i < n by omega)) hT.o, X7_spot_28, X7_spot_29, X7_spot_30 (ev_depthAt hT hp) hT.o, X7_spot_33, X7_spot_34, X7_spot_35, X7_spot_38, X7_spot_40, X7_spot_41, X7_spot_44, X7_spot_46, X7_spot_47, X7_spot_50, X7_spot_52, X7_spot_53, X7_spot_56, X7_spot_59, X7_spot_62, X7_spot_64, iOb_some, iClr_i, iClr_r, iClr_n, iClr_u, iClr_l, rf_s, rf_n, iB_0, iSum_nil, if_neg (nI_ge (show i < tEnd D n p by omega) (by omega)), nI_1]
    rw [ih (i + 1) a (by omega) (by omega), ih (i + 1) (a + 1) (by omega) (by omega)]
    show _ = Q (some (.int (nI (if D i = D p + 1 then (if nI i = wo then tSp D (D p + 1) pl wo (tEnd D n p) (i + 1) m a else if nI a = pl then i else tSp D (D p + 1) pl wo (tEnd D n p) (i + 1) m (a + 1)) else tSp D (D p + 1) pl wo (tEnd D n p) (i + 1) m a)))) h
    by_cases c1 : D i = D p + 1
    · rw [if_pos c1, if_pos c1]
      by_cases c2 : nI i = wo
      · rw [if_pos c2, if_pos c2]
      · rw [if_neg c2, if_neg c2]
        by_cases c3 : nI a = pl
        · rw [if_pos c3, if_pos c3]
        · rw [if_neg c3, if_neg c3]
    · rw [if_neg c1, if_neg c1]
theorem ev_spot (hT : trAt h t n K B D) {p : Nat} (hp : p < n) (pl wo : Int32) : iEv mX7_spot [.ref t, .int (nI p), .int pl, .int wo] h (some (.int (nI (tSpot D n p pl wo)))) h := by
  refine J7_spot ?_
  have hE := tEnd_gt (D := D) hp
  simp only [X7_spot_0, X7_spot_1, X7_spot_2 (ev_endOf hT hp) hT.o, X7_spot_5, X7_spot_7, X7_spot_8, X7_spot_10, X7_spot_11, X7_spot_12, X7_spot_13, X7_spot_17, X7_spot_19, X7_spot_22, X7_spot_23, X7_spot_28, X7_spot_29, X7_spot_33, X7_spot_34, X7_spot_35, X7_spot_38, X7_spot_40, X7_spot_41, X7_spot_44, X7_spot_46, X7_spot_47, X7_spot_50, X7_spot_52, X7_spot_53, X7_spot_56, X7_spot_59, X7_spot_62, X7_spot_64, iOb_some, iClr_i, iClr_r, iClr_n, iClr_u, iClr_l, rf_s, rf_n, iB_0, iSum_nil, nI_1]
  exact (spot_loop hT hp pl wo _ (tEnd D n p - (p + 1)) (p + 1) 0 (by omega) (by omega)).mpr ⟨rfl, rfl⟩
theorem ev_isWithin (hT : trAt h t n K B D) {i j : Nat} (hi : i < n) (hj : j < n) : iEv mX7_isWithin [.ref t, .int (nI i), .int (nI j)] h (some (.int (iB (decide (j ≤ i) && decide (i < tEnd D n j))))) h := by
  refine J7_isWithin ?_
  have hE := tEnd_gt (D := D) hj
  have hn := hT.2.2.2.2
  by_cases h1 : i < j
  · simp only [X7_isWithin_0, X7_isWithin_1, X7_isWithin_2, X7_isWithin_5, X7_isWithin_6, X7_isWithin_7, X7_isWithin_11, X7_isWithin_14, X7_isWithin_15, X7_isWithin_18, X7_isWithin_19, X7_isWithin_19z, X7_isWithin_19o, iOb_some, iClr_i, iClr_r, iClr_n, iClr_u, iClr_l, rf_s, rf_n, iB_0, iSum_nil, if_pos (nI_lt h1 (show j < 2 ^ 31 by omega)), show decide (j ≤ i) = false from decide_eq_false (by omega), Bool.false_and, and_self]
  · by_cases h2 : i < tEnd D n j
    · simp only [X7_isWithin_0, X7_isWithin_1, X7_isWithin_2, X7_isWithin_5, X7_isWithin_6, X7_isWithin_7, X7_isWithin_8 (ev_endOf hT hj) hT.o, X7_isWithin_11, X7_isWithin_14, X7_isWithin_15, X7_isWithin_18, X7_isWithin_19, X7_isWithin_19z, X7_isWithin_19o, iOb_some, iClr_i, iClr_r, iClr_n, iClr_u, iClr_l, rf_s, rf_n, iB_0, iSum_nil, if_neg (nI_nlt (show j ≤ i by omega) (by omega)), if_neg (nI_ge h2 (by omega)), show decide (j ≤ i) = true from decide_eq_true (by omega), decide_eq_true h2, Bool.true_and, and_self]
    · simp only [X7_isWithin_0, X7_isWithin_1, X7_isWithin_2, X7_isWithin_5, X7_isWithin_6, X7_isWithin_7, X7_isWithin_8 (ev_endOf hT hj) hT.o, X7_isWithin_11, X7_isWithin_14, X7_isWithin_15, X7_isWithin_18, X7_isWithin_19, X7_isWithin_19z, X7_isWithin_19o, iOb_some, iClr_i, iClr_r, iClr_n, iClr_u, iClr_l, rf_s, rf_n, iB_0, iSum_nil, if_neg (nI_nlt (show j ≤ i by omega) (by omega)), if_pos (nI_le (show tEnd D n j ≤ i by omega) (by omega)), decide_eq_false h2, Bool.and_false, and_self]
/-- j is at or below i -/
def tIn (D : Nat → Int32) (n i j : Nat) : Bool := decide (j ≤ i) && decide (i < tEnd D n j)
def tLow (D : Nat → Int32) (n i j : Nat) : Nat → Nat
  | 0 => 0
  | p + 1 => if tIn D n i (p + 1) = true ∧ tIn D n j (p + 1) = true then p + 1 else tLow D n i j p
theorem lowestOver_loop (hT : trAt h t n K B D) {i j : Nat} (hi : i < n) (hj : j < n) (Q : Option Value → iHp → Prop) : ∀ p, p ≤ i → iWp 4 mX7_lowestOver 2 [.ref t, .int (nI i), .int (nI j), .int (nI p)] [] h Q = Q (some (.int (nI (tLow D n i j p)))) h := by
  intro p
  have hn := hT.2.2.2.2
  induction p with
  | zero =>
    intro hp
    rw [X7_lowestOver_2]
    simp only [X7_lowestOver_0, X7_lowestOver_1, X7_lowestOver_3, X7_lowestOver_6, X7_lowestOver_7, X7_lowestOver_8, X7_lowestOver_12, X7_lowestOver_15, X7_lowestOver_16, X7_lowestOver_17, X7_lowestOver_21, X7_lowestOver_24, X7_lowestOver_25, X7_lowestOver_26, X7_lowestOver_29, X7_lowestOver_32, X7_lowestOver_33, iOb_some, iClr_i, iClr_r, iClr_n, iClr_u, iClr_l, rf_s, rf_n, iB_0, iSum_nil, show nI 0 ≤ 0 from by decide, if_true, tLow]
    rfl
  | succ p ih =>
    intro hp
    have e : ¬ nI (p + 1) ≤ 0 := nI_nle (by omega) (by omega)
    rw [X7_lowestOver_2]
    simp only [X7_lowestOver_0, X7_lowestOver_1, X7_lowestOver_3, X7_lowestOver_6, X7_lowestOver_7, X7_lowestOver_8, X7_lowestOver_9 (ev_isWithin hT hi (show p + 1 < n by omega)) hT.o, X7_lowestOver_12, X7_lowestOver_15, X7_lowestOver_16, X7_lowestOver_17, X7_lowestOver_18 (ev_isWithin hT hj (show p + 1 < n by omega)) hT.o, X7_lowestOver_21, X7_lowestOver_24, X7_lowestOver_25, X7_lowestOver_26, X7_lowestOver_29, X7_lowestOver_32, X7_lowestOver_33, iOb_some, iClr_i, iClr_r, iClr_n, iClr_u, iClr_l, rf_s, rf_n, iB_0, iSum_nil, if_neg e, dI_m, dI_c]
    rw [ih (by omega)]
    show _ = Q (some (.int (nI (if tIn D n i (p + 1) = true ∧ tIn D n j (p + 1) = true then p + 1 else tLow D n i j p)))) h
    unfold tIn
    cases c1 : (decide (p + 1 ≤ i) && decide (i < tEnd D n (p + 1))) <;> cases c2 : (decide (p + 1 ≤ j) && decide (j < tEnd D n (p + 1))) <;> simp
theorem ev_lowestOver (hT : trAt h t n K B D) {i j : Nat} (hi : i < n) (hj : j < n) : iEv mX7_lowestOver [.ref t, .int (nI i), .int (nI j)] h (some (.int (nI (tLow D n i j i)))) h := by
  refine J7_lowestOver ?_
  simp only [X7_lowestOver_0, X7_lowestOver_1, X7_lowestOver_3, X7_lowestOver_6, X7_lowestOver_7, X7_lowestOver_8, X7_lowestOver_12, X7_lowestOver_15, X7_lowestOver_16, X7_lowestOver_17, X7_lowestOver_21, X7_lowestOver_24, X7_lowestOver_25, X7_lowestOver_26, X7_lowestOver_29, X7_lowestOver_32, X7_lowestOver_33, iOb_some, iClr_i, iClr_r, iClr_n, iClr_u, iClr_l, rf_s, rf_n, iB_0, iSum_nil]
  exact (lowestOver_loop hT hi hj _ i (Nat.le_refl _)).mpr ⟨rfl, rfl⟩
-- writes
def trC (t n : Nat) (K B D : Nat → Int32) (j : Nat) : iPC := match j with
  | 0 => .inr (7, [.ref (t + 1), .ref (t + 2), .ref (t + 3), .int (nI n)])
  | 1 => .inl (0, 80, .inl K)
  | 2 => .inl (0, 80, .inl B)
  | _ => .inl (0, 80, .inl D)
def trH (b : iHp) (t n : Nat) (K B D : Nat → Int32) : iHp := (fun q => if t ≤ q ∧ q < t + 4 then some (trC t n K B D (q - t)) else b.1 q, b.2)
theorem trH_at {p : Nat} (hp : p < 4) : (trH b t n K B D).1 (t + p) = some (trC t n K B D p) := by
  show (if t ≤ t + p ∧ t + p < t + 4 then some (trC t n K B D (t + p - t)) else b.1 (t + p)) = _
  rw [if_pos ⟨by omega, by omega⟩, Nat.add_sub_cancel_left]
theorem trH_tr (hn : n ≤ 80) : trAt (trH b t n K B D) t n K B D := ⟨trH_at (p := 0) (by decide), trH_at (p := 1) (by decide), trH_at (p := 2) (by decide), trH_at (p := 3) (by decide), hn⟩
theorem trAt.eq (hT : trAt h t n K B D) : trH h t n K B D = h := by
  refine Prod.ext (funext fun q => ?_) rfl
  show (if t ≤ q ∧ q < t + 4 then some (trC t n K B D (q - t)) else h.1 q) = h.1 q
  by_cases hq : t ≤ q ∧ q < t + 4
  · rw [if_pos hq]
    obtain ⟨p, rfl⟩ : ∃ p, q = t + p := ⟨q - t, by omega⟩
    rw [Nat.add_sub_cancel_left]
    match p, hq with
    | 0, _ => exact hT.1.symm
    | 1, _ => exact hT.2.1.symm
    | 2, _ => exact hT.2.2.1.symm
    | 3, _ => exact hT.2.2.2.1.symm
    | p + 4, hq => omega
  · rw [if_neg hq]
theorem trH_off {q : Nat} (hq : q < t ∨ t + 4 ≤ q) : (trH b t n K B D).1 q = b.1 q := if_neg (by omega)
theorem trH_set {n' : Nat} {K' B' D' : Nat → Int32} {p : Nat} {c : iPC} (hp : p < 4) (hc : c = trC t n' K' B' D' p) (ho : ∀ q, q < 4 → q ≠ p → trC t n' K' B' D' q = trC t n K B D q) : iSet (trH b t n K B D) (t + p) c = trH b t n' K' B' D' := by
  subst hc
  refine Prod.ext (funext fun q => ?_) rfl
  show (if q = t + p then some (trC t n' K' B' D' p) else (if t ≤ q ∧ q < t + 4 then some (trC t n K B D (q - t)) else b.1 q)) = (if t ≤ q ∧ q < t + 4 then some (trC t n' K' B' D' (q - t)) else b.1 q)
  by_cases e : q = t + p
  · subst e
    rw [if_pos rfl, if_pos ⟨by omega, by omega⟩, Nat.add_sub_cancel_left]
  · rw [if_neg e]
    by_cases hq : t ≤ q ∧ q < t + 4
    · rw [if_pos hq, if_pos hq, ho (q - t) (by omega) (by omega)]
    · rw [if_neg hq, if_neg hq]
theorem i4 {P : Nat → Prop} (h0 : P 0) (h1 : P 1) (h2 : P 2) (h3 : P 3) : ∀ q, q < 4 → P q := by
  intro q hq
  match q, hq with
  | 0, _ => exact h0
  | 1, _ => exact h1
  | 2, _ => exact h2
  | 3, _ => exact h3
  | q + 4, hq => omega
theorem iStI_of {a m j : Nat} {f : Nat → Int32} {v : Int32} (e : h.1 a = some (.inl (0, m, .inl f))) (hj : j < m) (hn : m < 2 ^ 31) : iStI h a (nI j) v = some (iSet h a (.inl (0, m, .inl (upd f j v)))) := by
  unfold iStI
  rw [e]
  dsimp only
  rw [if_pos ⟨rfl, nI_in hj hn⟩, nI_clamp (by omega)]
theorem tr_sk {j : Nat} {v : Int32} (hj : j < 80) : iStI (trH b t n K B D) (t + 1) (nI j) v = some (trH b t n (upd K j v) B D) := by
  rw [iStI_of (trH_at (p := 1) (by decide)) hj (by decide)]
  exact congrArg some (trH_set (p := 1) (by decide) rfl (i4 (fun _ => rfl) (fun h => absurd rfl h) (fun _ => rfl) (fun _ => rfl)))
theorem tr_sb {j : Nat} {v : Int32} (hj : j < 80) : iStI (trH b t n K B D) (t + 2) (nI j) v = some (trH b t n K (upd B j v) D) := by
  rw [iStI_of (trH_at (p := 2) (by decide)) hj (by decide)]
  exact congrArg some (trH_set (p := 2) (by decide) rfl (i4 (fun _ => rfl) (fun _ => rfl) (fun h => absurd rfl h) (fun _ => rfl)))
theorem tr_sd {j : Nat} {v : Int32} (hj : j < 80) : iStI (trH b t n K B D) (t + 3) (nI j) v = some (trH b t n K B (upd D j v)) := by
  rw [iStI_of (trH_at (p := 3) (by decide)) hj (by decide)]
  exact congrArg some (trH_set (p := 3) (by decide) rfl (i4 (fun _ => rfl) (fun _ => rfl) (fun _ => rfl) (fun h => absurd rfl h)))
theorem tr_sn {m : Nat} : iPut (trH b t n K B D) t 7 3 (.int (nI m)) = some (trH b t m K B D) := by
  unfold iPut
  rw [show (trH b t n K B D).1 t = some (.inr (7, [.ref (t + 1), .ref (t + 2), .ref (t + 3), .int (nI n)])) from trH_at (p := 0) (by decide)]
  dsimp only
  rw [if_pos ⟨rfl, Nat.le_of_ble_eq_true rfl⟩]
  exact congrArg some (trH_set (p := 0) (by decide) rfl (i4 (fun h => absurd rfl h) (fun _ => rfl) (fun _ => rfl) (fun _ => rfl)))
theorem iCpy_of {a m sp dp k : Nat} {f : Nat → Int32} (e : h.1 a = some (.inl (0, m, .inl f))) (h1 : sp + k ≤ m) (h2 : dp + k ≤ m) (hm : m < 2 ^ 31) : iCpy h a (nI sp) a (nI dp) (nI k) = some (iSet h a (.inl (0, m, .inl (va_cpy f f sp dp k)))) := by
  unfold iCpy
  rw [e]
  dsimp only
  rw [nI_clamp (show sp < 2 ^ 31 by omega), nI_clamp (show dp < 2 ^ 31 by omega), nI_clamp (show k < 2 ^ 31 by omega)]
  rw [if_pos ⟨rfl, rfl, nI_pos (by omega), nI_pos (by omega), nI_pos (by omega), h1, h2⟩]
theorem tr_ck {sp dp k : Nat} (h1 : sp + k ≤ 80) (h2 : dp + k ≤ 80) : iCpy (trH b t n K B D) (t + 1) (nI sp) (t + 1) (nI dp) (nI k) = some (trH b t n (va_cpy K K sp dp k) B D) := by
  rw [iCpy_of (trH_at (p := 1) (by decide)) h1 h2 (by decide)]
  exact congrArg some (trH_set (p := 1) (by decide) rfl (i4 (fun _ => rfl) (fun h => absurd rfl h) (fun _ => rfl) (fun _ => rfl)))
theorem tr_cb {sp dp k : Nat} (h1 : sp + k ≤ 80) (h2 : dp + k ≤ 80) : iCpy (trH b t n K B D) (t + 2) (nI sp) (t + 2) (nI dp) (nI k) = some (trH b t n K (va_cpy B B sp dp k) D) := by
  rw [iCpy_of (trH_at (p := 2) (by decide)) h1 h2 (by decide)]
  exact congrArg some (trH_set (p := 2) (by decide) rfl (i4 (fun _ => rfl) (fun _ => rfl) (fun h => absurd rfl h) (fun _ => rfl)))
theorem tr_cd {sp dp k : Nat} (h1 : sp + k ≤ 80) (h2 : dp + k ≤ 80) : iCpy (trH b t n K B D) (t + 3) (nI sp) (t + 3) (nI dp) (nI k) = some (trH b t n K B (va_cpy D D sp dp k)) := by
  rw [iCpy_of (trH_at (p := 3) (by decide)) h1 h2 (by decide)]
  exact congrArg some (trH_set (p := 3) (by decide) rfl (i4 (fun _ => rfl) (fun _ => rfl) (fun _ => rfl) (fun h => absurd rfl h)))
theorem tr_k : iGet (trH b t n K B D) t 7 0 = some (.ref (t + 1)) := iGet_of (trH_at (p := 0) (by decide))
theorem tr_b : iGet (trH b t n K B D) t 7 1 = some (.ref (t + 2)) := iGet_of (trH_at (p := 0) (by decide))
theorem tr_d : iGet (trH b t n K B D) t 7 2 = some (.ref (t + 3)) := iGet_of (trH_at (p := 0) (by decide))
theorem tr_n : iGet (trH b t n K B D) t 7 3 = some (.int (nI n)) := iGet_of (trH_at (p := 0) (by decide))
theorem tr_lk {j : Nat} (hj : j < 80) : iLdI (trH b t n K B D) (t + 1) (nI j) = some (K j) := iLdI_of (trH_at (p := 1) (by decide)) hj (by decide)
theorem tr_lb {j : Nat} (hj : j < 80) : iLdI (trH b t n K B D) (t + 2) (nI j) = some (B j) := iLdI_of (trH_at (p := 2) (by decide)) hj (by decide)
theorem tr_ld {j : Nat} (hj : j < 80) : iLdI (trH b t n K B D) (t + 3) (nI j) = some (D j) := iLdI_of (trH_at (p := 3) (by decide)) hj (by decide)
theorem tr_o : iObj (trH b t n K B D) t 7 = true := iObj_of (trH_at (p := 0) (by decide))
theorem ev_rename (hn : n ≤ 80) {i : Nat} (hi : i < n) (v : Int32) : iEv mX7_rename [.ref t, .int (nI i), .int v] (trH b t n K B D) none (trH b t n K (upd B i v) D) := by
  refine J7_rename ?_
  simp only [X7_rename_0, X7_rename_1, X7_rename_2 (ev_hasI (trH_tr hn) hi) tr_o, X7_rename_5, X7_rename_8, X7_rename_9, X7_rename_12, X7_rename_13, X7_rename_14, X7_rename_15, iOb_some, iClr_i, iClr_r, iClr_n, iClr_u, iClr_l, rf_s, rf_n, iB_0, iSum_nil, Bool.true_eq_false, if_false, tr_b, tr_sb (show i < 80 by omega), and_self]
end TREE2

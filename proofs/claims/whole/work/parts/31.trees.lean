/-! TREES, in one language for both sides: keys K, labels, depths D by place in ORDER, n of them -/
def tW (K : Nat → Int32) (k : Int32) : Nat → Nat → Option Nat
  | _, 0 => none
  | i, m + 1 => if K i = k then some i else tW K k (i + 1) m
def tE (D : Nat → Int32) (d : Int32) : Nat → Nat → Nat
  | e, 0 => e
  | e, m + 1 => if d < D e then tE D d (e + 1) m else e
def tP (D : Nat → Int32) (d : Int32) : Nat → Option Nat
  | 0 => none
  | j + 1 => if D j < d then some j else tP D d j
def tC (D : Nat → Int32) (d : Int32) : Nat → Nat → Nat → Nat
  | _, 0, c => c
  | e, m + 1, c => if d < D e then tC D d (e + 1) m (if D e = d + 1 then c + 1 else c) else c
def tL (D : Nat → Int32) (d : Int32) : Nat → Nat → Nat
  | 0, c => c
  | j + 1, c => if D j < d then c else tL D d j (if D j = d then c + 1 else c)
def oI (o : Option Nat) : Int32 := match o with
  | none => -1
  | some i => nI i
/-- where a key stands; where all below ends; the parent; the place; how many children -/
def tWhere (K : Nat → Int32) (n : Nat) (k : Int32) : Option Nat := tW K k 0 n
def tEnd (D : Nat → Int32) (n i : Nat) : Nat := tE D (D i) (i + 1) (n - (i + 1))
def tPar (D : Nat → Int32) (i : Nat) : Option Nat := tP D (D i) i
def tPlace (D : Nat → Int32) (i : Nat) : Nat := tL D (D i) i 0
def tKids (D : Nat → Int32) (n i : Nat) : Nat := tC D (D i) (i + 1) (n - (i + 1)) 0
theorem iGet_of {h : iHp} {a ci k : Nat} {fs : List Value} (e : h.1 a = some (.inr (ci, fs))) : iGet h a ci k = fs[k]? := by
  unfold iGet
  rw [e]
  dsimp only
  rw [if_pos rfl]
theorem iLdI_of {h : iHp} {a n j : Nat} {f : Nat → Int32} (e : h.1 a = some (.inl (0, n, .inl f))) (hj : j < n) (hn : n < 2 ^ 31) : iLdI h a (nI j) = some (f j) := by
  unfold iLdI
  rw [e]
  dsimp only
  rw [if_pos ⟨Or.inl rfl, nI_in hj hn⟩, nI_clamp (by omega)]
theorem iObj_of {h : iHp} {a ci : Nat} {fs : List Value} (e : h.1 a = some (.inr (ci, fs))) : iObj h a ci = true := by
  unfold iObj
  rw [e]
  exact beq_self_eq_true ci
/-- the class's Tree at t -/
def trAt (h : iHp) (t n : Nat) (K B D : Nat → Int32) : Prop := h.1 t = some (.inr (7, [.ref (t + 1), .ref (t + 2), .ref (t + 3), .int (nI n)])) ∧ h.1 (t + 1) = some (.inl (0, 80, .inl K)) ∧ h.1 (t + 2) = some (.inl (0, 80, .inl B)) ∧ h.1 (t + 3) = some (.inl (0, 80, .inl D)) ∧ n ≤ 80
section TREE
variable {h : iHp} {t n : Nat} {K B D : Nat → Int32}
theorem trAt.o (hT : trAt h t n K B D) : iObj h t 7 = true := iObj_of hT.1
theorem trAt.k (hT : trAt h t n K B D) : iGet h t 7 0 = some (.ref (t + 1)) := iGet_of hT.1
theorem trAt.b (hT : trAt h t n K B D) : iGet h t 7 1 = some (.ref (t + 2)) := iGet_of hT.1
theorem trAt.d (hT : trAt h t n K B D) : iGet h t 7 2 = some (.ref (t + 3)) := iGet_of hT.1
theorem trAt.s (hT : trAt h t n K B D) : iGet h t 7 3 = some (.int (nI n)) := iGet_of hT.1
theorem trAt.lk (hT : trAt h t n K B D) {j : Nat} (hj : j < n) : iLdI h (t + 1) (nI j) = some (K j) := iLdI_of hT.2.1 (by have := hT.2.2.2.2; omega) (by decide)
theorem trAt.lb (hT : trAt h t n K B D) {j : Nat} (hj : j < n) : iLdI h (t + 2) (nI j) = some (B j) := iLdI_of hT.2.2.1 (by have := hT.2.2.2.2; omega) (by decide)
theorem trAt.ld (hT : trAt h t n K B D) {j : Nat} (hj : j < n) : iLdI h (t + 3) (nI j) = some (D j) := iLdI_of hT.2.2.2.1 (by have := hT.2.2.2.2; omega) (by decide)
theorem ev_has (hT : trAt h t n K B D) (i : Int32) : iEv mX7_has [.ref t, .int i] h (some (.int (iB (!decide (i < 0) && !decide (nI n ≤ i))))) h := by
  refine J7_has ?_
  simp only [X7_has_0, X7_has_1, X7_has_4, X7_has_5, X7_has_6, X7_has_9, X7_has_12, X7_has_13, X7_has_16, X7_has_17z, X7_has_17o, hT.s, iOb_some]
  by_cases h1 : i < 0
  · simp [h1]
  · by_cases h2 : nI n ≤ i
    · simp [h1, h2]
    · simp [h1, h2]
theorem has_in {i : Nat} (hi : i < n) (hn : n ≤ 80) : (!decide (nI i < 0) && !decide (nI n ≤ nI i)) = true := by
  have h1 : ¬ nI i < 0 := nI_pos (by omega)
  have h2 : ¬ nI n ≤ nI i := nI_ge hi (by omega)
  simp [h1, h2]
theorem ev_hasI (hT : trAt h t n K B D) {i : Nat} (hi : i < n) : iEv mX7_has [.ref t, .int (nI i)] h (some (.int (iB true))) h := by
  have := ev_has hT (nI i)
  rwa [has_in hi hT.2.2.2.2] at this
theorem ev_keyAt (hT : trAt h t n K B D) {i : Nat} (hi : i < n) : iEv mX7_keyAt [.ref t, .int (nI i)] h (some (.int (K i))) h := by
  refine J7_keyAt ?_
  simp only [X7_keyAt_0, X7_keyAt_1, X7_keyAt_2 (ev_hasI hT hi) hT.o, X7_keyAt_5, iB_0, Bool.true_eq_false, if_false, X7_keyAt_8, X7_keyAt_9, X7_keyAt_12, X7_keyAt_13, hT.k, iOb_some, hT.lk hi, X7_keyAt_14, X7_keyAt_18, and_self]
theorem whereOf_loop (hT : trAt h t n K B D) (k : Int32) (Q : Option Value → iHp → Prop) : ∀ (m i : Nat), i + m = n → iWp 1 mX7_whereOf 2 [.ref t, .int k, .int (nI i)] [] h Q = Q (some (.int (oI (tW K k i m)))) h := by
  intro m
  induction m with
  | zero =>
    intro i hi
    have hn := hT.2.2.2.2
    have e : nI n ≤ nI i := nI_le (by omega) (by omega)
    rw [X7_whereOf_2]
    simp only [X7_whereOf_3, X7_whereOf_4, hT.s, iOb_some, X7_whereOf_7, if_pos e, X7_whereOf_28, X7_whereOf_29, tW, oI]
  | succ m ih =>
    intro i hi
    have hn := hT.2.2.2.2
    have e : ¬ nI n ≤ nI i := nI_ge (by omega) (by omega)
    rw [X7_whereOf_2]
    simp only [X7_whereOf_3, X7_whereOf_4, hT.s, iOb_some, X7_whereOf_7, if_neg e, X7_whereOf_10, X7_whereOf_11, hT.k, X7_whereOf_14, X7_whereOf_15, hT.lk (show i < n by omega), X7_whereOf_16, X7_whereOf_17, X7_whereOf_20, X7_whereOf_21, X7_whereOf_22, X7_whereOf_25, iClr_i, iClr_r, nI_1]
    rw [ih (i + 1) (by omega)]
    by_cases hk : K i = k
    · simp [hk, tW, oI]
    · simp [hk, tW]
theorem ev_whereOf (hT : trAt h t n K B D) (k : Int32) : iEv mX7_whereOf [.ref t, .int k] h (some (.int (oI (tWhere K n k)))) h := by
  refine J7_whereOf ?_
  simp only [X7_whereOf_0, X7_whereOf_1, iClr_i]
  exact (whereOf_loop hT k _ n 0 (by omega)).mpr ⟨rfl, rfl⟩
end TREE

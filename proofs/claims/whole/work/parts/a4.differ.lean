/-! difference: what both sides make -/
/-- the tree worked on, how many edits, which -/
abbrev dfX : Type := tT × Nat × (Nat → Nat → Int32)
def dfE (e : Nat → Int32) (X : dfX) : dfX := (ePerf e X.1, X.2.1 + 1, va_up X.2.2 X.2.1 e)
def dfN1 (T U : tT) (i : Nat) (X : dfX) : dfX := match tWhere U.2.1 U.1 (T.2.1 i) with
  | none => X
  | some j => if U.2.2.1 j = T.2.2.1 i then X else dfE (e7 0 (T.2.1 i) (T.2.2.1 i) (U.2.2.1 j) 0 0 0) X
def dfN (T U : tT) : Nat → Nat → dfX → dfX
  | 0, _, X => X
  | k + 1, i, X => dfN T U k (i + 1) (dfN1 T U i X)
/-- who may stay -/
def dfO (U W : tT) (p c : Nat) : Prop := c < U.1 ∧ tPar U.2.2.2 c = some p ∧ ∃ i g, tWhere W.2.1 W.1 (U.2.1 c) = some i ∧ tWhere W.2.1 W.1 (U.2.1 p) = some g ∧ tPar W.2.2.2 i = some g
def dfY (U W : tT) (c : Nat) : Nat := match tWhere W.2.1 W.1 (U.2.1 c) with
  | none => 0
  | some i => i
noncomputable def dfS (U W : tT) (p c : Nat) : Bool := @decide (∃ S, pkS (dfO U W p) (fun q => q) (dfY U W) S ∧ S c) (Classical.propDecidable _)
/-- the one ahead, in W -/
def dfA (U W : tT) (ah : Option Nat) : Option Nat := match ah with
  | none => none
  | some x => tWhere W.2.1 W.1 (U.2.1 x)
/-- the edit that brings c -/
def dfB (U W : tT) (p c : Nat) (ah : Option Nat) : Nat → Int32 := match tWhere W.2.1 W.1 (U.2.1 c) with
  | none => e7 2 (U.2.1 c) (U.2.2.1 c) (U.2.1 p) (nI (bAt W.2.2.2 (dfA U W ah))) 0 0
  | some i => e7 3 (U.2.1 c) 0 (tPK W.2.1 W.2.2.2 i) (nI (tPlace W.2.2.2 i)) (U.2.1 p) (nI (bAt W.2.2.2 (dfA U W ah) - bLs W.2.2.2 i (tWhere W.2.1 W.1 (U.2.1 p)) (dfA U W ah)))
def dfC1 (U : tT) (S : Nat → Bool) (p c : Nat) (ah : Option Nat) (X : dfX) : dfX := if S c = true then X else dfE (dfB U X.1 p c ah) X
def dfC (U : tT) (S : Nat → Bool) (p : Nat) : Nat → Nat → Option Nat → dfX → dfX
  | 0, _, _, X => X
  | k + 1, c, ah, X => if U.2.2.2 c = U.2.2.2 p + 1 then dfC U S p k (c + 1) (some c) (dfC1 U S p c ah X) else dfC U S p k (c + 1) ah X
noncomputable def dfP1 (U : tT) (p : Nat) (X : dfX) : dfX := dfC U (dfS U X.1 p) p (tEnd U.2.2.2 U.1 p - (p + 1)) (p + 1) none X
noncomputable def dfP (U : tT) : Nat → Nat → dfX → dfX
  | 0, _, X => X
  | k + 1, p, X => dfP U k (p + 1) (dfP1 U p X)
/-- TAKE of the one at j -/
def dfT (T W : tT) (i j : Nat) : Nat → Int32 := e7 1 (T.2.1 i) (W.2.2.1 j) (tPK W.2.1 W.2.2.2 j) (nI (tPlace W.2.2.2 j)) 0 0
def dfK1 (T U : tT) (i : Nat) (X : dfX) : dfX := match tWhere U.2.1 U.1 (T.2.1 i) with
  | some _ => X
  | none => match tWhere X.1.2.1 X.1.1 (T.2.1 i) with
    | none => X
    | some j => dfE (dfT T X.1 i j) X
def dfK (T U : tT) : Nat → dfX → dfX
  | 0, X => X
  | k + 1, X => dfK T U k (dfK1 T U k X)
def dfX0 (T : tT) : dfX := (T, 0, fun _ _ => 0)
noncomputable def dfR (T U : tT) : dfX := dfK T U T.1 (dfP U U.1 0 (dfN T U T.1 0 (dfX0 T)))
-- what holds all the way
def dfI (X : dfX) : Prop := tOk X.1 ∧ ∀ j, j < X.2.1 → eOk (X.2.2 j)
/-- is the i-th of T in U -/
def dfU (T U : tT) (i : Nat) : Bool := (tWhere U.2.1 U.1 (T.2.1 i)).isSome
def dN (T U : tT) (i : Nat) (X : dfX) : Prop := dfI X ∧ X.2.1 ≤ nCt (dfU T U) 0 i ∧ X.1.1 = T.1 ∧ X.1.2.1 = T.2.1 ∧ X.1.2.2.2 = T.2.2.2 ∧ ∀ j, i ≤ j → X.1.2.2.1 j = T.2.2.1 j
/-- which are done -/
def dDb (U : tT) (p c a : Nat) : Bool := match tPar U.2.2.2 a with
  | none => false
  | some q => decide (q < p ∨ (q = p ∧ a < c))
def inT (U : tT) (k : Int32) : Prop := ∃ a, a < U.1 ∧ U.2.1 a = k
def dC (T U : tT) (p c A : Nat) (X : dfX) : Prop := dfI X ∧ X.2.1 ≤ A + nCt (dDb U p c) 0 U.1 ∧ vP X.1 (U.2.1 0) = some 0 ∧ (∀ a q, a < U.1 → tPar U.2.2.2 a = some q → (q < p ∨ (q = p ∧ a < c)) → vP X.1 (U.2.1 a) = some (U.2.1 q)) ∧ (∀ k, ¬ inT U k → vP X.1 k = vP T k) ∧ ∀ a, a < U.1 → dDb U p c a = false → (vP X.1 (U.2.1 a) = none ↔ vP T (U.2.1 a) = none)
/-- the one ahead is a child, done -/
def dH (U : tT) (p c : Nat) (ah : Option Nat) : Prop := ∀ x, ah = some x → x < c ∧ tPar U.2.2.2 x = some p
/-- those that stay from c on are there -/
def dV (U : tT) (S : Nat → Bool) (p c : Nat) (X : dfX) : Prop := ∀ a, c ≤ a → a < U.1 → tPar U.2.2.2 a = some p → S a = true → vP X.1 (U.2.1 a) = some (U.2.1 p)
def dfM (T U : tT) (i : Nat) : Bool := ! dfU T U i
def dK (T U : tT) (i A : Nat) (X : dfX) : Prop := dfI X ∧ X.2.1 ≤ A + nCt (dfM T U) i (T.1 - i) ∧ vP X.1 (U.2.1 0) = some 0 ∧ (∀ a q, a < U.1 → tPar U.2.2.2 a = some q → vP X.1 (U.2.1 a) = some (U.2.1 q)) ∧ (∀ k, ¬ inT U k → vP X.1 k = vP T k ∨ vP X.1 k = none) ∧ ∀ j, j < T.1 → ¬ inT U (T.2.1 j) → (j < i → vP X.1 (T.2.1 j) = vP T (T.2.1 j)) ∧ (i ≤ j → vP X.1 (T.2.1 j) = none)
section DIFF
variable {T U W : tT} {X : dfX} {i j k p c q a n A : Nat} {ah : Option Nat} {S : Nat → Bool} {e : Nat → Int32}
theorem dfE_I (h : dfI X) (he : eOk e) (hf : fitT e X.1 = true) : dfI (dfE e X) := by
  refine ⟨perf_ok h.1 he hf, fun j hj => ?_⟩
  show eOk (va_up X.2.2 X.2.1 e j)
  unfold va_up
  by_cases cj : j = X.2.1
  · rw [if_pos cj]
    exact he
  · rw [if_neg cj]
    exact h.2 j (by have hj : j < X.2.1 + 1 := hj; omega)
theorem inT_iff : inT U (T.2.1 i) ↔ dfU T U i = true := by
  unfold dfU
  constructor
  · rintro ⟨a, a1, a2⟩
    cases w : tWhere U.2.1 U.1 (T.2.1 i) with
    | none => exact absurd a2 (tWhere_none w a1)
    | some j => rfl
  · intro h
    cases w : tWhere U.2.1 U.1 (T.2.1 i) with
    | none => rw [w] at h; cases h
    | some j => exact ⟨j, tWhere_lt w⟩
theorem key_of (hU : tOk U) (ha : a < U.1) : kEy (U.2.1 a) := hU.1.1 a ha
theorem nI_kne {x : Int32} (h : kEy x) : x ≠ 0 := by
  obtain ⟨k, e1, e2, e3⟩ := h
  rw [e1]
  exact nI_ne0 (by omega) (by omega)
-- NAMEs
theorem dN_0 (hT : tOk T) : dN T U 0 (dfX0 T) := ⟨⟨hT, fun j hj => absurd hj (Nat.not_lt_zero j)⟩, Nat.zero_le _, rfl, rfl, rfl, fun j _ => rfl⟩
theorem dN_fit (hT : tOk T) (h : dN T U i X) (hi : i < T.1) (v : Int32) : eOk (e7 0 (T.2.1 i) (T.2.2.1 i) v 0 0 0) ∧ fitT (e7 0 (T.2.1 i) (T.2.2.1 i) v 0 0 0) X.1 = true := by
  obtain ⟨h1, h2, h3, h4, h5, h6⟩ := h
  refine ⟨⟨hT.1.1 i hi, Or.inl rfl, fun z => absurd rfl z, fun z => absurd z (by decide : ¬ (0 : Int32) = 3), (by decide : ¬ (0 : Int32) < 0), (by decide : ¬ (0 : Int32) < 0), fun _ => ⟨rfl, rfl, rfl⟩, fun _ => ⟨rfl, rfl⟩, fun z => absurd z (by decide : ¬ (0 : Int32) = 3)⟩, ?_⟩
  obtain ⟨⟨n, K, B, D⟩, m, G⟩ := X
  dsimp only at h3 h4 h5 h6
  have u : fitT (e7 0 (T.2.1 i) (T.2.2.1 i) v 0 0 0) (n, K, B, D) = (match tWhere K n (T.2.1 i) with
    | none => false
    | some i' => decide (B i' = T.2.2.1 i)) := if_pos rfl
  rw [u, h3, h4, tWhere_at hT.1 hi rfl]
  exact decide_eq_true (h6 i (Nat.le_refl i))
theorem dN_step (hT : tOk T) (h : dN T U i X) (hi : i < T.1) : dN T U (i + 1) (dfN1 T U i X) := by
  have hf := fun v => dN_fit hT h hi v
  obtain ⟨h1, h2, h3, h4, h5, h6⟩ := h
  have hc : nCt (dfU T U) 0 (i + 1) = nCt (dfU T U) 0 i + (if dfU T U i = true then 1 else 0) := by
    rw [nCt_add, Nat.zero_add]
    rfl
  have stay : dN T U (i + 1) X := ⟨h1, by omega, h3, h4, h5, fun j hj => h6 j (by omega)⟩
  unfold dfN1
  cases w : tWhere U.2.1 U.1 (T.2.1 i) with
  | none => exact stay
  | some j =>
    dsimp only
    by_cases c : U.2.2.1 j = T.2.2.1 i
    · rw [if_pos c]
      exact stay
    · rw [if_neg c]
      obtain ⟨f1, f2⟩ := hf (U.2.2.1 j)
      have hu : dfU T U i = true := by
        unfold dfU
        rw [w]
        rfl
      rw [if_pos hu] at hc
      refine ⟨dfE_I h1 f1 f2, by show X.2.1 + 1 ≤ _; omega, ?_⟩
      obtain ⟨⟨n, K, B, D⟩, m, G⟩ := X
      dsimp only at h3 h4 h5 h6
      have u : ePerf (e7 0 (T.2.1 i) (T.2.2.1 i) (U.2.2.1 j) 0 0 0) (n, K, B, D) = (match tWhere K n (T.2.1 i) with
        | some i' => (n, K, upd B i' (U.2.2.1 j), D)
        | none => (n, K, B, D)) := if_pos rfl
      unfold dfE
      dsimp only
      rw [u, h3, h4, tWhere_at hT.1 hi rfl]
      refine ⟨rfl, rfl, h5, fun q hq => ?_⟩
      show upd B i (U.2.2.1 j) q = T.2.2.1 q
      unfold upd
      rw [if_neg (by omega)]
      exact h6 q (by omega)
theorem dN_run (hT : tOk T) : ∀ k i X, i + k = T.1 → dN T U i X → dN T U T.1 (dfN T U k i X) := by
  intro k
  induction k with
  | zero =>
    intro i X hi h
    obtain rfl : i = T.1 := by omega
    exact h
  | succ k ih =>
    intro i X hi h
    exact ih (i + 1) _ (by omega) (dN_step hT h (by omega))
theorem dN_vP (hT : tOk T) (h : dN T U i X) (k : Int32) : vP X.1 k = vP T k := by
  obtain ⟨h1, h2, h3, h4, h5, h6⟩ := h
  unfold vP
  rw [h3, h4, h5]
-- from NAMEs to the children
theorem dDb_f (h : tPar U.2.2.2 a = some q) : dDb U p c a = decide (q < p ∨ (q = p ∧ a < c)) := by
  unfold dDb
  rw [h]
theorem vP_root (hT : tOk T) : vP T (T.2.1 0) = some 0 := by
  obtain ⟨n, K, B, D⟩ := T
  obtain ⟨hK, d, hd, h⟩ := hT
  exact vP_at hK h.1
theorem dC_0 (hT : tOk T) (hU : tOk U) (hr : T.2.1 0 = U.2.1 0) (h : dN T U T.1 X) : dC T U 0 0 (nCt (dfU T U) 0 T.1) X := by
  have hv := fun k => dN_vP hT h k
  refine ⟨h.1, Nat.le_trans h.2.1 (Nat.le_add_right _ _), ?_, fun a q ha hq hz => by omega, fun k _ => hv k, fun a ha _ => by rw [hv]⟩
  rw [hv, ← hr]
  exact vP_root hT
end DIFF

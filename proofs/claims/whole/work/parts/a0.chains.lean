/-! difference: how long the rising rows are, by either order -/
/-- the longest that begins at i, from those behind it -/
def lnJ (R A : Nat → Nat) (i : Nat) : Nat → Nat → Nat → Nat
  | 0, _, v => v
  | k + 1, j, v => lnJ R A i k (j + 1) (if R i < R j ∧ v ≤ A j then A j + 1 else v)
section CHAINS
variable {R A : Nat → Nat} {i j k v : Nat}
theorem lnJ_spec : ∀ k j v, v ≤ lnJ R A i k j v ∧ (∀ q, j ≤ q → q < j + k → R i < R q → A q < lnJ R A i k j v) ∧ (lnJ R A i k j v = v ∨ ∃ q, j ≤ q ∧ q < j + k ∧ R i < R q ∧ lnJ R A i k j v = A q + 1) := by
  intro k
  induction k with
  | zero => intro j v; exact ⟨Nat.le_refl _, fun q h1 h2 => by omega, Or.inl rfl⟩
  | succ k ih =>
    intro j v
    by_cases c : R i < R j ∧ v ≤ A j
    · have e : lnJ R A i (k + 1) j v = lnJ R A i k (j + 1) (A j + 1) := by
        show lnJ R A i k (j + 1) (if R i < R j ∧ v ≤ A j then A j + 1 else v) = _
        rw [if_pos c]
      rw [e]
      obtain ⟨a1, a2, a3⟩ := ih (j + 1) (A j + 1)
      refine ⟨by omega, fun q h1 h2 h3 => ?_, ?_⟩
      · by_cases cq : q = j
        · rw [cq]
          omega
        · exact a2 q (by omega) (by omega) h3
      · rcases a3 with z | ⟨q, z1, z2, z3, z4⟩
        · exact Or.inr ⟨j, Nat.le_refl _, by omega, c.1, z⟩
        · exact Or.inr ⟨q, by omega, by omega, z3, z4⟩
    · have e : lnJ R A i (k + 1) j v = lnJ R A i k (j + 1) v := by
        show lnJ R A i k (j + 1) (if R i < R j ∧ v ≤ A j then A j + 1 else v) = _
        rw [if_neg c]
      rw [e]
      obtain ⟨a1, a2, a3⟩ := ih (j + 1) v
      refine ⟨a1, fun q h1 h2 h3 => ?_, ?_⟩
      · by_cases cq : q = j
        · rw [cq] at h3 ⊢
          have : ¬ v ≤ A j := fun z => c ⟨h3, z⟩
          omega
        · exact a2 q (by omega) (by omega) h3
      · rcases a3 with z | ⟨q, z1, z2, z3, z4⟩
        · exact Or.inl z
        · exact Or.inr ⟨q, by omega, by omega, z3, z4⟩
/-- points apart, F the longest row that begins at each: what tells it (x, y: where a point stands) -/
def lnF (N : Nat → Prop) (x y F : Nat → Nat) : Prop := ∀ p, N p → 1 ≤ F p ∧ (∀ q, N q → x p < x q → y p < y q → F q < F p) ∧ (F p = 1 ∨ ∃ q, N q ∧ x p < x q ∧ y p < y q ∧ F p = F q + 1)
theorem lnF_one {N : Nat → Prop} {x y F G : Nat → Nat} (b : Nat) (hb : ∀ p, N p → x p < b) (hF : lnF N x y F) (hG : lnF N x y G) : ∀ m p, N p → b - x p ≤ m → F p = G p := by
  intro m
  induction m with
  | zero =>
    intro p hp h
    have := hb p hp
    omega
  | succ m ih =>
    intro p hp h
    have up : ∀ q, N q → x p < x q → F q = G q := fun q hq hx => ih q hq (by have := hb q hq; omega)
    obtain ⟨f1, f2, f3⟩ := hF p hp
    obtain ⟨g1, g2, g3⟩ := hG p hp
    have le1 : F p ≤ G p := by
      clear g3
      rcases f3 with z | ⟨q, z1, z2, z3, z4⟩
      · omega
      · have := g2 q z1 z2 z3
        have := up q z1 z2
        omega
    have le2 : G p ≤ F p := by
      clear f3
      rcases g3 with z | ⟨q, z1, z2, z3, z4⟩
      · omega
      · have := f2 q z1 z2 z3
        have := up q z1 z2
        omega
    exact Nat.le_antisymm le1 le2
end CHAINS

/-! tree: what is read is a tree as it should be -/
def rdI (T : tT) (d st : Nat) : Prop := kOk T.2.1 T.1 ∧ (T.1 = 0 → st = 0 ∧ d = 0) ∧ (0 < T.1 → ∃ e, dEq T.2.2.2 e T.1 ∧ dOk e T.1 ∧ (st = 0 → 1 ≤ d ∧ d ≤ e (T.1 - 1) + 1) ∧ (st ≠ 0 → d ≤ e (T.1 - 1)))
section READOK
variable {L a d st k x n : Nat} {T U : tT} {ky : Int32} {f : Nat → Int32} {y : Nat × tT} {K : Nat → Int32}
theorem kOk.push (h : kOk K n) (h1 : 1 ≤ ky) (h2 : ky ≤ 60) (hw : tWhere K n ky = none) : kOk (upd K n ky) (n + 1) := by
  refine ⟨fun i hi => ?_, fun i j hij hj => ?_⟩
  · unfold upd
    by_cases c : i = n
    · rw [if_pos c]
      obtain ⟨m, hm, rfl⟩ := nI_of (x := ky) (fun z => absurd (Int32.le_trans h1 (Int32.le_of_lt z)) (by decide))
      exact ⟨m, rfl, (nI_leI (a := 1) (b := m) (by decide) (by omega)).mp h1, (nI_leI (a := m) (b := 60) (by omega) (by decide)).mp h2⟩
    · rw [if_neg c]
      exact h.1 i (by omega)
  · unfold upd
    rw [if_neg (show ¬ i = n by omega)]
    by_cases c : j = n
    · rw [if_pos c]
      exact tWhere_none hw (by omega)
    · rw [if_neg c]
      exact h.2 i j hij (by omega)
theorem rdK_ok (hI : rdI T d 0) (hn : T.1 < 40) {a' : Nat} (h : rdK f a d T ky a' = .inr y) : rdI y.2 d 1 := by
  obtain ⟨n, K, B, D⟩ := T
  obtain ⟨i1, i2, i3⟩ := hI
  dsimp only at i1 i2 i3 hn
  unfold rdK at h
  split at h
  · rename_i c
    cases h
    refine ⟨i1.push c.1 c.2.1 c.2.2, fun z => absurd z (Nat.succ_ne_zero n), fun _ => ?_⟩
    rcases Nat.eq_zero_or_pos n with z | z
    · subst z
      obtain ⟨-, rfl⟩ := i2 rfl
      refine ⟨fun _ => 0, fun i hi => ?_, ⟨by show 0 < 0 + 1; omega, rfl, fun i hi => ?_⟩, fun z => absurd z (by decide), fun _ => Nat.le_refl _⟩
      · have hi : i < 0 + 1 := hi
        obtain rfl : i = 0 := by omega
        refine ⟨?_, by decide⟩
        show upd D 0 (nI 0) 0 = nI 0
        exact if_pos rfl
      · have hi : i + 1 < 0 + 1 := hi
        omega
    · obtain ⟨e, e1, e2, e3, -⟩ := i3 z
      obtain ⟨e4, e5⟩ := e3 rfl
      have hl := e2.le (n - 1) (by omega)
      refine ⟨fun i => if i = n then d else e i, fun i hi => ?_, ⟨by show 0 < n + 1; omega, ?_, fun i hi => ?_⟩, fun z => absurd z (by decide), fun _ => ?_⟩
      · have hi : i < n + 1 := hi
        show upd D n (nI d) i = nI (if i = n then d else e i) ∧ (if i = n then d else e i) < 2 ^ 30
        unfold upd
        by_cases c : i = n
        · rw [if_pos c, if_pos c]
          exact ⟨rfl, by omega⟩
        · rw [if_neg c, if_neg c]
          exact e1 i (by omega)
      · dsimp only
        rw [if_neg (by omega)]
        exact e2.2.1
      · have hi : i + 1 < n + 1 := hi
        dsimp only
        rw [if_neg (show ¬ i = n by omega)]
        by_cases c : i + 1 = n
        · rw [if_pos c]
          rw [show n - 1 = i by omega] at e5
          exact ⟨e4, e5⟩
        · rw [if_neg c]
          exact e2.2.2 i (by omega)
      · show d ≤ (if n + 1 - 1 = n then d else e (n + 1 - 1))
        rw [if_pos (by omega)]
        exact Nat.le_refl _
  · cases h
theorem rdN_ok (hI : rdI T d 0) (h : rdN f L a d T = .inr y) : rdI y.2 d 1 := by
  have hn := (rdN_r h).2.2.2.1
  unfold rdN at h
  split at h
  · split at h
    · split at h
      · exact rdK_ok hI hn h
      · exact rdK_ok hI hn h
    · cases h
  · cases h
theorem rdM_ok : ∀ k a d st T, rdI T d st → st ≤ 2 → (rdM f L k a d st T).1 = none → tOk (rdM f L k a d st T).2 := by
  have he : ∀ d st T, rdI T d st → (rdE L d st T).1 = none → tOk (rdE L d st T).2 := by
    intro d st T hI h
    unfold rdE at h ⊢
    split at h
    · rename_i c
      rw [if_pos c]
      have hn : 0 < T.1 := by
        rcases Nat.eq_zero_or_pos T.1 with z | z
        · exact absurd (hI.2.1 z).1 c.1
        · exact z
      obtain ⟨e, e1, e2, -⟩ := hI.2.2 hn
      exact ⟨hI.1, e, e1, e2⟩
    · cases h
  intro k
  induction k with
  | zero => intro a d st T hI _ h; exact he d st T hI h
  | succ k ih =>
    intro a d st T hI hst h
    rw [rdM_s] at h ⊢
    by_cases c : a < L
    · rw [if_pos c] at h ⊢
      by_cases c1 : st = 0
      · subst c1
        rw [if_pos rfl] at h ⊢
        cases hr : rdN f L a d T with
        | inl x => rw [hr] at h; cases h
        | inr y =>
          rw [hr] at h
          exact ih y.1 d 1 y.2 (rdN_ok hI hr) (by decide) h
      · rw [if_neg c1] at h ⊢
        have hn : 0 < T.1 := by
          rcases Nat.eq_zero_or_pos T.1 with z | z
          · exact absurd (hI.2.1 z).1 c1
          · exact z
        have hn0 : T.1 ≠ 0 := by omega
        obtain ⟨e, e1, e2, -, e4⟩ := hI.2.2 hn
        have e4 := e4 c1
        by_cases c2 : f a = 40 ∧ st = 1
        · rw [if_pos c2] at h ⊢
          exact ih _ _ _ T ⟨hI.1, fun z => absurd z hn0, fun _ => ⟨e, e1, e2, fun _ => ⟨by omega, by omega⟩, fun z => absurd rfl z⟩⟩ (by decide) h
        · rw [if_neg c2] at h ⊢
          by_cases c3 : f a = 44 ∧ 0 < d
          · rw [if_pos c3] at h ⊢
            exact ih _ _ _ T ⟨hI.1, fun z => absurd z hn0, fun _ => ⟨e, e1, e2, fun _ => ⟨by omega, by omega⟩, fun z => absurd rfl z⟩⟩ (by decide) h
          · rw [if_neg c3] at h ⊢
            by_cases c4 : f a = 41 ∧ 0 < d
            · rw [if_pos c4] at h ⊢
              exact ih _ _ _ T ⟨hI.1, fun z => absurd z hn0, fun _ => ⟨e, e1, e2, fun z => absurd z (by decide), fun _ => by omega⟩⟩ (by decide) h
            · rw [if_neg c4] at h
              cases h
    · rw [if_neg c] at h ⊢
      exact he d st T hI h
theorem rdT_ok {z : Int32 × Nat × (Nat → Int64)} (h : (rdT z).1 = none) : tOk (rdT z).2 := rdM_ok _ 0 0 0 _ ⟨⟨fun i hi => absurd hi (Nat.not_lt_zero i), fun i j _ hj => absurd hj (Nat.not_lt_zero j)⟩, fun _ => ⟨rfl, rfl⟩, fun z => absurd z (by decide)⟩ (by decide) h
end READOK

/-! what is KEPT over a tree FITS there -/
section KEPT
variable {n : Nat} {e : Nat → Int32} {K B D : Nat → Int32}
theorem kept_N (h0 : e 0 = 0) (hk : oFate e n K B D = 0) : eFits e n K B D = true := by
  unfold oFate at hk
  rw [if_pos h0] at hk
  unfold eFits
  rw [if_pos h0]
  cases hw : tWhere K n (e 1) with
  | none =>
    rw [hw] at hk
    exact absurd hk (show ¬ (1 : Int32) = 0 by decide)
  | some i =>
    rw [hw] at hk
    unfold oName at hk
    dsimp only at hk ⊢
    by_cases c1 : B i = e 3
    · rw [if_pos c1] at hk
      exact absurd hk (by decide)
    · rw [if_neg c1] at hk
      by_cases c2 : B i = e 2
      · exact decide_eq_true c2
      · rw [if_neg c2] at hk
        exact absurd hk (by decide)
theorem kept_T (h0 : e 0 = 1) (hk : oFate e n K B D = 0) : ∃ i, tWhere K n (e 1) = some i ∧ i ≠ 0 ∧ eFits (e7 1 (e 1) (e 2) (tPK K D i) (nI (tPlace D i)) 0 0) n K B D = true := by
  unfold oFate at hk
  rw [h0, if_neg (show ¬ (1 : Int32) = 0 by decide), if_pos rfl] at hk
  cases hw : tWhere K n (e 1) with
  | none =>
    rw [hw] at hk
    exact absurd hk (show ¬ (-1 : Int32) = 0 by decide)
  | some i =>
    rw [hw] at hk
    unfold oTake at hk
    dsimp only at hk
    by_cases c1 : i = 0 ∨ 0 < tKids D n i
    · rw [if_pos c1] at hk
      exact absurd hk (by decide)
    · rw [if_neg c1] at hk
      by_cases c2 : B i = e 2
      · refine ⟨i, rfl, fun z => c1 (Or.inl z), ?_⟩
        unfold eFits
        rw [if_neg (show ¬ e7 1 (e 1) (e 2) (tPK K D i) (nI (tPlace D i)) 0 0 0 = 0 from (by decide : ¬ (1 : Int32) = 0)), if_pos (show e7 1 (e 1) (e 2) (tPK K D i) (nI (tPlace D i)) 0 0 0 = 1 from rfl)]
        rw [show e7 1 (e 1) (e 2) (tPK K D i) (nI (tPlace D i)) 0 0 1 = e 1 from rfl, hw]
        exact decide_eq_true ⟨by omega, c2, rfl, rfl⟩
      · rw [if_neg c2] at hk
        exact absurd hk (by decide)
theorem iMn_pos {x y : Int32} (hx : ¬ x < 0) (hy : ¬ y < 0) : ¬ iMn x y < 0 := by
  unfold iMn
  by_cases c : y < x
  · rw [if_pos c]
    exact hy
  · rw [if_neg c]
    exact hx
theorem iMn_le {x y : Int32} : ¬ y < iMn x y := by
  unfold iMn
  by_cases c : y < x
  · rw [if_pos c]
    exact Int32.lt_irrefl
  · rw [if_neg c]
    exact c
theorem kept_G (h0 : e 0 = 2) (h4 : ¬ e 4 < 0) (hk : oFate e n K B D = 0) (hn : n ≤ 80) : ∃ g, tWhere K n (e 3) = some g ∧ eFits (e7 2 (e 1) (e 2) (e 3) (iMn (e 4) (nI (tKids D n g))) 0 0) n K B D = true := by
  unfold oFate at hk
  rw [h0, if_neg (show ¬ (2 : Int32) = 0 by decide), if_neg (show ¬ (2 : Int32) = 1 by decide), if_pos rfl] at hk
  cases hw : tWhere K n (e 1) with
  | some i =>
    rw [hw] at hk
    unfold oGive at hk
    dsimp only at hk
    by_cases c1 : B i = e 2 ∧ tPK K D i = e 3
    · rw [if_pos c1] at hk
      exact absurd hk (by decide)
    · rw [if_neg c1] at hk
      exact absurd hk (by decide)
  | none =>
    cases hg : tWhere K n (e 3) with
    | none =>
      rw [hw, hg] at hk
      exact absurd hk (show ¬ (1 : Int32) = 0 by decide)
    | some g =>
      rw [hw, hg] at hk
      unfold oGive at hk
      dsimp only at hk
      by_cases c1 : n < 80
      · refine ⟨g, rfl, ?_⟩
        have hkk : tKids D n g ≤ n := tKids_le
        unfold eFits
        rw [if_neg (show ¬ e7 2 (e 1) (e 2) (e 3) (iMn (e 4) (nI (tKids D n g))) 0 0 0 = 0 from (by decide : ¬ (2 : Int32) = 0)), if_neg (show ¬ e7 2 (e 1) (e 2) (e 3) (iMn (e 4) (nI (tKids D n g))) 0 0 0 = 1 from (by decide : ¬ (2 : Int32) = 1)), if_pos (show e7 2 (e 1) (e 2) (e 3) (iMn (e 4) (nI (tKids D n g))) 0 0 0 = 2 from rfl)]
        rw [show e7 2 (e 1) (e 2) (e 3) (iMn (e 4) (nI (tKids D n g))) 0 0 1 = e 1 from rfl, show e7 2 (e 1) (e 2) (e 3) (iMn (e 4) (nI (tKids D n g))) 0 0 3 = e 3 from rfl, hw, hg]
        exact decide_eq_true ⟨rfl, iMn_pos h4 (nI_pos (by omega)), iMn_le, c1⟩
      · rw [if_neg c1] at hk
        exact absurd hk (by decide)
theorem kept_M (h0 : e 0 ≠ 0) (h1 : e 0 ≠ 1) (h2 : e 0 ≠ 2) (h6 : ¬ e 6 < 0) (hL : ∀ i g, i < n → g < n → ¬ eLast n D i g < 0) (hk : oFate e n K B D = 0) : ∃ i g, tWhere K n (e 1) = some i ∧ i ≠ 0 ∧ tWhere K n (e 5) = some g ∧ ¬ (i ≤ g ∧ g < tEnd D n i) ∧ eFits (e7 3 (e 1) 0 (e 3) (nI (tPlace D i)) (e 5) (iMn (e 6) (eLast n D i g))) n K B D = true := by
  unfold oFate at hk
  rw [if_neg h0, if_neg h1, if_neg h2] at hk
  cases hw : tWhere K n (e 1) with
  | none =>
    rw [hw] at hk
    exact absurd hk (show ¬ (1 : Int32) = 0 by decide)
  | some i =>
    cases hg : tWhere K n (e 5) with
    | none =>
      rw [hw, hg] at hk
      exact absurd hk (show ¬ (1 : Int32) = 0 by decide)
    | some g =>
      rw [hw, hg] at hk
      unfold oMove at hk
      dsimp only at hk
      by_cases c1 : i = 0 ∨ (i ≤ g ∧ g < tEnd D n i)
      · rw [if_pos c1] at hk
        exact absurd hk (by decide)
      · rw [if_neg c1] at hk
        by_cases c2 : tPK K D i = e 3
        · refine ⟨i, g, rfl, fun z => c1 (Or.inl z), rfl, fun z => c1 (Or.inr z), ?_⟩
          unfold eFits
          rw [if_neg (show ¬ e7 3 (e 1) 0 (e 3) (nI (tPlace D i)) (e 5) (iMn (e 6) (eLast n D i g)) 0 = 0 from (by decide : ¬ (3 : Int32) = 0)), if_neg (show ¬ e7 3 (e 1) 0 (e 3) (nI (tPlace D i)) (e 5) (iMn (e 6) (eLast n D i g)) 0 = 1 from (by decide : ¬ (3 : Int32) = 1)), if_neg (show ¬ e7 3 (e 1) 0 (e 3) (nI (tPlace D i)) (e 5) (iMn (e 6) (eLast n D i g)) 0 = 2 from (by decide : ¬ (3 : Int32) = 2))]
          rw [show e7 3 (e 1) 0 (e 3) (nI (tPlace D i)) (e 5) (iMn (e 6) (eLast n D i g)) 1 = e 1 from rfl, show e7 3 (e 1) 0 (e 3) (nI (tPlace D i)) (e 5) (iMn (e 6) (eLast n D i g)) 5 = e 5 from rfl, hw, hg]
          exact decide_eq_true ⟨c2, rfl, fun z => c1 (Or.inr z), iMn_pos h6 (hL i g (tWhere_lt hw).1 (tWhere_lt hg).1), iMn_le⟩
        · rw [if_neg c2] at hk
          by_cases c3 : tPK K D i = e 5
          · rw [if_pos c3] at hk
            exact absurd hk (by decide)
          · rw [if_neg c3] at hk
            exact absurd hk (by decide)
end KEPT

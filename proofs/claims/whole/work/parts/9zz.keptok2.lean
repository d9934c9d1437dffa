/-! the world stays as it should be: shelves, images, hand -/
section KEPTOK2
variable {W : wW} {i j n c k : Nat} {z : hS} {y : Int32}
theorem wSh_ok (hW : wOk W) (hz : shOk W.1.2.2.1 z) : wOk (wSh W j z) := by
  refine ⟨hW.1, hW.2.1, fun i hi => ?_⟩
  show shOk W.1.2.2.1 (va_up W.2.2.1 j z i)
  unfold va_up
  split
  · exact hz
  · exact hW.2.2 i hi
theorem row_ok (hW : wOk W) (hj : j < 8) {r : Int32 × Nat × (Nat → Int64)} (h : (W.2.2.1 j).1 = some r) : so3 r.1 ∧ r.2.1 ≤ 160 := by
  have := hW.2.2 j hj
  unfold shOk at this
  rw [h] at this
  exact ⟨this.1, this.2.1⟩
theorem aSet_ok (hW : wOk W) {s i : Int32} {v : Int64} : wOk (aSet W s i v).2 := by
  unfold aSet
  cases h : iIx s 8 with
  | none => exact hW
  | some j =>
    dsimp only
    cases h2 : (W.2.2.1 j).1 with
    | none =>
      dsimp only
      split
      · exact hW
      · exact hW
    | some r =>
      dsimp only
      have hr := row_ok hW (iIx_lt (by decide) h) h2
      cases iIx i r.2.1 with
      | none => exact hW
      | some q => exact wSh_ok hW ⟨hr.1, hr.2, rfl⟩
theorem aSeed_ok (hW : wOk W) : wOk (aSeed W y).2 := hW
theorem aImage_ok (hW : wOk W) : wOk (aImage W).2 := ⟨hW.1, fun w hw => by
  have hw : some W.1 = some w := hw
  cases hw
  exact hW.1, hW.2.2⟩
theorem aDrop_ok (hW : wOk W) {t : Int32} : wOk (aDrop W t).2 := by
  unfold aDrop
  cases h : iIx t W.1.1 with
  | none => exact hW
  | some j =>
    dsimp only
    split
    · rename_i c
      have := hW.1.1
      exact ⟨⟨by show j ≤ 16; omega, hW.1.2.1, fun q hq => hW.1.2.2.1 q (by have hq : q < j := hq; omega), hW.1.2.2.2⟩, hW.2⟩
    · exact hW
theorem aShow_ok (hW : wOk W) {s p : Int32} : wOk (aShow W s p).2 := by
  unfold aShow
  cases h : iIx s 8 with
  | none => exact hW
  | some j =>
    dsimp only
    split
    · exact wSh_ok hW (Or.inl rfl)
    · cases h2 : iIx p W.1.2.2.1 with
      | none => exact hW
      | some q =>
        have hp := hW.1.2.1
        rcases iIx_cases p (n := W.1.2.2.1) (by omega) with ⟨e, -⟩ | ⟨l, hl, rfl, e⟩
        · rw [e] at h2
          cases h2
        · exact wSh_ok hW (Or.inr ⟨l, hl, rfl⟩)
theorem aHand_ok (hW : wOk W) {ky lb t : Int32} : wOk (aHand W ky lb t).2 := by
  unfold aHand
  cases h : iIx t W.1.1 with
  | none => exact hW
  | some j =>
    dsimp only
    have hT := hW.1.2.2.1 j (iIx_lt (by have := hW.1.1; omega) h)
    cases h2 : tWhere (W.1.2.1 j).2.1 (W.1.2.1 j).1 ky with
    | none => exact hW
    | some i =>
      dsimp only
      obtain ⟨hi, hk⟩ := tWhere_lt h2
      split
      · refine aNew_ok hW (fun hn => ⟨hn, Nat.zero_le _, fun q _ => ?_, Or.inl rfl, fun _ => rfl⟩)
        have hky : kEy ky := by
          rw [← hk]
          exact hT.1.1 i hi
        exact ⟨hky, Or.inl rfl, fun z => absurd rfl z, fun z => absurd z (by decide : ¬ (0 : Int32) = 3), (by decide : ¬ (0 : Int32) < 0), (by decide : ¬ (0 : Int32) < 0), fun _ => ⟨rfl, rfl, rfl⟩, fun z => z.elim (fun z => absurd z (by decide : ¬ (0 : Int32) = 1)) (fun z => absurd z (by decide : ¬ (0 : Int32) = 2)), fun z => absurd z (by decide : ¬ (0 : Int32) = 3)⟩
      · exact hW
end KEPTOK2

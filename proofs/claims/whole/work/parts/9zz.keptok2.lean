/-! the world stays as it should be: shelves, images, hand -/
section KEPTOK2
variable {W : wW} {i j n c k : Nat} {z : hS} {y : Int32}
theorem wSh_ok (hW : wOk W) (hz : shOk W.1.2.2.1 z) : wOk (wSh W j z) := by
  refine ⟨hW.1, hW.2.1, fun i hi => ?_⟩
  show shOk W.1.2.2.1 (va_up W.2.2.1 j z i)
  unfold va_up
  split
  · exact hz
  · exact hW.2.2 i hi
theorem row_ok (hW : wOk W) (hj : j < 8) {r : Int32 × Nat × (Nat → Int64)} (h : (W.2.2.1 j).1 = some r) : so3 r.1 ∧ r.2.1 ≤ 160 := by
  have := hW.2.2 j hj
  unfold shOk at this
  rw [h] at this
  exact ⟨this.1, this.2.1⟩
theorem aSet_ok (hW : wOk W) {s i : Int32} {v : Int64} : wOk (aSet W s i v).2 := by
  unfold aSet
  cases h : iIx s 8 with
  | none => exact hW
  | some j =>
    dsimp only
    cases h2 : (W.2.2.1 j).1 with
    | none =>
      dsimp only
      split
      · exact hW
      · exact hW
    | some r =>
      dsimp only
      have hr := row_ok hW (iIx_lt (by decide) h) h2
      cases iIx i r.2.1 with
      | none => exact hW
      | some q => exact wSh_ok hW ⟨hr.1, hr.2, rfl⟩
theorem aSeed_ok (hW : wOk W) : wOk (aSeed W y).2 := hW
theorem aImage_ok (hW : wOk W) : wOk (aImage W).2 := ⟨hW.1, fun w hw => by
  have hw : some W.1 = some w := hw
  cases hw
  exact hW.1, hW.2.2⟩
theorem aDrop_ok (hW : wOk W) {t : Int32} : wOk (aDrop W t).2 := by
  unfold aDrop
  cases h : iIx t W.1.1 with
  | none => exact hW
  | some j =>
    dsimp only
    split
    · rename_i c
      have := hW.1.1
      exact ⟨⟨by show j ≤ 16; omega, hW.1.2.1, fun q hq => hW.1.2.2.1 q (by have hq : q < j := hq; omega), hW.1.2.2.2⟩, hW.2⟩
    · exact hW
theorem aShow_ok (hW : wOk W) {s p : Int32} : wOk (aShow W s p).2 := by
  unfold aShow
  cases h : iIx s 8 with
  | none => exact hW
  | some j =>
    dsimp only
    split
    · exact wSh_ok hW (Or.inl rfl)
    · cases h2 : iIx p W.1.2.2.1 with
      | none => exact hW
      | some q =>
        have hp := hW.1.2.1
        rcases iIx_cases p (n := W.1.2.2.1) (by omega) with ⟨e, -⟩ | ⟨l, hl, rfl, e⟩
        · rw [e] at h2
          cases h2
        · exact wSh_ok hW (Or.inr ⟨l, hl, rfl⟩)
theorem aHand_ok (hW : wOk W) {ky lb t : Int32} : wOk (aHand W ky lb t).2 := by
  unfold aHand
  cases h : iIx t W.1.1 with
  | none => exact hW
  | some j =>
    dsimp only
    have hT := hW.1.2.2.1 j (iIx_lt (by have := hW.1.1; omega) h)
    cases h2 : tWhere (W.1.2.1 j).2.1 (W.1.2.1 j).1 ky with
    | none => exact hW
    | some i =>
      dsimp only
      obtain ⟨hi, hk⟩ := tWhere_lt h2
      split
      · refine aNew_ok hW (fun hn => ⟨hn, Nat.zero_le _, fun q _ => ?_, Or.inl rfl, fun _ => rfl⟩)
        have hky : kEy ky := by
          rw [← hk]
          exact hT.1.1 i hi
        exact ⟨hky, Or.inl rfl, fun z => absurd rfl z, fun z => absurd z (by decide : ¬ (0 : Int32) = 3), (by decide : ¬ (0 : Int32) < 0), (by decide : ¬ (0 : Int32) < 0), fun _ => ⟨rfl, rfl, rfl⟩, fun z => z.elim (fun z => absurd z (by decide : ¬ (0 : Int32) = 1)) (fun z => absurd z (by decide : ¬ (0 : Int32) = 2)), fun z => absurd z (by decide : ¬ (0 : Int32) = 3)⟩
      · exact hW
theorem vF_ok {pc qc : Nat} {u : Nat → hS} (hu : ∀ i, i < 8 → shOk qc (u i)) (hq : qc ≤ 16) : ∀ i, i < 8 → shOk pc (vF pc u 8 i) := by
  intro i hi
  have h := hu i hi
  unfold vF
  rw [if_pos hi]
  unfold vS
  cases e : (u i).1 with
  | some r =>
    dsimp only
    unfold shOk at h ⊢
    rw [e] at h ⊢
    exact h
  | none =>
    dsimp only
    by_cases c : nI pc ≤ (u i).2
    · rw [if_pos c]
      exact Or.inl rfl
    · rw [if_neg c]
      unfold shOk at h ⊢
      rw [e] at h ⊢
      rcases h with z | ⟨p, hp, z⟩
      · exact Or.inl z
      · refine Or.inr ⟨p, ?_, z⟩
        by_cases c2 : p < pc
        · exact c2
        · exact absurd (by rw [z]; exact nI_le (by omega) (by omega)) c
theorem aForget_ok (hW : wOk W) : wOk (aForget W).2 := by
  unfold aForget
  split
  · exact hW
  · have hp := hW.1.2.1
    exact ⟨⟨hW.1.1, by show W.1.2.2.1 - 1 ≤ 16; omega, hW.1.2.2.1, fun q hq => hW.1.2.2.2 q (by have hq : q < W.1.2.2.1 - 1 := hq; omega)⟩, hW.2.1, vF_ok hW.2.2 hp⟩
theorem aRestore_ok (hW : wOk W) : wOk (aRestore W).2 := by
  unfold aRestore
  cases h : W.2.1 with
  | none => exact hW
  | some w => exact ⟨hW.2.1 w h, hW.2.1, vF_ok hW.2.2 hW.1.2.1⟩
theorem aCopy_ok (hW : wOk W) {p q i j l : Int32} : wOk (aCopy W p q i j l).2 := by
  unfold aCopy
  cases h : iIx p 8 with
  | none => exact hW
  | some a =>
    cases h2 : iIx q 8 with
    | none => exact hW
    | some c =>
      dsimp only
      cases h3 : (W.2.2.1 a).1 with
      | none =>
        dsimp only
        split
        · exact hW
        · exact hW
      | some z =>
        cases h4 : (W.2.2.1 c).1 with
        | none =>
          dsimp only
          split
          · exact hW
          · exact hW
        | some y =>
          have hr := row_ok hW (iIx_lt (by decide) h2) h4
          dsimp only
          split
          · split
            · exact hW
            · split
              · exact wSh_ok hW ⟨hr.1, hr.2, rfl⟩
              · exact hW
          · exact hW
theorem aPut_ok (hW : wOk W) {t ky to ap : Int32} : wOk (aPut W t ky to ap).2 := by
  unfold aPut
  cases h : iIx t W.1.1 with
  | none => exact hW
  | some j =>
    dsimp only
    have hT := hW.1.2.2.1 j (iIx_lt (by have := hW.1.1; omega) h)
    generalize W.1.2.1 j = V at hT
    cases h2 : tWhere V.2.1 V.1 ky with
    | none => exact hW
    | some i =>
      cases h3 : tWhere V.2.1 V.1 to with
      | none => exact hW
      | some g =>
        dsimp only
        obtain ⟨hi, hk⟩ := tWhere_lt h2
        obtain ⟨hg, hto⟩ := tWhere_lt h3
        split
        · rename_i hf
          obtain ⟨n, K, B, D⟩ := V
          obtain ⟨hK, d, hd, h5⟩ := id hT
          dsimp only at hK hd h5 h2 h3 hi hk hg hto
          have hf2 : eFitM (e7 3 ky 0 (tPK K D i) (nI (tPlace D i)) to ap) n K D (some i) (some g) = true := by
            have e1 : fitT (e7 3 ky 0 (tPK K D i) (nI (tPlace D i)) to ap) (n, K, B, D) = eFitM (e7 3 ky 0 (tPK K D i) (nI (tPlace D i)) to ap) n K D (tWhere K n ky) (tWhere K n to) := (if_neg (by decide : ¬ (3 : Int32) = 0)).trans ((if_neg (by decide : ¬ (3 : Int32) = 1)).trans (if_neg (by decide : ¬ (3 : Int32) = 2)))
            rw [h2, h3] at e1
            rw [← e1]
            exact hf
          obtain ⟨m, pl, h0, -, -, -, -, -, h6, hpl, -⟩ := fitM_n hK hd h5 hi hg hf2
          have h6 : ap = nI pl := h6
          have kk : kEy ky := by
            rw [← hk]
            exact hK.1 i hi
          have kt : kEy to := by
            rw [← hto]
            exact hK.1 g hg
          refine aNew_ok hW (fun hn => ⟨hn, Nat.zero_le _, fun q _ => ?_, Or.inl rfl, fun _ => rfl⟩)
          exact ⟨kk, Or.inr (Or.inr (Or.inr rfl)), fun _ => tPK_key hT hi (by omega), fun _ => kt, nI_pl hd hi hK.le, (by show ¬ ap < 0; rw [h6]; exact nI_pos (by omega)), fun z => absurd z (by decide : ¬ (3 : Int32) = 0), fun z => z.elim (fun z => absurd z (by decide : ¬ (3 : Int32) = 1)) (fun z => absurd z (by decide : ¬ (3 : Int32) = 2)), fun _ => rfl⟩
        · exact hW
theorem aRow_ok (hW : wOk W) {s so l : Int32} : wOk (aRow W s so l).2 := by
  unfold aRow
  cases h : iIx s 8 with
  | none => exact hW
  | some j =>
    dsimp only
    by_cases c : l < 0
    · rw [if_pos c]
      exact hW
    · rw [if_neg c]
      rcases iIx_cases so (n := 4) (by decide) with ⟨e, -⟩ | ⟨q, hq, rfl, e⟩
      · rw [e]
        exact hW
      · rw [e]
        dsimp only
        by_cases c2 : 160 < l
        · rw [if_pos c2]
          exact hW
        · rw [if_neg c2]
          refine wSh_ok hW ⟨?_, ?_, rfl⟩
          · match q, hq with
            | 0, _ => exact Or.inl rfl
            | 1, _ => exact Or.inr (Or.inl rfl)
            | 2, _ => exact Or.inr (Or.inr (Or.inl rfl))
            | 3, _ => exact Or.inr (Or.inr (Or.inr rfl))
          · obtain ⟨m, hm, rfl⟩ := nI_of c
            show (nI m).toNatClampNeg ≤ 160
            rw [nI_clamp (by omega)]
            exact (nI_leI (a := m) (b := 160) (by omega) (by decide)).mp (Int32.not_lt.mp c2)
theorem aStatus_ok (hW : wOk W) : wOk (aStatus W y).2 := by
  unfold aStatus
  repeat' split
  all_goals exact hW
theorem aFault_ok (hW : wOk W) : wOk (aFault W).2 := hW
end KEPTOK2

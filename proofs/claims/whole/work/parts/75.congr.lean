/-! trees that agree as far as they go answer alike -/
section CONG
variable {K K' B B' D D' : Nat → Int32} {n i g : Nat} {d : Nat → Nat} {e : Nat → Int32} {T U : tT}
theorem cEnd (hd : dEq D d n) (hD : ∀ j, j < n → D j = D' j) (hi : i < n) : tEnd D n i = tEnd D' n i := by rw [nEnd_of hd hi, nEnd_of (hd.congr hD) hi]
theorem cKids (hd : dEq D d n) (hD : ∀ j, j < n → D j = D' j) (hi : i < n) : tKids D n i = tKids D' n i := by rw [nKids_of hd hi, nKids_of (hd.congr hD) hi]
theorem cPlace (hd : dEq D d n) (hD : ∀ j, j < n → D j = D' j) (hi : i < n) : tPlace D i = tPlace D' i := by rw [nPlace_of hd hi, nPlace_of (hd.congr hD) hi]
theorem cPar (hd : dEq D d n) (hD : ∀ j, j < n → D j = D' j) (hi : i < n) : tPar D i = tPar D' i := by rw [nPar_of hd hi, nPar_of (hd.congr hD) hi]
theorem cPK (hd : dEq D d n) (hD : ∀ j, j < n → D j = D' j) (hK : ∀ j, j < n → K j = K' j) (hi : i < n) : tPK K D i = tPK K' D' i := by
  rw [tPK_n hd hi, tPK_n (hd.congr hD) hi]
  cases w : nPar d i with
  | none => rfl
  | some p => exact hK p (by have := (nPar_some w).1; omega)
theorem cChild (hd : dEq D d n) (hD : ∀ j, j < n → D j = D' j) {p : Nat} (hi : i < n) : tChild D n i p = tChild D' n i p := by rw [nChild_of hd hi, nChild_of (hd.congr hD) hi]
theorem cLast (hd : dEq D d n) (hD : ∀ j, j < n → D j = D' j) (hi : i < n) (hg : g < n) : eLast n D i g = eLast n D' i g := by
  unfold eLast
  rw [cPar hd hD hi, cKids hd hD hg]
theorem cSp (hD : ∀ j, j < n → D j = D' j) {x pl wo : Int32} {en : Nat} : ∀ m i a, i + m ≤ n → tSp D x pl wo en i m a = tSp D' x pl wo en i m a := by
  intro m
  induction m with
  | zero => intro i a _; rfl
  | succ m ih =>
    intro i a h
    unfold tSp
    rw [hD i (by omega), ih (i + 1) a (by omega), ih (i + 1) (a + 1) (by omega)]
theorem cSpot (hd : dEq D d n) (hD : ∀ j, j < n → D j = D' j) {pl wo : Int32} (hg : g < n) : tSpot D n g pl wo = tSpot D' n g pl wo := by
  have hE := tEnd_gt (D := D) hg
  unfold tSpot
  rw [cSp hD _ _ _ (by omega), cEnd hd hD hg, hD g hg]
theorem fitT_congr (h : tEq T U) (hT : tOk T) : fitT e T = fitT e U := by
  obtain ⟨n, K, B, D⟩ := T
  obtain ⟨n', K', B', D'⟩ := U
  obtain ⟨h1, h2⟩ := h
  obtain ⟨h3, d, hd, h5⟩ := hT
  dsimp only at h1 h2 h3 hd h5
  subst h1
  have hK : ∀ j, j < n → K j = K' j := fun j hj => (h2 j hj).1
  have hB : ∀ j, j < n → B j = B' j := fun j hj => (h2 j hj).2.1
  have hD : ∀ j, j < n → D j = D' j := fun j hj => (h2 j hj).2.2
  unfold fitT eFits
  dsimp only
  rw [← tWhere_congr hK, ← tWhere_congr hK, ← tWhere_congr hK]
  split
  · cases hw : tWhere K n (e 1) with
    | none => rfl
    | some i =>
      show decide (B i = e 2) = decide (B' i = e 2)
      rw [hB i (tWhere_lt hw).1]
  · split
    · cases hw : tWhere K n (e 1) with
      | none => rfl
      | some i =>
        have hi := (tWhere_lt hw).1
        unfold eFitT
        dsimp only
        rw [hB i hi, cKids hd hD hi, cPK hd hD hK hi, cPlace hd hD hi]
    · split
      · cases hg : tWhere K n (e 3) with
        | none => rfl
        | some g =>
          unfold eFitG
          dsimp only
          rw [cKids hd hD (tWhere_lt hg).1]
      · cases hw : tWhere K n (e 1) with
        | none => rfl
        | some i =>
          cases hg : tWhere K n (e 5) with
          | none => rfl
          | some g =>
            have hi := (tWhere_lt hw).1
            have hgn := (tWhere_lt hg).1
            unfold eFitM
            dsimp only
            rw [cPK hd hD hK hi, cPlace hd hD hi, cEnd hd hD hi, cLast hd hD hi hgn]
theorem perf_congr (h : tEq T U) (hT : tOk T) (hf : fitT e T = true) : tEq (ePerf e T) (ePerf e U) := by
  have hf' := (fitT_congr (e := e) h hT).symm.trans hf
  obtain ⟨n, K, B, D⟩ := T
  obtain ⟨n', K', B', D'⟩ := U
  have hU := h.ok hT
  obtain ⟨h1, h2⟩ := h
  obtain ⟨h3, d, hd, h5⟩ := hT
  dsimp only at h1 h2 h3 hd h5
  subst h1
  have hK : ∀ j, j < n → K j = K' j := fun j hj => (h2 j hj).1
  have hB : ∀ j, j < n → B j = B' j := fun j hj => (h2 j hj).2.1
  have hD : ∀ j, j < n → D j = D' j := fun j hj => (h2 j hj).2.2
  unfold ePerf
  dsimp only
  rw [← tWhere_congr hK, ← tWhere_congr hK, ← tWhere_congr hK]
  by_cases c0 : e 0 = 0
  · rw [if_pos c0, if_pos c0]
    cases hw : tWhere K n (e 1) with
    | none => exact ⟨rfl, h2⟩
    | some i =>
      refine ⟨rfl, fun j hj => ⟨hK j hj, ?_, hD j hj⟩⟩
      show upd B i (e 3) j = upd B' i (e 3) j
      unfold upd
      split
      · rfl
      · exact hB j hj
  · rw [if_neg c0, if_neg c0]
    by_cases c1 : e 0 = 1
    · rw [if_pos c1, if_pos c1]
      cases hw : tWhere K n (e 1) with
      | none => exact ⟨rfl, h2⟩
      | some i =>
        have at1 : ∀ (X X' : Nat → Int32), (∀ j, j < n → X j = X' j) → ∀ q, q < n - 1 → tO1 X n i q = tO1 X' n i q := by
          intro X X' hX q hq
          rw [tO1_at hq, tO1_at hq]
          split
          · exact hX q (by omega)
          · exact hX (q + 1) (by omega)
        exact ⟨rfl, fun j hj => ⟨at1 K K' hK j hj, at1 B B' hB j hj, at1 D D' hD j hj⟩⟩
    · rw [if_neg c1, if_neg c1]
      by_cases c2 : e 0 = 2
      · rw [if_pos c2, if_pos c2]
        cases hg : tWhere K n (e 3) with
        | none => exact ⟨rfl, h2⟩
        | some g =>
          have hgn := (tWhere_lt hg).1
          dsimp only
          rw [← cSpot hd hD hgn, ← hD g hgn]
          have hs := (tSpot_le (D := D) (pl := e 4) (wo := -1) hgn).2.2
          generalize tSpot D n g (e 4) (-1) = c at hs
          have at1 : ∀ (X X' : Nat → Int32) (v : Int32), (∀ j, j < n → X j = X' j) → ∀ q, q < n + 1 → tI1 X n c v q = tI1 X' n c v q := by
            intro X X' v hX q hq
            rw [tI1_at (by omega), tI1_at (by omega)]
            split
            · exact hX q (by omega)
            · split
              · rfl
              · exact hX (q - 1) (by omega)
          exact ⟨rfl, fun j hj => ⟨at1 K K' _ hK j hj, at1 B B' _ hB j hj, at1 D D' _ hD j hj⟩⟩
      · rw [if_neg c2, if_neg c2]
        have u : fitT e (n, K, B, D) = eFitM e n K D (tWhere K n (e 1)) (tWhere K n (e 5)) := (if_neg c0).trans ((if_neg c1).trans (if_neg c2))
        have u' : fitT e (n, K', B', D') = eFitM e n K' D' (tWhere K' n (e 1)) (tWhere K' n (e 5)) := (if_neg c0).trans ((if_neg c1).trans (if_neg c2))
        rw [u] at hf
        rw [u', ← tWhere_congr hK, ← tWhere_congr hK] at hf'
        cases hw : tWhere K n (e 1) with
        | none => exact ⟨rfl, h2⟩
        | some i =>
          cases hg : tWhere K n (e 5) with
          | none => exact ⟨rfl, h2⟩
          | some g =>
            rw [hw, hg] at hf hf'
            have hi := (tWhere_lt hw).1
            have hgn := (tWhere_lt hg).1
            obtain ⟨m, c, h0, hm0, him, hm, hgi, hc, eE, ⟨pl, p1, p30, p3⟩, hq⟩ := perfM_n h3 hd h5 hi hgn hf
            obtain ⟨m', c', h0', hm0', him', hm', hgi', hc', eE', ⟨pl', p1', p30', p3'⟩, hq'⟩ := perfM_n (h3.congr hK) (hd.congr hD) h5 hi hgn hf'
            have em : m' = m := by omega
            subst em
            have ep : pl' = pl := (nI_eq (by omega) (by omega)).mp (p1'.symm.trans p1)
            subst ep
            have ec : c' = c := p3'.symm.trans p3
            subst ec
            refine ⟨rfl, fun j hj => ?_⟩
            obtain ⟨q1, q2, q3⟩ := hq j hj
            obtain ⟨r1, r2, r3⟩ := hq' j hj
            have hnu := nuM_lt him hc.2.2.1 hj
            refine ⟨(q1 K).trans ((hK _ hnu).trans (r1 K').symm), (q1 B).trans ((hB _ hnu).trans (r1 B').symm), q3.trans r3.symm⟩
/-- until one doesn't FIT: alike -/
theorem unt_congr {G : Nat → Nat → Int32} : ∀ k i (T U : tT), tEq T U → tOk T → (∀ j, i ≤ j → j < i + k → eOk (G j)) → (untT G k i T).2 = (untT G k i U).2 ∧ tEq (untT G k i T).1 (untT G k i U).1 ∧ tOk (untT G k i T).1 := by
  intro k
  induction k with
  | zero => intro i T U h hT hG; exact ⟨rfl, h, hT⟩
  | succ k ih =>
    intro i T U h hT hG
    unfold untT
    rw [← fitT_congr h hT]
    by_cases c : fitT (G i) T = true
    · rw [if_pos c, if_pos c]
      exact ih (i + 1) _ _ (perf_congr h hT c) (perf_ok hT (hG i (by omega) (by omega)) c) (fun j h1 h2 => hG j (by omega) (by omega))
    · rw [if_neg c, if_neg c]
      exact ⟨rfl, h, hT⟩
end CONG

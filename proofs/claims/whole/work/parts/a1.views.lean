/-! trees seen by keys: what the parent's key is, and what edits do to it -/
/-- the key of the parent of a key (0: the root's); none: no such key -/
def vP (T : tT) (k : Int32) : Option Int32 := (tWhere T.2.1 T.1 k).map (tPK T.2.1 T.2.2.2)
section VIEWS
variable {d : Nat → Nat} {n i g m c pl : Nat} {K B D : Nat → Int32} {T U V : tT} {e : Nat → Int32} {k : Int32}
theorem vP_at (hK : kOk K n) (hi : i < n) : vP (n, K, B, D) (K i) = some (tPK K D i) := by
  unfold vP
  dsimp only
  rw [tWhere_at hK hi rfl]
  rfl
theorem vP_at' (hK : kOk K n) (hi : i < n) (hk : K i = k) : vP (n, K, B, D) k = some (tPK K D i) := by
  rw [← hk]
  exact vP_at hK hi
theorem vP_no (h : ∀ j, j < n → K j ≠ k) : vP (n, K, B, D) k = none := by
  unfold vP
  dsimp only
  rw [tWhere_none' h]
  rfl
theorem vP_iff : vP T k = none ↔ tWhere T.2.1 T.1 k = none := by
  unfold vP
  cases tWhere T.2.1 T.1 k with
  | none => exact ⟨fun _ => rfl, fun _ => rfl⟩
  | some i => exact ⟨fun h => (by cases h), fun h => (by cases h)⟩
theorem vP_some {u : Int32} (h : vP T k = some u) : ∃ i, tWhere T.2.1 T.1 k = some i ∧ i < T.1 ∧ T.2.1 i = k ∧ tPK T.2.1 T.2.2.2 i = u := by
  unfold vP at h
  cases w : tWhere T.2.1 T.1 k with
  | none => rw [w] at h; cases h
  | some i =>
    rw [w] at h
    have := tWhere_lt w
    exact ⟨i, rfl, this.1, this.2, by injection h⟩
theorem vP_congr (h : tEq T U) (hT : tOk T) : vP T k = vP U k := by
  obtain ⟨n, K, B, D⟩ := T
  obtain ⟨n', K', B', D'⟩ := U
  obtain ⟨h1, h2⟩ := h
  obtain ⟨h3, d, hd, h5⟩ := hT
  dsimp only at h1 h2 h3 hd h5
  subst h1
  have hK : ∀ j, j < n → K j = K' j := fun j hj => (h2 j hj).1
  have hD : ∀ j, j < n → D j = D' j := fun j hj => (h2 j hj).2.2
  unfold vP
  dsimp only
  rw [← tWhere_congr hK]
  cases w : tWhere K n k with
  | none => rfl
  | some i =>
    show some (tPK K D i) = some (tPK K' D' i)
    rw [cPK hd hD hK (tWhere_lt w).1]
/-- a NAME changes nothing of it -/
theorem vP_N (h0 : e 0 = 0) : vP (ePerf e T) k = vP T k := by
  unfold ePerf
  rw [if_pos h0]
  cases tWhere T.2.1 T.1 (e 1) <;> rfl
/-- a MOVE -/
theorem vP_M (hT : tOk T) (hf : fitT e T = true) (c0 : e 0 ≠ 0) (c1 : e 0 ≠ 1) (c2 : e 0 ≠ 2) : vP (ePerf e T) k = if k = e 1 then some (e 5) else vP T k := by
  obtain ⟨n, K, B, D⟩ := T
  obtain ⟨hK, d, hd, h⟩ := hT
  dsimp only at hK hd h
  have u : fitT e (n, K, B, D) = eFitM e n K D (tWhere K n (e 1)) (tWhere K n (e 5)) := (if_neg c0).trans ((if_neg c1).trans (if_neg c2))
  rw [u] at hf
  unfold ePerf
  dsimp only
  rw [if_neg c0, if_neg c1, if_neg c2]
  cases hw : tWhere K n (e 1) with
  | none => rw [hw] at hf; cases hf
  | some i =>
    cases hg : tWhere K n (e 5) with
    | none => rw [hw, hg] at hf; cases hf
    | some g =>
      rw [hw, hg] at hf
      have hi := (tWhere_lt hw).1
      have hgn := (tWhere_lt hg).1
      obtain ⟨m, c, h0, hm0, him, hm, hgi, hc, eE, -, hq⟩ := perfM_n hK hd h hi hgn hf
      have mf := mv_facts h hi h0 hm hgn hgi hc
      have hn := hK.le
      dsimp only
      generalize tCarry (tAdd D i (tEnd D n i) (D g + 1 - D i)) (tSpot D n g (e 6) (nI i)) i (tEnd D n i) = D' at hq ⊢
      generalize tCarry B (tSpot D n g (e 6) (nI i)) i (tEnd D n i) = B'
      have hqK : ∀ q, q < n → tCarry K (tSpot D n g (e 6) (nI i)) i (tEnd D n i) q = K (nuM i m c q) := fun q h => (hq q h).1 K
      generalize tCarry K (tSpot D n g (e 6) (nI i)) i (tEnd D n i) = K' at hqK ⊢
      have hK' : kOk K' n := ⟨fun q hqn => by
          rw [hqK q hqn]
          exact hK.1 _ (nuM_lt him hc.2.2.1 hqn), fun q q' h1 h2 => by
          rw [hqK q (by omega), hqK q' h2]
          intro z
          have := nuM_inj (hK.inj (nuM_lt him hc.2.2.1 (by omega)) (nuM_lt him hc.2.2.1 h2) z)
          omega⟩
      have hd' : dEq D' (dMv d i m g c) n := dOk.eq mf.1 hn (fun q hqn => (hq q hqn).2.2)
      have ki := (tWhere_lt hw).2
      have kg := (tWhere_lt hg).2
      by_cases ck : ∃ j, j < n ∧ K j = k
      · obtain ⟨j, hj, rfl⟩ := ck
        obtain ⟨q, hqn, hqj⟩ := nuM_onto (c := c) him hc.2.2.1 hj
        have kq : K' q = K j := by rw [hqK q hqn, hqj]
        rw [vP_at' hK' hqn kq, vP_at hK hj]
        by_cases q0 : q = 0
        · subst q0
          have j0 : j = 0 := by
            rw [← hqj]
            exact nuM_0 h0 (by have := hc.2.1; omega)
          subst j0
          rw [if_neg (fun z => by
            have := hK.inj hj hi (z.trans ki.symm)
            omega)]
          rfl
        · obtain ⟨p, p1, p2, p3, p4⟩ := mf.2.2 q hqn (by omega)
          rw [tPK_some hd' hqn p1, hqK p (by omega)]
          by_cases cj : j = i
          · rw [if_pos (by rw [cj, ki]), p3 (hqj.trans cj), kg]
          · rw [if_neg (fun z => cj (hK.inj hj hi (z.trans ki.symm)))]
            have p5 := p4 (fun z => cj (hqj.symm.trans z))
            rw [hqj] at p5
            rw [tPK_some hd hj p5]
      · rw [vP_no (fun j hj z => ck ⟨j, hj, z⟩), vP_no (fun q hqn z => ck ⟨_, nuM_lt him hc.2.2.1 hqn, (hqK q hqn).symm.trans z⟩)]
        rw [if_neg (fun z => ck ⟨i, hi, ki.trans z.symm⟩)]
/-- a GIVE -/
theorem vP_G (hT : tOk T) (he : eOk e) (hf : fitT e T = true) (c2 : e 0 = 2) : vP (ePerf e T) k = if k = e 1 then some (e 3) else vP T k := by
  have hO := perf_ok hT he hf
  obtain ⟨n, K, B, D⟩ := T
  obtain ⟨hK, d, hd, h⟩ := hT
  dsimp only at hK hd h
  have c0 : e 0 ≠ 0 := by rw [c2]; decide
  have c1 : e 0 ≠ 1 := by rw [c2]; decide
  have u : fitT e (n, K, B, D) = eFitG e n K D (tWhere K n (e 1)) (tWhere K n (e 3)) := (if_neg c0).trans ((if_neg c1).trans (if_pos c2))
  rw [u] at hf
  unfold ePerf at hO ⊢
  dsimp only at hO ⊢
  rw [if_neg c0, if_neg c1, if_pos c2] at hO ⊢
  cases hg : tWhere K n (e 3) with
  | none => rw [hg] at hf; cases tWhere K n (e 1) <;> cases hf
  | some g =>
    rw [hg] at hf hO
    have hgn := (tWhere_lt hg).1
    have kg := (tWhere_lt hg).2
    obtain ⟨pl, c, f1, f2, f3, f4, f5, f6⟩ := fitG_n hK hd h hgn hf
    obtain ⟨gf1, gf2, gf3⟩ := gv_facts h f6
    dsimp only at hO ⊢
    rw [f4] at hO ⊢
    have hK' := hO.1
    dsimp only at hK'
    have hcn : c ≤ n := f6.2.2.1
    have hgc := f6.2.1
    have at1 : ∀ (X : Nat → Int32) (v : Int32) q, q < n + 1 → tI1 X n c v q = if q < c then X q else if q = c then v else X (q - 1) := fun X v q hq => tI1_at (by omega)
    have hd' : dEq (tI1 D n c (D g + 1)) (putD d g c 1 (fun _ => 0)) (n + 1) := by
      refine dOk.eq gf1 hK'.le (fun q hq => ?_)
      rw [at1 D _ q hq]
      unfold putD
      by_cases w : q < c
      · rw [if_pos w, if_pos w]
        exact (hd q (by omega)).1
      · rw [if_neg w, if_neg w]
        by_cases w2 : q = c
        · rw [if_pos w2, if_pos (by omega), (hd g hgn).1, nI_1]
          rfl
        · rw [if_neg w2, if_neg (by omega)]
          exact (hd (q - 1) (by omega)).1
    have old : ∀ q, q < n → tI1 K n c (e 1) (phI c 1 q) = K q ∧ phI c 1 q < n + 1 := by
      intro q hq
      unfold phI
      by_cases w : q < c
      · rw [if_pos w, at1 K _ q (by omega), if_pos w]
        exact ⟨rfl, by omega⟩
      · rw [if_neg w, at1 K _ (q + 1) (by omega), if_neg (by omega), if_neg (by omega), Nat.add_sub_cancel]
        exact ⟨rfl, by omega⟩
    have new : tI1 K n c (e 1) c = e 1 := by
      rw [at1 K _ c (by omega), if_neg (by omega), if_pos rfl]
    by_cases ck : k = e 1
    · rw [if_pos ck, vP_at' hK' (show c < n + 1 by omega) (new.trans ck.symm), tPK_some hd' (show c < n + 1 by omega) gf2, ← kg]
      rw [at1 K _ g (by omega), if_pos hgc]
    · rw [if_neg ck]
      by_cases cj : ∃ j, j < n ∧ K j = k
      · obtain ⟨j, hj, rfl⟩ := cj
        rw [vP_at' hK' (old j hj).2 (old j hj).1, vP_at hK hj]
        by_cases j0 : j = 0
        · subst j0
          rw [show phI c 1 0 = 0 from if_pos (by omega)]
          rfl
        · obtain ⟨p, p1, p2⟩ := gf3 j hj (by omega)
          rw [tPK_some hd' (old j hj).2 p2, tPK_some hd hj p1, (old p (by have := (nPar_some p1).1; omega)).1]
      · rw [vP_no (fun j hj z => cj ⟨j, hj, z⟩)]
        refine vP_no (fun q hq z => ?_)
        rw [at1 K _ q hq] at z
        split at z
        · exact cj ⟨q, by omega, z⟩
        · split at z
          · exact ck z.symm
          · exact cj ⟨q - 1, by omega, z⟩
/-- a TAKE -/
theorem vP_T (hT : tOk T) (he : eOk e) (hf : fitT e T = true) (c1 : e 0 = 1) : vP (ePerf e T) k = if k = e 1 then none else vP T k := by
  obtain ⟨n, K, B, D⟩ := T
  have hO := perf_ok hT he hf
  obtain ⟨hK, d, hd, h⟩ := hT
  dsimp only at hK hd h
  have hn := hK.le
  have c0 : e 0 ≠ 0 := by rw [c1]; decide
  have u : fitT e (n, K, B, D) = eFitT e n K B D (tWhere K n (e 1)) := (if_neg c0).trans (if_pos c1)
  rw [u] at hf
  unfold ePerf at hO ⊢
  dsimp only at hO ⊢
  rw [if_neg c0, if_pos c1] at hO ⊢
  cases hw : tWhere K n (e 1) with
  | none => rw [hw] at hf; cases hf
  | some i =>
    rw [hw] at hf hO
    have hi := (tWhere_lt hw).1
    have ki := (tWhere_lt hw).2
    obtain ⟨f1, f2, f3, f4⟩ := of_decide_eq_true hf
    have h0 : 0 < i := by
      rcases Nat.eq_zero_or_pos i with w | w
      · subst w
        exact absurd f3.symm (he.2.2.1 c0).ne
      · exact w
    rw [nKids_of hd hi] at f1
    have hm := (leaf_end h hi).mp f1
    obtain ⟨tf1, tf2⟩ := tk_facts h hi h0 hm
    dsimp only at hO ⊢
    have hK' := hO.1
    dsimp only at hK'
    have at1 : ∀ (X : Nat → Int32) q, q < n - 1 → tO1 X n i q = X (phI i 1 q) := by
      intro X q hq
      rw [tO1_at hq]
      unfold phI
      split <;> rfl
    have plt : ∀ q, q < n - 1 → phI i 1 q < n ∧ phI i 1 q ≠ i := by
      intro q hq
      unfold phI
      split <;> omega
    have hd' : dEq (tO1 D n i) (cutD d i 1) (n - 1) := by
      refine dOk.eq tf1 hK'.le (fun q hq => ?_)
      rw [at1 D q hq, (hd _ (plt q hq).1).1]
      unfold cutD phI
      split <;> rfl
    by_cases ck : k = e 1
    · rw [if_pos ck]
      refine vP_no (fun q hq z => ?_)
      rw [at1 K q hq] at z
      exact (plt q hq).2 (hK.inj (plt q hq).1 hi (z.trans (ck.trans ki.symm)))
    · rw [if_neg ck]
      by_cases cj : ∃ j, j < n ∧ K j = k
      · obtain ⟨j, hj, rfl⟩ := cj
        have ji : j ≠ i := fun z => ck (by rw [z, ki])
        obtain ⟨q, hq, hqj⟩ : ∃ q, q < n - 1 ∧ phI i 1 q = j := by
          by_cases w : j < i
          · exact ⟨j, by omega, if_pos w⟩
          · refine ⟨j - 1, by omega, ?_⟩
            unfold phI
            rw [if_neg (by omega)]
            omega
        have kq : tO1 K n i q = K j := by rw [at1 K q hq, hqj]
        rw [vP_at' hK' hq kq, vP_at hK hj]
        by_cases q0 : q = 0
        · subst q0
          have : j = 0 := by
            rw [← hqj]
            exact if_pos h0
          rw [this]
          rfl
        · obtain ⟨p, p1, p2, p3⟩ := tf2 q hq (by omega)
          rw [hqj] at p3
          rw [tPK_some hd' hq p1, tPK_some hd hj p3, at1 K p (by omega)]
      · rw [vP_no (fun j hj z => cj ⟨j, hj, z⟩)]
        refine vP_no (fun q hq z => ?_)
        rw [at1 K q hq] at z
        exact cj ⟨_, (plt q hq).1, z⟩
end VIEWS

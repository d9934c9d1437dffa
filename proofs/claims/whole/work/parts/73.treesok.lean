/-! trees as they should be, and what edits that FIT do to them -/
def kOk (K : Nat → Int32) (n : Nat) : Prop := (∀ i, i < n → ∃ k : Nat, K i = nI k ∧ 1 ≤ k ∧ k ≤ 60) ∧ ∀ i j, i < j → j < n → K i ≠ K j
def tOk (T : tT) : Prop := kOk T.2.1 T.1 ∧ ∃ d, dEq T.2.2.2 d T.1 ∧ dOk d T.1
def tEq (T U : tT) : Prop := T.1 = U.1 ∧ ∀ i, i < T.1 → T.2.1 i = U.2.1 i ∧ T.2.2.1 i = U.2.2.1 i ∧ T.2.2.2 i = U.2.2.2 i
section TOK
variable {K B D : Nat → Int32} {d : Nat → Nat} {n i g : Nat} {e : Nat → Int32} {T U V : tT} {k : Int32}
theorem kOk.le (h : kOk K n) : n ≤ 60 := by
  refine pig 60 n (fun i => (K i).toNatClampNeg - 1) (fun i hi => ?_) (fun i j hij hj => ?_)
  · obtain ⟨k, e1, e2, e3⟩ := h.1 i hi
    show (K i).toNatClampNeg - 1 < 60
    rw [e1, nI_clamp (by omega)]
    omega
  · obtain ⟨k, e1, e2, e3⟩ := h.1 i (by omega)
    obtain ⟨k', f1, f2, f3⟩ := h.1 j hj
    show (K i).toNatClampNeg - 1 ≠ (K j).toNatClampNeg - 1
    intro z
    rw [e1, f1, nI_clamp (by omega), nI_clamp (by omega)] at z
    refine h.2 i j hij hj ?_
    rw [e1, f1]
    exact congrArg nI (by omega)
theorem kOk.inj (h : kOk K n) {j : Nat} (hi : i < n) (hj : j < n) (e : K i = K j) : i = j := by
  rcases Nat.lt_trichotomy i j with w | w | w
  · exact absurd e (h.2 i j w hj)
  · exact w
  · exact absurd e.symm (h.2 j i w hi)
theorem tW_none : ∀ (m i : Nat), tW K k i m = none → ∀ j, i ≤ j → j < i + m → K j ≠ k
  | 0, i, _, j, h1, h2 => by omega
  | m + 1, i, h, j, h1, h2 => by
    unfold tW at h
    by_cases c : K i = k
    · rw [if_pos c] at h
      cases h
    · rw [if_neg c] at h
      by_cases z : j = i
      · rw [z]
        exact c
      · exact tW_none m (i + 1) h j (by omega) (by omega)
theorem tWhere_none (h : tWhere K n k = none) {j : Nat} (hj : j < n) : K j ≠ k := tW_none n 0 h j (by omega) (by omega)
theorem tWhere_none' (h : ∀ j, j < n → K j ≠ k) : tWhere K n k = none := by
  cases w : tWhere K n k with
  | none => rfl
  | some p => exact absurd (tWhere_lt w).2 (h p (tWhere_lt w).1)
theorem tWhere_at (h : kOk K n) (hi : i < n) (e : K i = k) : tWhere K n k = some i := by
  cases w : tWhere K n k with
  | none => exact absurd e (tWhere_none w hi)
  | some p =>
    have := tWhere_lt w
    rw [h.inj this.1 hi (by rw [this.2, e])]
theorem tW_congr {K' : Nat → Int32} : ∀ (m i : Nat), (∀ j, i ≤ j → j < i + m → K j = K' j) → tW K k i m = tW K' k i m
  | 0, i, _ => rfl
  | m + 1, i, h => by
    unfold tW
    rw [h i (by omega) (by omega), tW_congr m (i + 1) (fun j h1 h2 => h j (by omega) (by omega))]
theorem tWhere_congr {K' : Nat → Int32} (h : ∀ j, j < n → K j = K' j) : tWhere K n k = tWhere K' n k := tW_congr n 0 (fun j _ h2 => h j (by omega))
theorem tEq.refl : tEq T T := ⟨rfl, fun i hi => ⟨rfl, rfl, rfl⟩⟩
theorem tEq.symm (h : tEq T U) : tEq U T := ⟨h.1.symm, fun i hi => by
  have := h.2 i (by rw [h.1]; exact hi)
  exact ⟨this.1.symm, this.2.1.symm, this.2.2.symm⟩⟩
theorem tEq.trans (h : tEq T U) (h2 : tEq U V) : tEq T V := ⟨h.1.trans h2.1, fun i hi => by
  have a := h.2 i hi
  have b := h2.2 i (by rw [← h.1]; exact hi)
  exact ⟨a.1.trans b.1, a.2.1.trans b.2.1, a.2.2.trans b.2.2⟩⟩
theorem dEq.congr {D' : Nat → Int32} (h : dEq D d n) (hD : ∀ j, j < n → D j = D' j) : dEq D' d n := fun i hi => by
  rw [← hD i hi]
  exact h i hi
theorem kOk.congr {K' : Nat → Int32} (h : kOk K n) (hK : ∀ j, j < n → K j = K' j) : kOk K' n := ⟨fun i hi => by
  rw [← hK i hi]
  exact h.1 i hi, fun i j hij hj => by
  rw [← hK i (by omega), ← hK j hj]
  exact h.2 i j hij hj⟩
theorem tEq.ok (h : tEq T U) (hT : tOk T) : tOk U := by
  obtain ⟨n, K, B, D⟩ := T
  obtain ⟨n', K', B', D'⟩ := U
  obtain ⟨h1, h2⟩ := h
  obtain ⟨h3, d, h4, h5⟩ := hT
  dsimp only at h1 h2 h3 h4 h5
  subst h1
  exact ⟨h3.congr (fun j hj => (h2 j hj).1), d, h4.congr (fun j hj => (h2 j hj).2.2), h5⟩
theorem tPK_n (hd : dEq D d n) (hi : i < n) : tPK K D i = match nPar d i with
    | none => 0
    | some p => K p := by
  unfold tPK
  rw [nPar_of hd hi]
  cases nPar d i <;> rfl
theorem tPK_some {p : Nat} (hd : dEq D d n) (hi : i < n) (hp : nPar d i = some p) : tPK K D i = K p := by
  rw [tPK_n hd hi, hp]
theorem tPK_0 : tPK K D 0 = 0 := rfl
theorem dOk.par' (h : dOk d n) (hd : dEq D d n) (hi : i < n) (h0 : i ≠ 0) : tPar D i ≠ none := by
  obtain ⟨p, e1, -⟩ := h.par hi (by omega)
  rw [nPar_of hd hi, e1]
  exact fun z => by cases z
theorem nEnd_0 (h : dOk d n) : nEnd d n 0 = n := nEnd_uniq h.1 h.1 (Nat.le_refl _) (fun j h1 h2 => by
  have := h.pos h2 h1
  rw [h.2.1]
  omega) (fun z => absurd z (Nat.lt_irrefl _))
theorem dOk.eq (h : dOk d n) (hn : n ≤ 60) : (∀ i, i < n → D i = nI (d i)) → dEq D d n := fun hD i hi => ⟨hD i hi, by have := h.le i hi; omega⟩
theorem eLast_n (h : dOk d n) (hd : dEq D d n) (hn : n ≤ 60) (hi : i < n) (h0 : 0 < i) (hg : g < n) : eLast n D i g = nI (nCt (nK d (d g + 1) i) (g + 1) (nEnd d n g - (g + 1))) := by
  have hk := kids_wo h hi h0 hg
  unfold eLast
  rw [nPar_of hd hi, nKids_of hd hg, hk]
  obtain ⟨p, e1, e2, -, -⟩ := h.par hi h0
  rw [e1, oI_s]
  by_cases c : p = g
  · subst c
    rw [if_pos rfl, if_pos rfl, nI_pred]
  · rw [if_neg (fun z => c ((nI_eq (by omega) (by omega)).mp z)), if_neg (fun z => c (by cases z; rfl)), Nat.add_zero]
theorem eLast_pos (h : dOk d n) (hd : dEq D d n) (hn : n ≤ 60) (hi : i < n) (hg : g < n) : ¬ eLast n D i g < 0 := by
  by_cases h0 : 0 < i
  · rw [eLast_n h hd hn hi h0 hg]
    have := nCt_le (P := nK d (d g + 1) i) (nEnd d n g - (g + 1)) (g + 1)
    have := (nEnd_spec (d := d) hg).2.1
    exact nI_pos (by omega)
  · obtain rfl : i = 0 := by omega
    unfold eLast
    rw [nPar_of hd hi, nPar_0, oI_n, if_neg (fun z => oI_ne (show g < 2 ^ 31 by omega) z.symm)]
    have := tKids_le (D := D) (n := n) (i := g)
    exact nI_pos (by omega)
/-- MOVE FITS: what it means in numbers -/
theorem fitM_n (hK : kOk K n) (hd : dEq D d n) (h : dOk d n) (hi : i < n) (hg : g < n) (hf : eFitM e n K D (some i) (some g) = true) : ∃ m pl, 0 < i ∧ 0 < m ∧ i + m ≤ n ∧ tEnd D n i = i + m ∧ nEnd d n i = i + m ∧ (g < i ∨ i + m ≤ g) ∧ e 6 = nI pl ∧ pl < 2 ^ 30 ∧ tSpot D n g (e 6) (nI i) = nSpot d n g pl i ∧ (nSpot d n g pl i ≤ i ∨ i + m ≤ nSpot d n g pl i) ∧ nSpot d n g pl i ≤ n ∧ nChild (cutD d i m) (n - m) (psI i m g) pl = psI i m (nSpot d n g pl i) ∧ cOk (cutD d i m) (n - m) (psI i m g) (psI i m (nSpot d n g pl i)) := by
  have hn := hK.le
  obtain ⟨f1, f2, f3, f4, f5⟩ := of_decide_eq_true hf
  obtain ⟨a1, a2, a3, a4⟩ := nEnd_spec (d := d) hi
  rw [nEnd_of hd hi] at f3
  have h0 : 0 < i := by
    rcases Nat.eq_zero_or_pos i with w | w
    · subst w
      rw [nEnd_0 h] at f3
      exact absurd ⟨Nat.zero_le _, hg⟩ f3
    · exact w
  rw [eLast_n h hd hn hi h0 hg] at f5
  have hw := nCt_le (P := nK d (d g + 1) i) (nEnd d n g - (g + 1)) (g + 1)
  have hgE := nEnd_spec (d := d) hg
  obtain ⟨pl, p1, p2⟩ := i_pl (y := e 6) (show nCt (nK d (d g + 1) i) (g + 1) (nEnd d n g - (g + 1)) < 2 ^ 30 by omega) (Int32.not_lt.mp f4) (Int32.not_lt.mp f5)
  obtain ⟨m, hm⟩ : ∃ m, nEnd d n i = i + m := ⟨nEnd d n i - i, by omega⟩
  have hgi : g < i ∨ i + m ≤ g := by omega
  obtain ⟨c1, c2⟩ := cut_spot h hi h0 hm hg hgi rfl p2
  have hs := nSpot_at hg p2
  have hcut := cut_ok h hi h0 hm
  have ce := cut_end h hi h0 hm hg hgi rfl (fun z => by unfold psI at z ⊢; split at z <;> (split <;> omega))
  have hkk : pl ≤ nKids (cutD d i m) (n - m) (psI i m g) := by
    rw [nKids_ct, ce.2.1, cut_ct h hi h0 hm hg hgi rfl hgE.1 (Nat.le_refl _) ce.1]
    exact p2
  have hca := nAt_cOk hcut ce.2.2.1 (P := nKc (cutD d i m) (psI i m g)) (fun j hj => of_decide_eq_true hj) (nChild_at hcut ce.2.2.1 hkk)
  rw [c2] at hca
  refine ⟨m, pl, h0, by omega, by omega, by rw [nEnd_of hd hi, hm], hm, hgi, p1, by omega, ?_, c1, by have := hs.2.1; omega, c2, hca⟩
  unfold tSpot nSpot
  rw [nEnd_of hd hg, (hd g hg).1, p1, nI_1]
  have := h.le g hg
  exact nSp_of hd (by omega) (by omega) (fun j hj => nI_eq (by omega) (by omega)) _ _ _ (by omega) (by omega)
theorem i_dist (x y z w : Int32) (h : z = w + 1) : x + (z - y) = x - y + (w + 1) := by
  subst h
  rw [Int32.sub_eq_add_neg, Int32.sub_eq_add_neg]
  ac_rfl
/-- MOVE: the class's tree -/
theorem perfM_n (hK : kOk K n) (hd : dEq D d n) (h : dOk d n) (hi : i < n) (hg : g < n) (hf : eFitM e n K D (some i) (some g) = true) : ∃ m c, 0 < i ∧ 0 < m ∧ i + m ≤ n ∧ nEnd d n i = i + m ∧ (g < i ∨ i + m ≤ g) ∧ cOk (cutD d i m) (n - m) (psI i m g) c ∧ tEnd D n i = i + m ∧ (∃ pl, e 6 = nI pl ∧ pl < 2 ^ 30 ∧ nChild (cutD d i m) (n - m) (psI i m g) pl = c) ∧ ∀ q, q < n → (∀ X : Nat → Int32, tCarry X (tSpot D n g (e 6) (nI i)) i (tEnd D n i) q = X (nuM i m c q)) ∧ tCarry (tAdd D i (tEnd D n i) (D g + 1 - D i)) (tSpot D n g (e 6) (nI i)) i (tEnd D n i) q = (if c ≤ q ∧ q < c + m then D (nuM i m c q) - D i + (D g + 1) else D (nuM i m c q)) ∧ tCarry (tAdd D i (tEnd D n i) (D g + 1 - D i)) (tSpot D n g (e 6) (nI i)) i (tEnd D n i) q = nI (dMv d i m g c q) := by
  have hn := hK.le
  obtain ⟨m, pl, h0, hm0, him, e1, hm, hgi, p1, p30, e2, hs, hsn, c1, c2⟩ := fitM_n hK hd h hi hg hf
  have mf := mv_facts h hi h0 hm hg hgi c2
  refine ⟨m, _, h0, hm0, him, hm, hgi, c2, e1, ⟨pl, p1, p30, c1⟩, fun q hq => ?_⟩
  rw [e1, e2]
  have hc : psI i m (nSpot d n g pl i) ≤ n - m := c2.2.2.1
  have hcq : ∀ X : Nat → Int32, tCarry X (nSpot d n g pl i) i (i + m) q = X (nuM i m (psI i m (nSpot d n g pl i)) q) := fun X => nuM_cls hm0 him hs hsn hq
  have hD : tCarry (tAdd D i (i + m) (D g + 1 - D i)) (nSpot d n g pl i) i (i + m) q = (if psI i m (nSpot d n g pl i) ≤ q ∧ q < psI i m (nSpot d n g pl i) + m then D (nuM i m (psI i m (nSpot d n g pl i)) q) - D i + (D g + 1) else D (nuM i m (psI i m (nSpot d n g pl i)) q)) := by
    rw [hcq]
    unfold tAdd
    have hb := nuM_blk (i := i) (m := m) (c := psI i m (nSpot d n g pl i)) (n := n) him hc (q := q)
    by_cases z : psI i m (nSpot d n g pl i) ≤ q ∧ q < psI i m (nSpot d n g pl i) + m
    · rw [if_pos (hb.mpr z), if_pos z]
      exact i_dist _ _ _ _ rfl
    · rw [if_neg (fun w => z (hb.mp w)), if_neg z]
  refine ⟨hcq, hD, ?_⟩
  rw [hD, mf.2.1 q hq]
  have hnu := nuM_lt him hc hq
  by_cases z : psI i m (nSpot d n g pl i) ≤ q ∧ q < psI i m (nSpot d n g pl i) + m
  · rw [if_pos z, if_pos z, (hd _ hnu).1, (hd i hi).1, (hd g hg).1, nI_1, pk_sub, nI_add]
    have hb := (nuM_blk (i := i) (m := m) (c := psI i m (nSpot d n g pl i)) (n := n) him hc (q := q)).mpr z
    rcases Nat.lt_or_ge i (nuM i m (psI i m (nSpot d n g pl i)) q) with w | w
    · have := (nEnd_spec (d := d) hi).2.2.1 _ w (by omega)
      omega
    · have : nuM i m (psI i m (nSpot d n g pl i)) q = i := by omega
      rw [this]
      exact Nat.le_refl _
  · rw [if_neg z, if_neg z]
    exact (hd _ hnu).1
/-- GIVE FITS, in numbers -/
theorem fitG_n (hK : kOk K n) (hd : dEq D d n) (h : dOk d n) (hg : g < n) {o : Option Nat} (hf : eFitG e n K D o (some g) = true) : ∃ pl c, o = none ∧ e 4 = nI pl ∧ pl ≤ tKids D n g ∧ tSpot D n g (e 4) (-1) = c ∧ tChild D n g pl = c ∧ cOk d n g c := by
  have hn := hK.le
  obtain ⟨f1, f2, f3, f4⟩ := of_decide_eq_true hf
  have hk := tKids_le (D := D) (n := n) (i := g)
  obtain ⟨pl, p1, p2⟩ := i_pl (y := e 4) (show tKids D n g < 2 ^ 30 by omega) (Int32.not_lt.mp f2) (Int32.not_lt.mp f3)
  have pt : ∀ j, j < n → nKc d g j = nK d (d g + 1) n j := fun j hj => decide_eq_decide.mpr ⟨fun z => ⟨z, by omega⟩, fun z => z.1⟩
  have hE := nEnd_spec (d := d) hg
  have p3 : pl ≤ nCt (nKc d g) (g + 1) (nEnd d n g - (g + 1)) := by
    rw [← nKids_ct, ← nKids_of hd hg]
    exact p2
  have e1 : nCt (nKc d g) (g + 1) (nEnd d n g - (g + 1)) = nCt (nK d (d g + 1) n) (g + 1) (nEnd d n g - (g + 1)) := nCt_sh _ (fun j hj => pt _ (by omega))
  have s1 := nSpot_at (w := n) hg (e1 ▸ p3)
  have s2 := nChild_at h hg (pl := pl) (by rw [nKids_ct]; exact p3)
  have s3 : nAt (nKc d g) (g + 1) (nEnd d n g) pl (nSpot d n g pl n) := by
    obtain ⟨b1, b2, b3, b4⟩ := s1
    refine ⟨b1, b2, fun z => by rw [pt _ (by omega)]; exact b3 z, ?_⟩
    exact (nCt_sh (P := nKc d g) (P' := nK d (d g + 1) n) (a := g + 1) (b := g + 1) _ (fun j hj => pt _ (by omega))).trans b4
  have e2 : nSpot d n g pl n = nChild d n g pl := nAt_uniq s3 s2
  refine ⟨pl, nChild d n g pl, f1, p1, p2, ?_, nChild_of hd hg, nAt_cOk h hg (fun j hj => of_decide_eq_true hj) s2⟩
  rw [← e2]
  unfold tSpot nSpot
  rw [nEnd_of hd hg, (hd g hg).1, p1, nI_1]
  have := h.le g hg
  exact nSp_of hd (by omega) (by omega) (fun j hj => ⟨fun z => absurd z (oI_ne (by omega)), fun z => by omega⟩) _ _ _ (by omega) (by omega)
end TOK

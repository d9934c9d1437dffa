/-! a run of nodes, a node with all below it, cut out of a tree, and put into one: depths as numbers -/
def cutD (d : Nat → Nat) (i m : Nat) : Nat → Nat := fun q => if q < i then d q else d (q + m)
def putD (d : Nat → Nat) (g c m : Nat) (b : Nat → Nat) : Nat → Nat := fun q => if q < c then d q else if q < c + m then d g + 1 + b (q - c) else d (q - m)
def phI (i m q : Nat) : Nat := if q < i then q else q + m
def psI (i m q : Nat) : Nat := if q ≤ i then q else q - m
theorem phI_psI {i m p : Nat} (hp : p < i ∨ i + m ≤ p) : phI i m (psI i m p) = p := by
  rcases hp with w | w
  · rw [show psI i m p = p from if_pos (by omega)]
    exact if_pos w
  · by_cases z : p = i
    · rw [show psI i m p = p from if_pos (by omega), show phI i m p = p + m from if_neg (by omega)]
      omega
    · rw [show psI i m p = p - m from if_neg (by omega), show phI i m (p - m) = p - m + m from if_neg (by omega)]
      omega
section CUT
variable {d : Nat → Nat} {n i g g' m pl : Nat}
theorem cut_ok (h : dOk d n) (hi : i < n) (h0 : 0 < i) (hm : nEnd d n i = i + m) : dOk (cutD d i m) (n - m) := by
  obtain ⟨a1, a2, a3, a4⟩ := nEnd_spec (d := d) hi
  rw [hm] at a1 a2 a3 a4
  refine ⟨by omega, ?_, fun j hj => ?_⟩
  · show (if 0 < i then d 0 else d (0 + m)) = 0
    rw [if_pos h0]
    exact h.2.1
  · unfold cutD
    by_cases c1 : j + 1 < i
    · rw [if_pos c1, if_pos (by omega)]
      exact h.2.2 j (by omega)
    · rw [if_neg c1]
      by_cases c2 : j < i
      · rw [if_pos c2]
        obtain rfl : i = j + 1 := by omega
        have b := h.2.2 j hi
        have k := a4 (by omega)
        have p := h.pos (show j + 1 + m < n by omega) (by omega)
        omega
      · rw [if_neg c2]
        have b := h.2.2 (j + m) (by omega)
        rw [show j + m + 1 = j + 1 + m by omega] at b
        exact b
theorem cut_end (h : dOk d n) (hi : i < n) (h0 : 0 < i) (hm : nEnd d n i = i + m) (hg : g < n) (hgi : g < i ∨ i + m ≤ g) (hg' : g' = psI i m g) (hpg : g' < i → g' = g) : (nEnd d n g ≤ i ∨ i + m ≤ nEnd d n g) ∧ nEnd (cutD d i m) (n - m) g' = psI i m (nEnd d n g) ∧ g' < n - m ∧ (cutD d i m) g' = d g := by
  obtain ⟨a1, a2, a3, a4⟩ := nEnd_spec (d := d) hi
  obtain ⟨b1, b2, b3, b4⟩ := nEnd_spec (d := d) hg
  rw [hm] at a1 a2 a3 a4
  unfold psI at hg' ⊢
  rcases hgi with c | c
  · rw [if_pos (by omega)] at hg'
    subst hg'
    have eg : cutD d i m g' = d g' := if_pos c
    by_cases c1 : nEnd d n g' ≤ i
    · rw [if_pos c1]
      refine ⟨Or.inl c1, nEnd_uniq (by omega) b1 (by omega) (fun j k1 k2 => ?_) (fun k => ?_), by omega, eg⟩
      · rw [eg, show cutD d i m j = d j from if_pos (by omega)]
        exact b3 j k1 k2
      · rw [eg]
        by_cases c2 : nEnd d n g' < i
        · rw [show cutD d i m (nEnd d n g') = d (nEnd d n g') from if_pos c2]
          exact b4 (by omega)
        · have c3 : nEnd d n g' = i := by omega
          rw [c3] at b4 k ⊢
          rw [show cutD d i m i = d (i + m) from if_neg (by omega)]
          have := a4 (by omega)
          have := b4 (by omega)
          omega
    · rw [if_neg c1]
      have c2 : i + m ≤ nEnd d n g' := by
        have := nEnd_in h hg c (by omega)
        omega
      refine ⟨Or.inr c2, nEnd_uniq (by omega) (by omega) (by omega) (fun j k1 k2 => ?_) (fun k => ?_), by omega, eg⟩
      · rw [eg]
        unfold cutD
        by_cases c3 : j < i
        · rw [if_pos c3]
          exact b3 j k1 (by omega)
        · rw [if_neg c3]
          exact b3 (j + m) (by omega) (by omega)
      · rw [eg, show cutD d i m (nEnd d n g' - m) = d (nEnd d n g' - m + m) from if_neg (by omega), show nEnd d n g' - m + m = nEnd d n g' by omega]
        exact b4 (by omega)
  · rw [if_neg (by omega)] at hg'
    subst hg'
    have eg : cutD d i m (g - m) = d g := by
      rw [show cutD d i m (g - m) = d (g - m + m) from if_neg (by omega), show g - m + m = g by omega]
    rw [if_neg (by omega)]
    refine ⟨Or.inr (by omega), nEnd_uniq (by omega) (by omega) (by omega) (fun j k1 k2 => ?_) (fun k => ?_), by omega, eg⟩
    · rw [eg, show cutD d i m j = d (j + m) from if_neg (by omega)]
      exact b3 (j + m) (by omega) (by omega)
    · rw [eg, show cutD d i m (nEnd d n g - m) = d (nEnd d n g - m + m) from if_neg (by omega), show nEnd d n g - m + m = nEnd d n g by omega]
      exact b4 (by omega)
theorem cut_ct (h : dOk d n) (hi : i < n) (h0 : 0 < i) (hm : nEnd d n i = i + m) (hg : g < n) (hgi : g < i ∨ i + m ≤ g) (hg' : g' = psI i m g) {s : Nat} (hs : g < s) (hsE : s ≤ nEnd d n g) (hsi : s ≤ i ∨ i + m ≤ s) : nCt (nKc (cutD d i m) g') (g' + 1) (psI i m s - (g' + 1)) = nCt (nK d (d g + 1) i) (g + 1) (s - (g + 1)) := by
  obtain ⟨a1, a2, a3, a4⟩ := nEnd_spec (d := d) hi
  obtain ⟨b1, b2, b3, b4⟩ := nEnd_spec (d := d) hg
  have eg := (cut_end h hi h0 hm hg hgi hg' (fun z => by unfold psI at hg'; split at hg' <;> omega)).2.2.2
  rw [hm] at a1 a2 a3 a4
  have pt : ∀ j, j < i → nKc (cutD d i m) g' j = nK d (d g + 1) i j := by
    intro j hj
    unfold nKc nK
    rw [eg, show cutD d i m j = d j from if_pos hj]
    exact decide_eq_decide.mpr ⟨fun z => ⟨z, by omega⟩, fun z => z.1⟩
  have pt2 : ∀ j, i + m ≤ j → nKc (cutD d i m) g' (j - m) = nK d (d g + 1) i j := by
    intro j hj
    unfold nKc nK
    rw [eg, show cutD d i m (j - m) = d (j - m + m) from if_neg (by omega), show j - m + m = j by omega]
    exact decide_eq_decide.mpr ⟨fun z => ⟨z, by omega⟩, fun z => z.1⟩
  unfold psI at hg' ⊢
  rcases hgi with c | c
  · rw [if_pos (by omega)] at hg'
    subst hg'
    rcases hsi with c1 | c1
    · rw [if_pos c1]
      exact nCt_sh _ (fun j hj => pt _ (by omega))
    · rw [if_neg (by omega)]
      have e1 : s - (g' + 1) = (i - (g' + 1)) + (m + (s - (i + m))) := by omega
      have e2 : s - m - (g' + 1) = (i - (g' + 1)) + (s - (i + m)) := by omega
      rw [e1, e2, nCt_add, nCt_add, nCt_add, show g' + 1 + (i - (g' + 1)) = i by omega]
      rw [nCt_sh (P := nKc (cutD d i m) g') (P' := nK d (d g' + 1) i) (b := g' + 1) (i - (g' + 1)) (fun j hj => pt _ (by omega))]
      rw [nCt_0 m i (fun j k1 k2 => ?_), nCt_sh (P := nKc (cutD d i m) g') (P' := nK d (d g' + 1) i) (b := i + m) (s - (i + m)) (fun j hj => ?_)]
      · omega
      · have := pt2 (i + m + j) (by omega)
        rw [show i + m + j - m = i + j by omega] at this
        exact this
      · refine decide_eq_false (fun z => ?_)
        have q1 := a3 j (by omega) (by omega)
        have q2 := b3 i c (by omega)
        omega
  · rw [if_neg (by omega)] at hg'
    subst hg'
    rw [if_neg (by omega), show s - m - (g - m + 1) = s - (g + 1) by omega]
    refine nCt_sh _ (fun j hj => ?_)
    have := pt2 (g + 1 + j) (by omega)
    rw [show g + 1 + j - m = g - m + 1 + j by omega] at this
    exact this
/-- where the class has it in the whole tree, the reference has it in the cut one -/
theorem cut_spot (h : dOk d n) (hi : i < n) (h0 : 0 < i) (hm : nEnd d n i = i + m) (hg : g < n) (hgi : g < i ∨ i + m ≤ g) (hg' : g' = psI i m g) (hk : pl ≤ nCt (nK d (d g + 1) i) (g + 1) (nEnd d n g - (g + 1))) : (nSpot d n g pl i ≤ i ∨ i + m ≤ nSpot d n g pl i) ∧ nChild (cutD d i m) (n - m) g' pl = psI i m (nSpot d n g pl i) := by
  obtain ⟨a1, a2, a3, a4⟩ := nEnd_spec (d := d) hi
  obtain ⟨b1, b2, b3, b4⟩ := nEnd_spec (d := d) hg
  obtain ⟨c1, c2, c3, c4⟩ := cut_end h hi h0 hm hg hgi hg' (fun z => by unfold psI at hg'; split at hg' <;> omega)
  obtain ⟨s1, s2, s3, s4⟩ := nSpot_at hg hk
  generalize nSpot d n g pl i = s at s1 s2 s3 s4 ⊢
  have hs : s ≤ i ∨ i + m ≤ s := by
    rw [hm] at a1 a2 a3 a4
    by_cases z : s < nEnd d n g
    · have k := of_decide_eq_true (s3 z)
      rcases hgi with q | q
      · rcases Nat.lt_or_ge i s with w | w
        · rcases Nat.lt_or_ge s (i + m) with w2 | w2
          · have := a3 s w w2
            have := b3 i q (by omega)
            omega
          · exact Or.inr w2
        · exact Or.inl w
      · exact Or.inr (by omega)
    · have : s = nEnd d n g := by omega
      rw [this]
      exact c1
  refine ⟨hs, ?_⟩
  have ct := cut_ct h hi h0 hm hg hgi hg' (s := s) (by omega) s2 hs
  have cE := cut_ct h hi h0 hm hg hgi hg' (s := nEnd d n g) b1 (Nat.le_refl _) c1
  have ek : nKids (cutD d i m) (n - m) g' = nCt (nK d (d g + 1) i) (g + 1) (nEnd d n g - (g + 1)) := by
    rw [nKids_ct, c2, cE]
  refine nAt_uniq (nChild_at (cut_ok h hi h0 hm) c3 (by omega)) ?_
  rw [c2]
  have hps : ∀ y, g < y → (y ≤ i ∨ i + m ≤ y) → g' < psI i m y := by
    intro y hy hy2
    unfold psI at hg' ⊢
    split at hg' <;> split <;> omega
  refine ⟨hps s (by omega) hs, ?_, fun z => ?_, by rw [ct, s4]⟩
  · unfold psI
    split <;> split <;> omega
  · have z2 : s < nEnd d n g := by
      rcases Nat.lt_or_ge s (nEnd d n g) with w | w
      · exact w
      · have : s = nEnd d n g := by omega
        rw [this] at z
        omega
    have k := of_decide_eq_true (s3 z2)
    refine decide_eq_true ?_
    rw [c4, ← k.1]
    unfold psI cutD
    by_cases w : s ≤ i
    · rw [if_pos w, if_pos (by omega)]
    · rw [if_neg w, if_neg (by omega)]
      congr 1
      omega
/-- the children of g without i: how many -/
theorem kids_wo (h : dOk d n) (hi : i < n) (h0 : 0 < i) (hg : g < n) : nKids d n g = nCt (nK d (d g + 1) i) (g + 1) (nEnd d n g - (g + 1)) + (if nPar d i = some g then 1 else 0) := by
  obtain ⟨b1, b2, b3, b4⟩ := nEnd_spec (d := d) hg
  rw [nKids_ct]
  have pt : ∀ j, j ≠ i → nKc d g j = nK d (d g + 1) i j := fun j hj => decide_eq_decide.mpr ⟨fun z => ⟨z, hj⟩, fun z => z.1⟩
  by_cases c : nPar d i = some g
  · rw [if_pos c]
    obtain ⟨p, e1, e2, e3, e4⟩ := h.par hi h0
    rw [c] at e1
    cases e1
    have hE : i < nEnd d n g := by
      rcases Nat.lt_or_ge i (nEnd d n g) with w | w
      · exact w
      · have := b4 (by omega)
        rcases Nat.lt_or_ge (nEnd d n g) i with w2 | w2
        · have := e4 _ b1 w2
          omega
        · have : nEnd d n g = i := by omega
          rw [this] at b4
          have := b4 hi
          omega
    have e : nEnd d n g - (g + 1) = (i - (g + 1)) + (1 + (nEnd d n g - (i + 1))) := by omega
    rw [e, nCt_add, nCt_add, nCt_add, nCt_add, show g + 1 + (i - (g + 1)) = i by omega]
    rw [nCt_sh (P := nKc d g) (P' := nK d (d g + 1) i) (a := g + 1) (b := g + 1) (i - (g + 1)) (fun j hj => pt _ (by omega)), nCt_sh (P := nKc d g) (P' := nK d (d g + 1) i) (a := i + 1) (b := i + 1) (nEnd d n g - (i + 1)) (fun j hj => pt _ (by omega))]
    have k1 : nCt (nKc d g) i 1 = 1 := by
      show (if nKc d g i = true then 1 else 0) + 0 = 1
      rw [if_pos (show nKc d g i = true from decide_eq_true e3)]
    have k2 : nCt (nK d (d g + 1) i) i 1 = 0 := by
      show (if nK d (d g + 1) i i = true then 1 else 0) + 0 = 0
      rw [show nK d (d g + 1) i i = false from decide_eq_false (fun z => z.2 rfl)]
      rfl
    rw [k1, k2]
    omega
  · rw [if_neg c]
    refine nCt_sh _ (fun j hj => ?_)
    by_cases z : g + 1 + j = i
    · rw [z]
      have : ¬ d i = d g + 1 := by
        intro w
        refine c (nPar_uniq (by omega) (by omega) (fun q k1 k2 => ?_))
        have := b3 q k1 (by omega)
        omega
      unfold nKc nK
      rw [decide_eq_false this, decide_eq_false (fun z => this z.1)]
    · exact pt _ z
end CUT
section PUT
variable {d b : Nat → Nat} {n g c m : Nat}
/-- what a block looks like -/
def bOk (b : Nat → Nat) (m : Nat) : Prop := 0 < m ∧ b 0 = 0 ∧ ∀ r, r + 1 < m → 1 ≤ b (r + 1) ∧ b (r + 1) ≤ b r + 1
/-- a place where a child of g may come in -/
def cOk (d : Nat → Nat) (n g c : Nat) : Prop := g < n ∧ g < c ∧ c ≤ n ∧ (∀ j, g < j → j < c → d g < d j) ∧ (c < n → d c ≤ d g + 1)
theorem put_ok (h : dOk d n) (hb : bOk b m) (hc : cOk d n g c) : dOk (putD d g c m b) (n + m) := by
  obtain ⟨c1, c2, c3, c4, c5⟩ := hc
  obtain ⟨b1, b2, b3⟩ := hb
  refine ⟨by omega, ?_, fun j hj => ?_⟩
  · show (if 0 < c then d 0 else _) = 0
    rw [if_pos (by omega)]
    exact h.2.1
  · unfold putD
    by_cases k1 : j + 1 < c
    · rw [if_pos k1, if_pos (by omega)]
      exact h.2.2 j (by omega)
    · rw [if_neg k1]
      by_cases k2 : j < c
      · obtain rfl : c = j + 1 := by omega
        rw [if_pos (by omega), if_pos k2, Nat.sub_self, b2]
        rcases Nat.lt_or_ge g j with w | w
        · have := c4 j w (by omega)
          omega
        · have : g = j := by omega
          rw [this]
          omega
      · rw [if_neg k2]
        by_cases k3 : j + 1 < c + m
        · rw [if_pos k3, if_pos (by omega)]
          have := b3 (j - c) (by omega)
          rw [show j + 1 - c = j - c + 1 by omega]
          omega
        · rw [if_neg k3]
          by_cases k4 : j < c + m
          · rw [if_pos k4]
            have e : j + 1 - m = c := by omega
            rw [e]
            have := c5 (by omega)
            have := h.pos (show c < n by omega) (by omega)
            omega
          · rw [if_neg k4]
            have := h.2.2 (j - m) (by omega)
            rw [show j - m + 1 = j + 1 - m by omega] at this
            exact this
theorem put_par_lo (hc : cOk d n g c) {q : Nat} (hq : q < c) : nPar (putD d g c m b) q = nPar d q := by
  have e : ∀ j, j ≤ q → putD d g c m b j = d j := fun j hj => if_pos (by omega)
  cases z : nPar d q with
  | none =>
    cases w : nPar (putD d g c m b) q with
    | none => rfl
    | some p =>
      obtain ⟨k1, k2, k3⟩ := nPar_some w
      rw [e p (by omega), e q (by omega)] at k2
      have := nP_none z p k1
      omega
  | some p =>
    obtain ⟨k1, k2, k3⟩ := nPar_some z
    refine nPar_uniq k1 (by rw [e p (by omega), e q (by omega)]; exact k2) (fun j j1 j2 => ?_)
    rw [e j (by omega), e q (by omega)]
    exact k3 j j1 j2
theorem put_par_0 (hb : bOk b m) (hc : cOk d n g c) : nPar (putD d g c m b) c = some g := by
  obtain ⟨c1, c2, c3, c4, c5⟩ := hc
  have e0 : putD d g c m b c = d g + 1 := by
    unfold putD
    rw [if_neg (by omega), if_pos (by have := hb.1; omega), Nat.sub_self, hb.2.1]
  have e : ∀ j, j < c → putD d g c m b j = d j := fun j hj => if_pos hj
  refine nPar_uniq c2 (by rw [e g c2, e0]; omega) (fun j j1 j2 => ?_)
  rw [e j j2, e0]
  exact c4 j j1 j2
theorem put_par_r (hb : bOk b m) (hc : cOk d n g c) {r p : Nat} (hr : r < m) (hp : nPar b r = some p) : nPar (putD d g c m b) (c + r) = some (c + p) := by
  obtain ⟨k1, k2, k3⟩ := nPar_some hp
  have e : ∀ j, j < m → putD d g c m b (c + j) = d g + 1 + b j := fun j hj => by
    unfold putD
    rw [if_neg (by omega), if_pos (by omega), Nat.add_sub_cancel_left]
  refine nPar_uniq (by omega) (by rw [e r hr, e p (by omega)]; omega) (fun j j1 j2 => ?_)
  obtain ⟨q, rfl⟩ : ∃ q, j = c + q := ⟨j - c, by omega⟩
  rw [e r hr, e q (by omega)]
  have := k3 q (by omega) (by omega)
  omega
theorem put_par_hi (hb : bOk b m) (hc : cOk d n g c) {q p : Nat} (hq : c ≤ q) (hqn : q < n) (hp : nPar d q = some p) : nPar (putD d g c m b) (q + m) = some (if p < c then p else p + m) := by
  obtain ⟨c1, c2, c3, c4, c5⟩ := hc
  obtain ⟨k1, k2, k3⟩ := nPar_some hp
  have e : ∀ j, c ≤ j → putD d g c m b (j + m) = d j := fun j hj => by
    unfold putD
    rw [if_neg (by omega), if_neg (by omega), Nat.add_sub_cancel]
  by_cases z : p < c
  · rw [if_pos z]
    refine nPar_uniq (by omega) ?_ (fun j j1 j2 => ?_)
    · rw [e q hq, show putD d g c m b p = d p from if_pos z]
      exact k2
    · rw [e q hq]
      unfold putD
      by_cases w : j < c
      · rw [if_pos w]
        exact k3 j j1 (by omega)
      · rw [if_neg w]
        by_cases w2 : j < c + m
        · rw [if_pos w2]
          have f1 := c5 (by omega)
          have f2 : d q ≤ d c := by
            rcases Nat.lt_or_ge c q with y | y
            · exact k3 c z y
            · have : q = c := by omega
              rw [this]
              exact Nat.le_refl _
          omega
        · rw [if_neg w2]
          exact k3 (j - m) (by omega) (by omega)
  · rw [if_neg z]
    refine nPar_uniq (by omega) ?_ (fun j j1 j2 => ?_)
    · rw [e q hq, e p (by omega)]
      exact k2
    · rw [e q hq, show putD d g c m b j = d (j - m) by
        unfold putD
        rw [if_neg (by omega), if_neg (by omega)]]
      exact k3 (j - m) (by omega) (by omega)
end PUT
section CUTPAR
variable {d : Nat → Nat} {n i m : Nat}
/-- parents in a cut tree -/
theorem cut_par (h : dOk d n) (hi : i < n) (h0 : 0 < i) (hm : nEnd d n i = i + m) {q p : Nat} (hq : q < n - m) (hp : nPar d (phI i m q) = some p) : (p < i ∨ i + m ≤ p) ∧ nPar (cutD d i m) q = some (psI i m p) := by
  obtain ⟨a1, a2, a3, a4⟩ := nEnd_spec (d := d) hi
  obtain ⟨k1, k2, k3⟩ := nPar_some hp
  rw [hm] at a1 a2 a3 a4
  have hpi : p < i ∨ i + m ≤ p := by
    rcases Nat.lt_or_ge p i with w | w
    · exact Or.inl w
    · rcases Nat.lt_or_ge p (i + m) with w2 | w2
      · exfalso
        unfold phI at hp k1 k2 k3
        split at k1
        · omega
        · rename_i y
          rw [if_neg y] at k2 k3
          have f := a4 (by omega)
          have f1 : d i ≤ d p := by
            rcases Nat.lt_or_ge i p with u | u
            · have := a3 p u w2; omega
            · have : p = i := by omega
              rw [this]; exact Nat.le_refl _
          rcases Nat.lt_or_ge (i + m) (q + m) with u | u
          · have := k3 (i + m) w2 u
            omega
          · have : q = i := by omega
            rw [this] at k2
            omega
      · exact Or.inr w2
  have ec : ∀ j, j < n - m → cutD d i m j = d (phI i m j) := by
    intro j hj
    unfold cutD phI
    by_cases w : j < i
    · rw [if_pos w, if_pos w]
    · rw [if_neg w, if_neg w]
  have e2 : phI i m (psI i m p) = p := phI_psI hpi
  have lt : psI i m p < q := by
    unfold phI at k1
    unfold psI
    split at k1 <;> split <;> omega
  refine ⟨hpi, nPar_uniq lt ?_ (fun j j1 j2 => ?_)⟩
  · rw [ec _ (by omega), ec _ hq, e2]
    exact k2
  · rw [ec q hq, ec j (by omega)]
    refine k3 _ ?_ ?_
    · unfold psI at j1
      unfold phI
      split at j1 <;> split <;> omega
    · unfold phI
      split <;> split <;> omega
theorem blk_ok (h : dOk d n) (hi : i < n) (hm : nEnd d n i = i + m) : bOk (fun r => d (i + r) - d i) m := by
  obtain ⟨a1, a2, a3, a4⟩ := nEnd_spec (d := d) hi
  rw [hm] at a1 a2 a3 a4
  refine ⟨by omega, Nat.sub_self _, fun r hr => ?_⟩
  have e1 := a3 (i + (r + 1)) (by omega) (by omega)
  have e2 := h.2.2 (i + r) (by omega)
  have e3 : d i ≤ d (i + r) := by
    cases r with
    | zero => exact Nat.le_refl _
    | succ r => have := a3 (i + (r + 1)) (by omega) (by omega); omega
  rw [show i + r + 1 = i + (r + 1) by omega] at e2
  show 1 ≤ d (i + (r + 1)) - d i ∧ d (i + (r + 1)) - d i ≤ d (i + r) - d i + 1
  omega
theorem blk_par (h : dOk d n) (hi : i < n) (hm : nEnd d n i = i + m) {r p : Nat} (hr : r < m) (h0 : 0 < r) (hp : nPar d (i + r) = some p) : ∃ q, p = i + q ∧ nPar (fun r => d (i + r) - d i) r = some q := by
  obtain ⟨a1, a2, a3, a4⟩ := nEnd_spec (d := d) hi
  obtain ⟨k1, k2, k3⟩ := nPar_some hp
  rw [hm] at a1 a2 a3 a4
  have hpi : i ≤ p := by
    rcases Nat.lt_or_ge p i with w | w
    · have := k3 i w (by omega)
      have := a3 (i + r) (by omega) (by omega)
      omega
    · exact w
  have ge : ∀ j, j < m → d i ≤ d (i + j) := by
    intro j hj
    cases j with
    | zero => exact Nat.le_refl _
    | succ j => have := a3 (i + (j + 1)) (by omega) (by omega); omega
  refine ⟨p - i, by omega, nPar_uniq (by omega) ?_ (fun j j1 j2 => ?_)⟩
  · show d (i + (p - i)) - d i < d (i + r) - d i
    rw [show i + (p - i) = p by omega]
    have := ge (p - i) (by omega)
    rw [show i + (p - i) = p by omega] at this
    omega
  · show d (i + r) - d i ≤ d (i + j) - d i
    have := k3 (i + j) (by omega) (by omega)
    omega
end CUTPAR

/-! what the edits do to a tree, told by where each node comes from -/
/-- MOVE: from where the q-th node comes -/
def nuM (i m c q : Nat) : Nat := if q < c then phI i m q else if q < c + m then i + (q - c) else phI i m (q - m)
section EFF
variable {d : Nat → Nat} {n i g m c pl : Nat} {K C D F : Nat → Int32} {w : Int32}
theorem nuM_lt (him : i + m ≤ n) (hc : c ≤ n - m) {q : Nat} (hq : q < n) : nuM i m c q < n := by
  unfold nuM phI
  split
  · split <;> omega
  · split
    · omega
    · split <;> omega
theorem nuM_inj {q r : Nat} (h : nuM i m c q = nuM i m c r) : q = r := by
  unfold nuM phI at h
  split at h
  · split at h
    · split at h
      · split at h <;> omega
      · split at h
        · omega
        · split at h <;> omega
    · split at h
      · split at h <;> omega
      · split at h
        · omega
        · split at h <;> omega
  · split at h
    · split at h
      · split at h <;> omega
      · split at h
        · omega
        · split at h <;> omega
    · split at h
      · split at h
        · split at h <;> omega
        · split at h
          · omega
          · split at h <;> omega
      · split at h
        · split at h <;> omega
        · split at h
          · omega
          · split at h <;> omega
theorem nuM_0 (h0 : 0 < i) (hc : 0 < c) : nuM i m c 0 = 0 := by
  unfold nuM phI
  rw [if_pos hc, if_pos h0]
theorem nuM_onto (him : i + m ≤ n) (hc : c ≤ n - m) {j : Nat} (hj : j < n) : ∃ q, q < n ∧ nuM i m c q = j := by
  by_cases h1 : j < i
  · by_cases h2 : j < c
    · refine ⟨j, hj, ?_⟩
      unfold nuM phI
      rw [if_pos h2, if_pos h1]
    · refine ⟨j + m, by omega, ?_⟩
      unfold nuM phI
      rw [if_neg (by omega), if_neg (by omega), Nat.add_sub_cancel, if_pos h1]
  · by_cases h2 : j < i + m
    · refine ⟨c + (j - i), by omega, ?_⟩
      unfold nuM phI
      rw [if_neg (by omega), if_pos (by omega)]
      omega
    · by_cases h3 : j - m < c
      · refine ⟨j - m, by omega, ?_⟩
        unfold nuM phI
        rw [if_pos h3, if_neg (by omega)]
        omega
      · refine ⟨j, hj, ?_⟩
        unfold nuM phI
        rw [if_neg (by omega), if_neg (by omega), if_neg (by omega)]
        omega
/-- the reference's way -/
theorem nuM_ref (him : i + m ≤ n) (hc : c ≤ n - m) {q : Nat} (hq : q < n) : tPt (tUp (tSh K i m (n - m)) m (n - m) c) (tCp C K i m) c m q = K (nuM i m c q) := by
  unfold tPt tUp tSh tCp nuM phI
  by_cases h1 : q < c
  · rw [if_neg (show ¬ (c ≤ q ∧ q < c + m) by omega), if_pos h1, if_neg (show ¬ (c + m ≤ q ∧ q < n - m + m) by omega)]
    by_cases h2 : q < i
    · rw [if_pos h2, if_neg (by omega)]
    · rw [if_neg h2, if_pos (by omega)]
  · rw [if_neg h1]
    by_cases h2 : q < c + m
    · rw [if_pos h2, if_pos (show c ≤ q ∧ q < c + m by omega), if_pos (show q - c < m by omega)]
    · rw [if_neg h2, if_neg (show ¬ (c ≤ q ∧ q < c + m) by omega), if_pos (show c + m ≤ q ∧ q < n - m + m by omega)]
      by_cases h3 : q - m < i
      · rw [if_pos h3, if_neg (by omega)]
      · rw [if_neg h3, if_pos (by omega)]
theorem nuM_refD (him : i + m ≤ n) (hc : c ≤ n - m) {q : Nat} (hq : q < n) : tPt (tUp (tSh D i m (n - m)) m (n - m) c) (fun r => tCpD F D i m r + w) c m q = if c ≤ q ∧ q < c + m then D (nuM i m c q) - D i + w else D (nuM i m c q) := by
  unfold tPt tUp tSh tCpD nuM phI
  by_cases h1 : q < c
  · rw [if_neg (show ¬ (c ≤ q ∧ q < c + m) by omega), if_neg (show ¬ (c ≤ q ∧ q < c + m) by omega), if_pos h1, if_neg (show ¬ (c + m ≤ q ∧ q < n - m + m) by omega)]
    by_cases h2 : q < i
    · rw [if_pos h2, if_neg (by omega)]
    · rw [if_neg h2, if_pos (by omega)]
  · rw [if_neg h1]
    by_cases h2 : q < c + m
    · rw [if_pos h2, if_pos (show c ≤ q ∧ q < c + m by omega), if_pos (show c ≤ q ∧ q < c + m by omega)]
      dsimp only
      rw [if_pos (show q - c < m by omega)]
    · rw [if_neg h2, if_neg (show ¬ (c ≤ q ∧ q < c + m) by omega), if_neg (show ¬ (c ≤ q ∧ q < c + m) by omega), if_pos (show c + m ≤ q ∧ q < n - m + m by omega)]
      by_cases h3 : q - m < i
      · rw [if_pos h3, if_neg (by omega)]
      · rw [if_neg h3, if_pos (by omega)]
/-- the class's way -/
theorem nuM_cls {s : Nat} (hm : 0 < m) (him : i + m ≤ n) (hs : s ≤ i ∨ i + m ≤ s) (hsn : s ≤ n) {q : Nat} (hq : q < n) : tCarry K s i (i + m) q = K (nuM i m (psI i m s) q) := by
  unfold tCarry
  by_cases h1 : s < i
  · rw [if_pos h1, show psI i m s = s from if_pos (by omega)]
    unfold tMv nuM phI
    by_cases c1 : q < s
    · rw [if_neg (by omega), if_neg (by omega), if_pos c1, if_pos (by omega)]
    · rw [if_neg c1]
      by_cases c2 : q < s + m
      · rw [if_pos (by omega), if_pos c2]
        congr 1
        omega
      · rw [if_neg (by omega), if_neg c2]
        by_cases c3 : q < i + m
        · rw [if_pos (by omega), if_pos (by omega)]
          congr 1
          omega
        · rw [if_neg (by omega), if_neg (by omega)]
          congr 1
          omega
  · rw [if_neg h1]
    by_cases h2 : i + m < s
    · rw [if_pos h2, show psI i m s = s - m from if_neg (by omega)]
      unfold tMv nuM phI
      by_cases c1 : q < s - m
      · rw [if_pos c1]
        by_cases c2 : q < i
        · rw [if_neg (by omega), if_neg (by omega), if_pos c2]
        · rw [if_pos (by omega), if_neg c2]
          congr 1
          omega
      · rw [if_neg c1, if_neg (by omega)]
        by_cases c2 : q < s - m + m
        · rw [if_pos (by omega), if_pos c2]
          congr 1
          omega
        · rw [if_neg (by omega), if_neg c2, if_neg (by omega)]
          congr 1
          omega
    · rw [if_neg h2]
      have e : psI i m s = i := by
        unfold psI
        split <;> omega
      rw [e]
      unfold nuM phI
      by_cases c1 : q < i
      · rw [if_pos c1, if_pos c1]
      · rw [if_neg c1]
        by_cases c2 : q < i + m
        · rw [if_pos c2]
          congr 1
          omega
        · rw [if_neg c2, if_neg (by omega)]
          congr 1
          omega
theorem nuM_blk (him : i + m ≤ n) (hc : c ≤ n - m) {q : Nat} : (i ≤ nuM i m c q ∧ nuM i m c q < i + m) ↔ (c ≤ q ∧ q < c + m) := by
  unfold nuM phI
  constructor
  · intro h
    split at h
    · split at h <;> omega
    · split at h
      · omega
      · split at h <;> omega
  · intro h
    rw [if_neg (by omega), if_pos (by omega)]
    omega
/-- the new depths, and the new parents -/
def dMv (d : Nat → Nat) (i m g c : Nat) : Nat → Nat := putD (cutD d i m) (psI i m g) c m (fun r => d (i + r) - d i)
theorem mv_facts (h : dOk d n) (hi : i < n) (h0 : 0 < i) (hm : nEnd d n i = i + m) (hg : g < n) (hgi : g < i ∨ i + m ≤ g) (hc : cOk (cutD d i m) (n - m) (psI i m g) c) : dOk (dMv d i m g c) n ∧ (∀ q, q < n → dMv d i m g c q = if c ≤ q ∧ q < c + m then d (nuM i m c q) - d i + (d g + 1) else d (nuM i m c q)) ∧ ∀ q, q < n → 0 < q → ∃ p, nPar (dMv d i m g c) q = some p ∧ p < q ∧ (nuM i m c q = i → nuM i m c p = g) ∧ (nuM i m c q ≠ i → nPar d (nuM i m c q) = some (nuM i m c p)) := by
  obtain ⟨a1, a2, a3, a4⟩ := nEnd_spec (d := d) hi
  rw [hm] at a1 a2 a3 a4
  obtain ⟨c1, c2, c3, c4, c5⟩ := id hc
  have hb := blk_ok h hi hm
  have hcut := cut_ok h hi h0 hm
  have gg := (cut_end h hi h0 hm hg hgi rfl (fun z => by unfold psI at z ⊢; split at z <;> (split <;> omega))).2.2.2
  refine ⟨?_, fun q hq => ?_, fun q hq hq0 => ?_⟩
  · have := put_ok hcut hb hc
    rw [show n - m + m = n by omega] at this
    exact this
  · unfold dMv putD nuM phI
    by_cases k1 : q < c
    · rw [if_pos k1, if_neg (by omega), if_pos k1]
      unfold cutD
      split <;> rfl
    · rw [if_neg k1]
      by_cases k2 : q < c + m
      · rw [if_pos k2, if_pos (show c ≤ q ∧ q < c + m by omega), gg, if_neg k1, if_pos k2]
        exact Nat.add_comm _ _
      · rw [if_neg k2, if_neg (show ¬ (c ≤ q ∧ q < c + m) by omega), if_neg k1, if_neg k2]
        unfold cutD
        split <;> rfl
  · have nuLo : ∀ p, p < c → nuM i m c p = phI i m p := fun p hp => if_pos hp
    have phps : ∀ p, (p < i ∨ i + m ≤ p) → phI i m (psI i m p) = p := fun p hp => phI_psI hp
    have phn : ∀ q, phI i m q ≠ i := by
      intro q
      unfold phI
      split <;> omega
    by_cases k1 : q < c
    · obtain ⟨p, e1, e2, -, -⟩ := h.par (show phI i m q < n by unfold phI; split <;> omega) (show 0 < phI i m q by unfold phI; split <;> omega)
      obtain ⟨f1, f2⟩ := cut_par h hi h0 hm (show q < n - m by omega) e1
      have f3 := (nPar_some f2).1
      refine ⟨psI i m p, ?_, f3, fun z => ?_, fun z => ?_⟩
      · unfold dMv
        rw [put_par_lo hc k1]
        exact f2
      · rw [nuLo q k1] at z
        exact absurd z (phn q)
      · rw [nuLo q k1, nuLo _ (by omega), phps p f1]
        exact e1
    · by_cases k2 : q < c + m
      · obtain ⟨r, rfl⟩ : ∃ r, q = c + r := ⟨q - c, by omega⟩
        have eq : nuM i m c (c + r) = i + r := by
          unfold nuM
          rw [if_neg k1, if_pos k2, Nat.add_sub_cancel_left]
        by_cases r0 : r = 0
        · subst r0
          refine ⟨psI i m g, put_par_0 hb hc, by omega, fun _ => ?_, fun z => absurd eq z⟩
          rw [nuLo _ c2, phps g hgi]
        · obtain ⟨p, e1, e2, -, -⟩ := h.par (show i + r < n by omega) (by omega)
          obtain ⟨q', e3, e4⟩ := blk_par h hi hm (show r < m by omega) (by omega) e1
          refine ⟨c + q', put_par_r hb hc (by omega) e4, by omega, fun z => by omega, fun _ => ?_⟩
          rw [eq, e1, e3]
          unfold nuM
          rw [if_neg (by omega), if_pos (by omega), Nat.add_sub_cancel_left]
      · obtain ⟨r, rfl⟩ : ∃ r, q = r + m := ⟨q - m, by omega⟩
        have eq : nuM i m c (r + m) = phI i m r := by
          unfold nuM
          rw [if_neg k1, if_neg k2, Nat.add_sub_cancel]
        obtain ⟨p, e1, e2, -, -⟩ := h.par (show phI i m r < n by unfold phI; split <;> omega) (show 0 < phI i m r by unfold phI; split <;> omega)
        obtain ⟨f1, f2⟩ := cut_par h hi h0 hm (show r < n - m by omega) e1
        have f3 := (nPar_some f2).1
        have f4 := put_par_hi hb hc (show c ≤ r by omega) (by omega) f2
        refine ⟨_, f4, ?_, fun z => ?_, fun z => ?_⟩
        · split <;> omega
        · rw [eq] at z
          exact absurd z (phn r)
        · rw [eq, e1]
          by_cases y : psI i m p < c
          · rw [if_pos y, nuLo _ y, phps p f1]
          · rw [if_neg y]
            unfold nuM
            rw [if_neg (by omega), if_neg (by omega), Nat.add_sub_cancel, phps p f1]
/-- GIVE -/
theorem gv_facts (h : dOk d n) (hc : cOk d n g c) : dOk (putD d g c 1 (fun _ => 0)) (n + 1) ∧ nPar (putD d g c 1 (fun _ => 0)) c = some g ∧ (∀ q, q < n → 0 < q → ∃ p, nPar d q = some p ∧ nPar (putD d g c 1 (fun _ => 0)) (phI c 1 q) = some (phI c 1 p)) := by
  have hb : bOk (fun _ => 0) 1 := ⟨by omega, rfl, fun r hr => by omega⟩
  refine ⟨put_ok h hb hc, put_par_0 hb hc, fun q hq h0 => ?_⟩
  obtain ⟨p, e1, e2, -, -⟩ := h.par hq h0
  refine ⟨p, e1, ?_⟩
  unfold phI
  by_cases k : q < c
  · rw [if_pos k, if_pos (by omega), put_par_lo hc k]
    exact e1
  · rw [if_neg k]
    exact put_par_hi hb hc (by omega) hq e1
/-- TAKE -/
theorem tk_facts (h : dOk d n) (hi : i < n) (h0 : 0 < i) (hm : nEnd d n i = i + 1) : dOk (cutD d i 1) (n - 1) ∧ ∀ q, q < n - 1 → 0 < q → ∃ p, nPar (cutD d i 1) q = some p ∧ p < q ∧ nPar d (phI i 1 q) = some (phI i 1 p) := by
  refine ⟨cut_ok h hi h0 hm, fun q hq hq0 => ?_⟩
  obtain ⟨p, e1, e2, -, -⟩ := h.par (show phI i 1 q < n by unfold phI; split <;> omega) (show 0 < phI i 1 q by unfold phI; split <;> omega)
  obtain ⟨f1, f2⟩ := cut_par h hi h0 hm hq e1
  refine ⟨_, f2, (nPar_some f2).1, ?_⟩
  rw [e1, phI_psI f1]
theorem nAt_cOk (h : dOk d n) (hg : g < n) {P : Nat → Bool} (hP : ∀ j, P j = true → d j = d g + 1) (hc : nAt P (g + 1) (nEnd d n g) pl c) : cOk d n g c := by
  obtain ⟨a1, a2, a3, a4⟩ := nEnd_spec (d := d) hg
  obtain ⟨b1, b2, b3, b4⟩ := hc
  refine ⟨hg, by omega, by omega, fun j j1 j2 => a3 j j1 (by omega), fun k => ?_⟩
  by_cases z : c < nEnd d n g
  · rw [hP c (b3 z)]
    exact Nat.le_refl _
  · have : c = nEnd d n g := by omega
    rw [this] at k ⊢
    have := a4 k
    omega
theorem leaf_end (h : dOk d n) (hi : i < n) : nKids d n i = 0 ↔ nEnd d n i = i + 1 := by
  obtain ⟨a1, a2, a3, a4⟩ := nEnd_spec (d := d) hi
  rw [nKids_ct]
  constructor
  · intro k
    rcases Nat.lt_or_ge (i + 1) (nEnd d n i) with w | w
    · exfalso
      have b := a3 (i + 1) (by omega) w
      have c := h.2.2 i (by omega)
      obtain ⟨z, hz⟩ : ∃ z, nEnd d n i - (i + 1) = z + 1 := ⟨nEnd d n i - (i + 1) - 1, by omega⟩
      rw [hz] at k
      have k : (if nKc d i (i + 1) = true then 1 else 0) + nCt (nKc d i) (i + 1 + 1) z = 0 := k
      rw [show nKc d i (i + 1) = true from decide_eq_true (by omega), if_pos rfl] at k
      omega
    · omega
  · intro k
    rw [k, Nat.sub_self]
    rfl
theorem pig : ∀ (M n : Nat) (f : Nat → Nat), (∀ i, i < n → f i < M) → (∀ i j, i < j → j < n → f i ≠ f j) → n ≤ M := by
  intro M
  induction M with
  | zero =>
    intro n f h1 h2
    cases n with
    | zero => exact Nat.le_refl _
    | succ n => exact absurd (h1 0 (by omega)) (by omega)
  | succ M ih =>
    intro n f h1 h2
    by_cases c : ∃ i, i < n ∧ f i = M
    · obtain ⟨i0, e1, e2⟩ := c
      have := ih (n - 1) (fun i => if i < i0 then f i else f (i + 1)) (fun i hi => ?_) (fun i j hij hj => ?_)
      · omega
      · have q : ∀ k, k < n → k ≠ i0 → f k < M := by
          intro k hk hk0
          have := h1 k hk
          have : f k ≠ M := by
            intro z
            rcases Nat.lt_or_gt_of_ne hk0 with w | w
            · exact h2 k i0 w e1 (by rw [z, e2])
            · exact h2 i0 k w hk (by rw [z, e2])
          omega
        show (if i < i0 then f i else f (i + 1)) < M
        split
        · exact q i (by omega) (by omega)
        · exact q (i + 1) (by omega) (by omega)
      · show (if i < i0 then f i else f (i + 1)) ≠ (if j < i0 then f j else f (j + 1))
        split
        · split
          · exact h2 i j hij (by omega)
          · exact h2 i (j + 1) (by omega) (by omega)
        · split
          · exact h2 (i + 1) j (by omega) (by omega)
          · exact h2 (i + 1) (j + 1) (by omega) (by omega)
    · have := ih n f (fun i hi => ?_) h2
      · omega
      · have := h1 i hi
        have : f i ≠ M := fun z => c ⟨i, hi, z⟩
        omega
end EFF

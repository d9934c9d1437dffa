/-! places among siblings; the edits of a difference FIT -/
section SIBS
variable {d : Nat → Nat} {n i g a m c pl : Nat} {K B D : Nat → Int32} {T U V : tT} {e : Nat → Int32} {k : Int32}
theorem kids_none (h : dOk d n) (hi : i < n) (hk : ∀ j, j < n → nPar d j ≠ some i) : nKids d n i = 0 := by
  rw [leaf_end h hi]
  obtain ⟨a1, a2, a3, a4⟩ := nEnd_spec (d := d) hi
  rcases Nat.lt_or_ge (i + 1) (nEnd d n i) with w | w
  · exact absurd (nPar_uniq (Nat.lt_succ_self i) (a3 (i + 1) (by omega) w) (fun q q1 q2 => by omega)) (hk (i + 1) (by omega))
  · omega
theorem par_in (hi : i < n) (hg : nPar d i = some g) : i < nEnd d n g := by
  obtain ⟨k1, k2, k3⟩ := nPar_some hg
  obtain ⟨a1, a2, a3, a4⟩ := nEnd_spec (d := d) (show g < n by omega)
  rcases Nat.lt_or_ge i (nEnd d n g) with w | w
  · exact w
  · have e1 := a4 (by omega)
    rcases Nat.lt_or_ge (nEnd d n g) i with w2 | w2
    · have := k3 _ a1 w2
      omega
    · have : nEnd d n g = i := by omega
      rw [this] at e1
      omega
theorem par_of (h : dOk d n) (hg : g < n) (h1 : g < i) (h2 : i < nEnd d n g) (h3 : d i = d g + 1) : nPar d i = some g := by
  obtain ⟨a1, a2, a3, a4⟩ := nEnd_spec (d := d) hg
  refine nPar_uniq h1 (by omega) (fun q q1 q2 => ?_)
  have := a3 q q1 (by omega)
  omega
theorem nL_ct {x : Nat} : ∀ j c, g < j → d g < x → (∀ q, g < q → q < j → x ≤ d q) → nL d x j c = c + nCt (fun q => decide (d q = x)) (g + 1) (j - (g + 1)) := by
  intro j
  induction j with
  | zero => intro c h1 h2 h3; omega
  | succ j ih =>
    intro c h1 h2 h3
    unfold nL
    by_cases z : j = g
    · subst z
      rw [if_pos h2, Nat.sub_self]
      rfl
    · have hj : g < j := by omega
      rw [if_neg (by have := h3 j hj (by omega); omega), ih _ hj h2 (fun q q1 q2 => h3 q q1 (by omega)), show j + 1 - (g + 1) = (j - (g + 1)) + 1 by omega, nCt_add, show g + 1 + (j - (g + 1)) = j by omega]
      show _ = c + (_ + ((if decide (d j = x) = true then 1 else 0) + 0))
      by_cases w : d j = x
      · rw [if_pos w, if_pos (decide_eq_true w)]
        omega
      · rw [if_neg w, if_neg (by rw [decide_eq_false w]; exact Bool.false_ne_true)]
        omega
theorem nPlace_ct (h : dOk d n) (hi : i < n) (hg : nPar d i = some g) : nPlace d i = nCt (nKc d g) (g + 1) (i - (g + 1)) := by
  obtain ⟨k1, k2, k3⟩ := nPar_some hg
  obtain ⟨p, e1, e2, e3, -⟩ := h.par hi (by omega)
  rw [hg] at e1
  cases e1
  unfold nPlace
  rw [nL_ct i 0 k1 k2 k3, Nat.zero_add]
  unfold nKc
  rw [e3]
theorem kc_one (h : dOk d n) (hi : i < n) (hg : nPar d i = some g) : nKc d g i = true := by
  obtain ⟨p, e1, e2, e3, -⟩ := h.par hi (by have := (nPar_some hg).1; omega)
  rw [hg] at e1
  cases e1
  exact decide_eq_true e3
/-- what is ahead, and what one more makes -/
theorem ct_split {P : Nat → Bool} {s t u : Nat} (h1 : s ≤ t) (h2 : t < u) (hP : P t = true) : nCt P s (u - s) = nCt P s (t - s) + 1 + nCt P (t + 1) (u - (t + 1)) := by
  rw [show u - s = (t - s) + (1 + (u - (t + 1))) by omega, nCt_add, nCt_add, show s + (t - s) = t by omega]
  show _ + ((if P t = true then 1 else 0) + 0 + _) = _
  rw [if_pos hP]
  omega
theorem sib_lt (h : dOk d n) (ha : a < n) (hi : i < n) (hgi : nPar d i = some g) (hga : nPar d a = some g) (hia : i < a) : nPlace d i < nPlace d a := by
  have k1 := (nPar_some hgi).1
  rw [nPlace_ct h hi hgi, nPlace_ct h ha hga, ct_split (s := g + 1) (t := i) (u := a) (by omega) hia (kc_one h hi hgi)]
  omega
theorem sib_iff (h : dOk d n) (ha : a < n) (hi : i < n) (hgi : nPar d i = some g) (hga : nPar d a = some g) : nPlace d i < nPlace d a ↔ i < a := by
  constructor
  · intro z
    rcases Nat.lt_trichotomy i a with w | w | w
    · exact w
    · rw [w] at z
      exact absurd z (Nat.lt_irrefl _)
    · have := sib_lt h hi ha hga hgi w
      omega
  · exact sib_lt h ha hi hgi hga
theorem kids_ge (h : dOk d n) (ha : a < n) (hga : nPar d a = some g) : nPlace d a + 1 ≤ nKids d n g := by
  have k1 := (nPar_some hga).1
  rw [nPlace_ct h ha hga, nKids_ct, ct_split (s := g + 1) (t := a) (u := nEnd d n g) (by omega) (par_in ha hga) (kc_one h ha hga)]
  omega
/-- behind a, without i: it is a place -/
theorem kids_wo_ge (h : dOk d n) (ha : a < n) (hi : i < n) (h0 : 0 < i) (hai : a ≠ i) (hga : nPar d a = some g) : nPlace d a + 1 - (if i < a ∧ nPar d i = some g then 1 else 0) ≤ nCt (nK d (d g + 1) i) (g + 1) (nEnd d n g - (g + 1)) := by
  have hg : g < n := by have := (nPar_some hga).1; omega
  have hk := kids_wo h hi h0 hg
  have hl := kids_ge h ha hga
  by_cases c : nPar d i = some g
  · rw [if_pos c] at hk
    by_cases z : i < a
    · rw [if_pos ⟨z, c⟩]
      omega
    · rw [if_neg (fun w => z w.1)]
      have := sib_lt h hi ha hga c (by omega)
      have := kids_ge h hi c
      omega
  · rw [if_neg c] at hk
    rw [if_neg (fun w => c w.2)]
    omega
theorem nPlace_le (hi : i < n) : nPlace d i ≤ i := by
  have : ∀ j x c, nL d x j c ≤ c + j := by
    intro j
    induction j with
    | zero => intro x c; exact Nat.le_refl _
    | succ j ih =>
      intro x c
      unfold nL
      split
      · omega
      · split
        · have := ih x (c + 1)
          omega
        · have := ih x c
          omega
  have := this i (d i) 0
  unfold nPlace
  omega
/-- the place of a given: behind a, or 0 -/
def bAt (D : Nat → Int32) : Option Nat → Nat
  | none => 0
  | some a => tPlace D a + 1
/-- one less, if the node comes from among the siblings ahead -/
def bLs (D : Nat → Int32) (i : Nat) (og : Option Nat) : Option Nat → Nat
  | none => 0
  | some a => if i < a ∧ tPar D i = og then 1 else 0
theorem brG_fits (hT : tOk (n, K, B, D)) (hn : n < 80) (c2 : e 0 = 2) (hk : tWhere K n (e 1) = none) (hg : tWhere K n (e 3) = some g) {o : Option Nat} (ho : ∀ a, o = some a → a < n ∧ tPar D a = some g) (h4 : e 4 = nI (bAt D o)) : fitT e (n, K, B, D) = true := by
  obtain ⟨hK, d, hd, h⟩ := hT
  dsimp only at hK hd h
  have h60 := hK.le
  have c0 : e 0 ≠ 0 := by rw [c2]; decide
  have c1 : e 0 ≠ 1 := by rw [c2]; decide
  have u : fitT e (n, K, B, D) = eFitG e n K D (tWhere K n (e 1)) (tWhere K n (e 3)) := (if_neg c0).trans ((if_neg c1).trans (if_pos c2))
  rw [u, hk, hg]
  have hgn := (tWhere_lt hg).1
  have hkl := tKids_le (D := D) (n := n) (i := g)
  have hb : bAt D o ≤ tKids D n g := by
    cases o with
    | none => exact Nat.zero_le _
    | some a =>
      obtain ⟨a1, a2⟩ := ho a rfl
      rw [nPar_of hd a1] at a2
      have := kids_ge h a1 a2
      show tPlace D a + 1 ≤ tKids D n g
      rw [nPlace_of hd a1, nKids_of hd hgn]
      exact this
  refine decide_eq_true ⟨rfl, ?_, ?_, hn⟩
  · rw [h4]
    exact nI_pos (by omega)
  · rw [h4]
    exact nI_nlt hb (by omega)
theorem brM_fits (hT : tOk (n, K, B, D)) (c3 : e 0 = 3) (hk : tWhere K n (e 1) = some i) (h0 : 0 < i) (hg : tWhere K n (e 5) = some g) (hgi : ¬ (i ≤ g ∧ g < tEnd D n i)) {o : Option Nat} (ho : ∀ a, o = some a → a < n ∧ a ≠ i ∧ tPar D a = some g) (h3 : e 3 = tPK K D i) (h4 : e 4 = nI (tPlace D i)) (h6 : e 6 = nI (bAt D o - bLs D i (some g) o)) : fitT e (n, K, B, D) = true := by
  obtain ⟨hK, d, hd, h⟩ := hT
  dsimp only at hK hd h
  have h60 := hK.le
  have c0 : e 0 ≠ 0 := by rw [c3]; decide
  have c1 : e 0 ≠ 1 := by rw [c3]; decide
  have c2 : e 0 ≠ 2 := by rw [c3]; decide
  have u : fitT e (n, K, B, D) = eFitM e n K D (tWhere K n (e 1)) (tWhere K n (e 5)) := (if_neg c0).trans ((if_neg c1).trans (if_neg c2))
  rw [u, hk, hg]
  have hgn := (tWhere_lt hg).1
  have hi := (tWhere_lt hk).1
  have hE := nEnd_spec (d := d) hgn
  have hb : bAt D o - bLs D i (some g) o ≤ nCt (nK d (d g + 1) i) (g + 1) (nEnd d n g - (g + 1)) := by
    cases o with
    | none => exact Nat.zero_le _
    | some a =>
      obtain ⟨a1, a2, a3⟩ := ho a rfl
      rw [nPar_of hd a1] at a3
      have := kids_wo_ge h a1 hi h0 a2 a3
      show tPlace D a + 1 - (if i < a ∧ tPar D i = some g then 1 else 0) ≤ _
      rw [nPlace_of hd a1, nPar_of hd hi]
      exact this
  have hw := nCt_le (P := nK d (d g + 1) i) (nEnd d n g - (g + 1)) (g + 1)
  refine decide_eq_true ⟨h3.symm, h4.symm, hgi, ?_, ?_⟩
  · rw [h6]
    exact nI_pos (by omega)
  · rw [h6, eLast_n h hd h60 hi h0 hgn]
    exact nI_nlt hb (by omega)
theorem tkT_fits (hT : tOk (n, K, B, D)) (c1 : e 0 = 1) (hk : tWhere K n (e 1) = some i) (hl : ∀ j, j < n → tPar D j ≠ some i) (h2 : e 2 = B i) (h3 : e 3 = tPK K D i) (h4 : e 4 = nI (tPlace D i)) : fitT e (n, K, B, D) = true := by
  obtain ⟨hK, d, hd, h⟩ := hT
  dsimp only at hK hd h
  have c0 : e 0 ≠ 0 := by rw [c1]; decide
  have u : fitT e (n, K, B, D) = eFitT e n K B D (tWhere K n (e 1)) := (if_neg c0).trans (if_pos c1)
  rw [u, hk]
  have hi := (tWhere_lt hk).1
  refine decide_eq_true ⟨?_, h2.symm, h3.symm, h4.symm⟩
  rw [nKids_of hd hi]
  refine kids_none h hi (fun j hj z => hl j hj ?_)
  rw [nPar_of hd hj]
  exact z
/-- a place below i: its parents lead to i -/
theorem below_chain (h : dOk d n) (hi : i < n) {P : Nat → Prop} (hP : ∀ q p, q < n → P q → nPar d q = some p → P p) (h0 : ¬ P i) : ∀ m q, q ≤ m → q < n → i ≤ q → q < nEnd d n i → ¬ P q := by
  obtain ⟨a1, a2, a3, a4⟩ := nEnd_spec (d := d) hi
  intro m
  induction m with
  | zero =>
    intro q h1 h2 h3 h4 hq
    obtain rfl : q = i := by omega
    exact h0 hq
  | succ m ih =>
    intro q h1 h2 h3 h4 hq
    by_cases z : q = i
    · rw [z] at hq
      exact h0 hq
    · obtain ⟨p, e1, e2, e3, e4⟩ := h.par h2 (by omega)
      have hp : i ≤ p := by
        rcases Nat.lt_or_ge p i with w | w
        · have := e4 i w (by omega)
          have := a3 q (by omega) h4
          omega
        · exact w
      exact ih p (by omega) (by omega) hp (by omega) (hP q p h2 hq e1)
end SIBS

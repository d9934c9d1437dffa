/-! tree: the reader, as a machine of its own -/
def dg (f : Nat → Int32) (L a : Nat) : Bool := decide (a < L ∧ 48 ≤ f a ∧ f a ≤ 57)
/-- a node with a key comes, or the fault -/
def rdK (f : Nat → Int32) (a d : Nat) (T : tT) (k : Int32) (a' : Nat) : Nat ⊕ (Nat × tT) := if 1 ≤ k ∧ k ≤ 60 ∧ tWhere T.2.1 T.1 k = none then .inr (a', T.1 + 1, upd T.2.1 T.1 k, upd T.2.2.1 T.1 (f a), upd T.2.2.2 T.1 (nI d)) else .inl (a + 1)
def rdN (f : Nat → Int32) (L a d : Nat) (T : tT) : Nat ⊕ (Nat × tT) := if a < L ∧ 97 ≤ f a ∧ f a ≤ 122 ∧ T.1 < 40 then (if dg f L (a + 1) = true then (if dg f L (a + 2) = true then rdK f a d T (10 * (f (a + 1) - 48) + f (a + 2) - 48) (a + 3) else rdK f a d T (f (a + 1) - 48) (a + 2)) else .inl (a + 1)) else .inl a
def rdE (L d st : Nat) (T : tT) : Option Nat × tT := if st ≠ 0 ∧ d = 0 then (none, T) else (some L, T)
def rdM (f : Nat → Int32) (L : Nat) : Nat → Nat → Nat → Nat → tT → Option Nat × tT
  | 0, _, d, st, T => rdE L d st T
  | k + 1, a, d, st, T => if a < L then (if st = 0 then (match rdN f L a d T with
      | .inl x => (some x, T)
      | .inr y => rdM f L k y.1 d 1 y.2) else (if f a = 40 ∧ st = 1 then rdM f L k (a + 1) (d + 1) 0 T else if f a = 44 ∧ 0 < d then rdM f L k (a + 1) d 0 T else if f a = 41 ∧ 0 < d then rdM f L k (a + 1) (d - 1) 2 T else (some a, T))) else rdE L d st T
abbrev rd (f : Nat → Int32) (L a d st : Nat) (T : tT) : Option Nat × tT := rdM f L (L - a) a d st T
section READER
variable {f : Nat → Int32} {L a d st k x : Nat} {T : tT} {ky : Int32} {y : Nat × tT}
theorem rdK_r (h : rdK f a d T ky x = .inr y) : y.1 = x ∧ y.2.1 = T.1 + 1 := by
  unfold rdK at h
  split at h
  · cases h
    exact ⟨rfl, rfl⟩
  · cases h
theorem rdN_r (h : rdN f L a d T = .inr y) : a + 2 ≤ y.1 ∧ y.1 ≤ L ∧ y.2.1 = T.1 + 1 ∧ T.1 < 40 ∧ a < L := by
  unfold rdN at h
  split at h
  · rename_i c
    split at h
    · rename_i c1
      have c1 := of_decide_eq_true c1
      split at h
      · rename_i c2
        have c2 := of_decide_eq_true c2
        have := rdK_r h
        exact ⟨by omega, by omega, this.2, c.2.2.2, c.1⟩
      · have := rdK_r h
        exact ⟨by omega, by omega, this.2, c.2.2.2, c.1⟩
    · cases h
  · cases h
theorem rdM_s : rdM f L (k + 1) a d st T = if a < L then (if st = 0 then (match rdN f L a d T with
      | .inl x => (some x, T)
      | .inr y => rdM f L k y.1 d 1 y.2) else (if f a = 40 ∧ st = 1 then rdM f L k (a + 1) (d + 1) 0 T else if f a = 44 ∧ 0 < d then rdM f L k (a + 1) d 0 T else if f a = 41 ∧ 0 < d then rdM f L k (a + 1) (d - 1) 2 T else (some a, T))) else rdE L d st T := rfl
theorem rdM_fuel : ∀ k k' a d st T, L - a ≤ k → L - a ≤ k' → rdM f L k a d st T = rdM f L k' a d st T := by
  intro k
  induction k with
  | zero =>
    intro k' a d st T h h'
    cases k' with
    | zero => rfl
    | succ k' => exact (if_neg (by omega)).symm
  | succ k ih =>
    intro k' a d st T h h'
    cases k' with
    | zero => exact if_neg (by omega)
    | succ k' =>
      rw [rdM_s, rdM_s]
      by_cases c : a < L
      · rw [if_pos c, if_pos c]
        by_cases c1 : st = 0
        · rw [if_pos c1, if_pos c1]
          cases e : rdN f L a d T with
          | inl x => rfl
          | inr y =>
            have := rdN_r e
            exact ih k' y.1 d 1 y.2 (by omega) (by omega)
        · rw [if_neg c1, if_neg c1]
          rw [ih k' (a + 1) (d + 1) 0 T (by omega) (by omega), ih k' (a + 1) d 0 T (by omega) (by omega), ih k' (a + 1) (d - 1) 2 T (by omega) (by omega)]
      · rw [if_neg c, if_neg c]
theorem rd_end (h : ¬ a < L) : rd f L a d st T = rdE L d st T := by
  show rdM f L (L - a) a d st T = _
  rw [show L - a = 0 by omega]
  rfl
theorem rd_s (h : a < L) : rd f L a d st T = if st = 0 then (match rdN f L a d T with
      | .inl x => (some x, T)
      | .inr y => rd f L y.1 d 1 y.2) else (if f a = 40 ∧ st = 1 then rd f L (a + 1) (d + 1) 0 T else if f a = 44 ∧ 0 < d then rd f L (a + 1) d 0 T else if f a = 41 ∧ 0 < d then rd f L (a + 1) (d - 1) 2 T else (some a, T)) := by
  have e : rd f L a d st T = rdM f L (L - (a + 1) + 1) a d st T := rdM_fuel _ _ a d st T (Nat.le_refl _) (by omega)
  rw [e]
  rw [rdM_s, if_pos h]
  by_cases c1 : st = 0
  · rw [if_pos c1, if_pos c1]
    cases e : rdN f L a d T with
    | inl x => rfl
    | inr y =>
      have := rdN_r e
      exact rdM_fuel _ _ y.1 d 1 y.2 (by omega) (Nat.le_refl _)
  · rw [if_neg c1, if_neg c1]
theorem rd_node (h : rdN f L a d T = .inr y) : rd f L a d 0 T = rd f L y.1 d 1 y.2 := by
  rw [rd_s (rdN_r h).2.2.2.2, if_pos rfl, h]
theorem rd_bad (h : rdN f L a d T = .inl x) (hL : a ≤ L) : rd f L a d 0 T = (some x, T) := by
  by_cases c : a < L
  · rw [rd_s c, if_pos rfl, h]
  · rw [rd_end c]
    unfold rdN at h
    rw [if_neg (fun z => c z.1)] at h
    cases h
    obtain rfl : a = L := by omega
    exact if_neg (fun z => z.1 rfl)
/-- behind a NODE without CHILDREN things stand as behind one with -/
theorem rd_12 (h : ¬ (a < L ∧ f a = 40)) : rd f L a d 1 T = rd f L a d 2 T := by
  by_cases c : a < L
  · rw [rd_s c, rd_s c, if_neg (show ¬ (1 : Nat) = 0 by decide), if_neg (show ¬ (f a = 40 ∧ (1 : Nat) = 1) from fun z => h ⟨c, z.1⟩), if_neg (show ¬ (2 : Nat) = 0 by decide), if_neg (show ¬ (f a = 40 ∧ (2 : Nat) = 1) from fun z => absurd z.2 (by decide))]
  · rw [rd_end c, rd_end c]
    unfold rdE
    by_cases c2 : d = 0
    · rw [if_pos ⟨by decide, c2⟩, if_pos ⟨by decide, c2⟩]
    · rw [if_neg (fun z => c2 z.2), if_neg (fun z => c2 z.2)]
theorem rd_open (h : a < L) (h1 : f a = 40) : rd f L a d 1 T = rd f L (a + 1) (d + 1) 0 T := by
  rw [rd_s h, if_neg (by decide), if_pos ⟨h1, rfl⟩]
theorem rd_comma (h : a < L) (h1 : f a = 44) (hd : 0 < d) : rd f L a d 2 T = rd f L (a + 1) d 0 T := by
  rw [rd_s h, if_neg (by decide), if_neg (fun z => absurd z.2 (by decide)), if_pos ⟨h1, hd⟩]
theorem rd_close (h : a < L) (h1 : f a = 41) (hd : 0 < d) : rd f L a d 2 T = rd f L (a + 1) (d - 1) 2 T := by
  rw [rd_s h, if_neg (by decide), if_neg (fun z => absurd z.2 (by decide)), if_neg (fun z => absurd (h1.symm.trans z.1) (by decide)), if_pos ⟨h1, hd⟩]
theorem rd_else (hL : a ≤ L) (h1 : ¬ (a < L ∧ f a = 44)) (h2 : ¬ (a < L ∧ f a = 41)) (hd : 0 < d) : rd f L a d 2 T = (some a, T) := by
  by_cases c : a < L
  · rw [rd_s c, if_neg (by decide), if_neg (fun z => absurd z.2 (by decide)), if_neg (fun z => h1 ⟨c, z.1⟩), if_neg (fun z => h2 ⟨c, z.1⟩)]
  · rw [rd_end c]
    obtain rfl : a = L := by omega
    exact if_neg (by omega)
/-- behind the root -/
theorem rd_root (hL : a ≤ L) : rd f L a 0 2 T = if a = L then (none, T) else (some a, T) := by
  by_cases c : a < L
  · rw [rd_s c, if_neg (by decide), if_neg (fun z => absurd z.2 (by decide)), if_neg (fun z => absurd z.2 (by decide)), if_neg (fun z => absurd z.2 (by decide)), if_neg (by omega)]
  · rw [rd_end c, if_pos (by omega)]
    exact if_pos ⟨by decide, rfl⟩
end READER

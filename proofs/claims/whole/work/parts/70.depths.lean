/-! depths as numbers: the same words over them, and what they mean -/
def nE (d : Nat → Nat) (x : Nat) : Nat → Nat → Nat
  | e, 0 => e
  | e, m + 1 => if x < d e then nE d x (e + 1) m else e
def nP (d : Nat → Nat) (x : Nat) : Nat → Option Nat
  | 0 => none
  | j + 1 => if d j < x then some j else nP d x j
def nC (d : Nat → Nat) (x : Nat) : Nat → Nat → Nat → Nat
  | _, 0, c => c
  | e, m + 1, c => if x < d e then nC d x (e + 1) m (if d e = x + 1 then c + 1 else c) else c
def nL (d : Nat → Nat) (x : Nat) : Nat → Nat → Nat
  | 0, c => c
  | j + 1, c => if d j < x then c else nL d x j (if d j = x then c + 1 else c)
def nEnd (d : Nat → Nat) (n i : Nat) : Nat := nE d (d i) (i + 1) (n - (i + 1))
def nPar (d : Nat → Nat) (i : Nat) : Option Nat := nP d (d i) i
def nKids (d : Nat → Nat) (n i : Nat) : Nat := nC d (d i) (i + 1) (n - (i + 1)) 0
def nPlace (d : Nat → Nat) (i : Nat) : Nat := nL d (d i) i 0
def nCh (d : Nat → Nat) (n i : Nat) : Nat → Nat → Nat
  | 0, a => a
  | p + 1, a => if a < nEnd d n i then nCh d n i p (nEnd d n a) else a
def nChild (d : Nat → Nat) (n i p : Nat) : Nat := nCh d n i p (i + 1)
def nSp (d : Nat → Nat) (x pl wo en : Nat) : Nat → Nat → Nat → Nat
  | _, 0, _ => en
  | i, m + 1, a => if d i = x then (if i = wo then nSp d x pl wo en (i + 1) m a else if a = pl then i else nSp d x pl wo en (i + 1) m (a + 1)) else nSp d x pl wo en (i + 1) m a
def nSpot (d : Nat → Nat) (n p pl wo : Nat) : Nat := nSp d (d p + 1) pl wo (nEnd d n p) (p + 1) (nEnd d n p - (p + 1)) 0
/-- how many of m from a on -/
def nCt (P : Nat → Bool) : Nat → Nat → Nat
  | _, 0 => 0
  | a, m + 1 => (if P a = true then 1 else 0) + nCt P (a + 1) m
section DEPTHS
variable {D : Nat → Int32} {d : Nat → Nat} {n : Nat}
def dEq (D : Nat → Int32) (d : Nat → Nat) (n : Nat) : Prop := ∀ i, i < n → D i = nI (d i) ∧ d i < 2 ^ 30
def dOk (d : Nat → Nat) (n : Nat) : Prop := 0 < n ∧ d 0 = 0 ∧ ∀ i, i + 1 < n → 1 ≤ d (i + 1) ∧ d (i + 1) ≤ d i + 1
theorem nE_of (h : dEq D d n) {x : Nat} (hx : x < 2 ^ 30) : ∀ m e, e + m ≤ n → tE D (nI x) e m = nE d x e m := by
  intro m
  induction m with
  | zero => intro e _; rfl
  | succ m ih =>
    intro e he
    have h1 := h e (by omega)
    have h2 := nI_ltI (a := x) (b := d e) (by omega) (by omega)
    unfold tE nE
    rw [h1.1]
    by_cases c : x < d e
    · rw [if_pos (h2.mpr c), if_pos c]
      exact ih (e + 1) (by omega)
    · rw [if_neg (fun z => c (h2.mp z)), if_neg c]
theorem nP_of (h : dEq D d n) {x : Nat} (hx : x < 2 ^ 30) : ∀ j, j ≤ n → tP D (nI x) j = nP d x j := by
  intro j
  induction j with
  | zero => intro _; rfl
  | succ j ih =>
    intro hj
    have h1 := h j (by omega)
    have h2 := nI_ltI (a := d j) (b := x) (by omega) (by omega)
    unfold tP nP
    rw [h1.1]
    by_cases c : d j < x
    · rw [if_pos (h2.mpr c), if_pos c]
    · rw [if_neg (fun z => c (h2.mp z)), if_neg c]
      exact ih (by omega)
theorem nI_s1 {x y : Nat} (hx : x < 2 ^ 30) (hy : y < 2 ^ 30) : nI x = nI y + 1 ↔ x = y + 1 := by
  rw [nI_1]
  exact nI_eq (by omega) (by omega)
theorem nC_of (h : dEq D d n) {x : Nat} (hx : x < 2 ^ 30) : ∀ m e c, e + m ≤ n → tC D (nI x) e m c = nC d x e m c := by
  intro m
  induction m with
  | zero => intro e c _; rfl
  | succ m ih =>
    intro e c he
    have h1 := h e (by omega)
    have h2 := nI_ltI (a := x) (b := d e) (by omega) (by omega)
    have h3 := nI_s1 (x := d e) (y := x) (by omega) hx
    unfold tC nC
    rw [h1.1]
    by_cases q : x < d e
    · rw [if_pos (h2.mpr q), if_pos q]
      by_cases z : d e = x + 1
      · rw [if_pos (h3.mpr z), if_pos z]
        exact ih (e + 1) (c + 1) (by omega)
      · rw [if_neg (fun w => z (h3.mp w)), if_neg z]
        exact ih (e + 1) c (by omega)
    · rw [if_neg (fun z => q (h2.mp z)), if_neg q]
theorem nL_of (h : dEq D d n) {x : Nat} (hx : x < 2 ^ 30) : ∀ j c, j ≤ n → tL D (nI x) j c = nL d x j c := by
  intro j
  induction j with
  | zero => intro c _; rfl
  | succ j ih =>
    intro c hj
    have h1 := h j (by omega)
    have h2 := nI_ltI (a := d j) (b := x) (by omega) (by omega)
    have h3 := nI_eq (a := d j) (b := x) (by omega) (by omega)
    unfold tL nL
    rw [h1.1]
    by_cases q : d j < x
    · rw [if_pos (h2.mpr q), if_pos q]
    · rw [if_neg (fun z => q (h2.mp z)), if_neg q]
      by_cases z : d j = x
      · rw [if_pos (h3.mpr z), if_pos z]
        exact ih (c + 1) (by omega)
      · rw [if_neg (fun w => z (h3.mp w)), if_neg z]
        exact ih c (by omega)
theorem nEnd_of (h : dEq D d n) {i : Nat} (hi : i < n) : tEnd D n i = nEnd d n i := by
  unfold tEnd nEnd
  rw [(h i hi).1]
  exact nE_of h (h i hi).2 _ _ (by omega)
theorem nPar_of (h : dEq D d n) {i : Nat} (hi : i < n) : tPar D i = nPar d i := by
  unfold tPar nPar
  rw [(h i hi).1]
  exact nP_of h (h i hi).2 _ (by omega)
theorem nKids_of (h : dEq D d n) {i : Nat} (hi : i < n) : tKids D n i = nKids d n i := by
  unfold tKids nKids
  rw [(h i hi).1]
  exact nC_of h (h i hi).2 _ _ _ (by omega)
theorem nPlace_of (h : dEq D d n) {i : Nat} (hi : i < n) : tPlace D i = nPlace d i := by
  unfold tPlace nPlace
  rw [(h i hi).1]
  exact nL_of h (h i hi).2 _ _ (by omega)
theorem nCh_of (h : dEq D d n) {i : Nat} (hi : i < n) : ∀ p a, tCh D n i p a = nCh d n i p a := by
  intro p
  have hE := tEnd_gt (D := D) hi
  induction p with
  | zero => intro a; rfl
  | succ p ih =>
    intro a
    unfold tCh nCh
    rw [nEnd_of h hi] at hE ⊢
    by_cases c : a < nEnd d n i
    · rw [if_pos c, if_pos c, nEnd_of h (show a < n by omega)]
      exact ih _
    · rw [if_neg c, if_neg c]
theorem nChild_of (h : dEq D d n) {i p : Nat} (hi : i < n) : tChild D n i p = nChild d n i p := nCh_of h hi _ _
theorem nSp_of (h : dEq D d n) {x pl w en : Nat} {W : Int32} (hx : x < 2 ^ 30) (hpl : pl < 2 ^ 30) (hW : ∀ i, i < n → (nI i = W ↔ i = w)) : ∀ m i a, i + m ≤ n → a + m < 2 ^ 30 → tSp D (nI x) (nI pl) W en i m a = nSp d x pl w en i m a := by
  intro m
  induction m with
  | zero => intro i a _ _; rfl
  | succ m ih =>
    intro i a hi ha
    have h1 := h i (by omega)
    have h2 := nI_eq (a := d i) (b := x) (by omega) (by omega)
    have h3 := nI_eq (a := a) (b := pl) (by omega) (by omega)
    have h4 := hW i (by omega)
    unfold tSp nSp
    rw [h1.1]
    by_cases c : d i = x
    · rw [if_pos (h2.mpr c), if_pos c]
      by_cases c2 : i = w
      · rw [if_pos (h4.mpr c2), if_pos c2]
        exact ih _ _ (by omega) (by omega)
      · rw [if_neg (fun z => c2 (h4.mp z)), if_neg c2]
        by_cases c3 : a = pl
        · rw [if_pos (h3.mpr c3), if_pos c3]
        · rw [if_neg (fun z => c3 (h3.mp z)), if_neg c3]
          exact ih _ _ (by omega) (by omega)
    · rw [if_neg (fun z => c (h2.mp z)), if_neg c]
      exact ih _ _ (by omega) (by omega)
theorem nE_spec {x : Nat} : ∀ m e, e ≤ nE d x e m ∧ nE d x e m ≤ e + m ∧ (∀ j, e ≤ j → j < nE d x e m → x < d j) ∧ (nE d x e m < e + m → d (nE d x e m) ≤ x) := by
  intro m
  induction m with
  | zero => intro e; exact ⟨Nat.le_refl _, Nat.le_refl _, fun j h1 h2 => by unfold nE at h2; omega, fun h => by unfold nE at h; omega⟩
  | succ m ih =>
    intro e
    unfold nE
    by_cases c : x < d e
    · rw [if_pos c]
      obtain ⟨h1, h2, h3, h4⟩ := ih (e + 1)
      refine ⟨by omega, by omega, fun j k1 k2 => ?_, fun k => h4 (by omega)⟩
      by_cases z : j = e
      · rw [z]; exact c
      · exact h3 j (by omega) k2
    · rw [if_neg c]
      exact ⟨Nat.le_refl _, by omega, fun j k1 k2 => by omega, fun _ => by omega⟩
theorem nEnd_spec {i : Nat} (hi : i < n) : i < nEnd d n i ∧ nEnd d n i ≤ n ∧ (∀ j, i < j → j < nEnd d n i → d i < d j) ∧ (nEnd d n i < n → d (nEnd d n i) ≤ d i) := by
  obtain ⟨h1, h2, h3, h4⟩ := nE_spec (d := d) (x := d i) (n - (i + 1)) (i + 1)
  unfold nEnd
  exact ⟨by omega, by omega, fun j k1 k2 => h3 j (by omega) k2, fun k => h4 (by omega)⟩
theorem nEnd_uniq {i e : Nat} (hi : i < n) (h1 : i < e) (h2 : e ≤ n) (h3 : ∀ j, i < j → j < e → d i < d j) (h4 : e < n → d e ≤ d i) : nEnd d n i = e := by
  obtain ⟨k1, k2, k3, k4⟩ := nEnd_spec (d := d) hi
  rcases Nat.lt_trichotomy (nEnd d n i) e with h | h | h
  · have a := k4 (by omega)
    have b := h3 _ k1 h
    omega
  · exact h
  · have a := h4 (by omega)
    have b := k3 _ h1 h
    omega
theorem nP_some {x : Nat} : ∀ {j p}, nP d x j = some p → p < j ∧ d p < x ∧ ∀ q, p < q → q < j → x ≤ d q := by
  intro j
  induction j with
  | zero => intro p h; cases h
  | succ j ih =>
    intro p h
    unfold nP at h
    by_cases c : d j < x
    · rw [if_pos c] at h
      cases h
      exact ⟨by omega, c, fun q h1 h2 => by omega⟩
    · rw [if_neg c] at h
      obtain ⟨h1, h2, h3⟩ := ih h
      refine ⟨by omega, h2, fun q k1 k2 => ?_⟩
      by_cases z : q = j
      · rw [z]; omega
      · exact h3 q k1 (by omega)
theorem nP_none {x : Nat} : ∀ {j}, nP d x j = none → ∀ q, q < j → x ≤ d q := by
  intro j
  induction j with
  | zero => intro h q hq; omega
  | succ j ih =>
    intro h q hq
    unfold nP at h
    by_cases c : d j < x
    · rw [if_pos c] at h
      cases h
    · rw [if_neg c] at h
      by_cases z : q = j
      · rw [z]; omega
      · exact ih h q (by omega)
theorem nPar_some {i p : Nat} (h : nPar d i = some p) : p < i ∧ d p < d i ∧ ∀ q, p < q → q < i → d i ≤ d q := nP_some h
theorem nPar_uniq {i p : Nat} (h1 : p < i) (h2 : d p < d i) (h3 : ∀ q, p < q → q < i → d i ≤ d q) : nPar d i = some p := by
  cases e : nPar d i with
  | none =>
    have := nP_none e p h1
    omega
  | some q =>
    obtain ⟨k1, k2, k3⟩ := nPar_some e
    rcases Nat.lt_trichotomy q p with h | h | h
    · have := k3 p h h1
      omega
    · rw [h]
    · have := h3 q h k1
      omega
theorem dOk.le (h : dOk d n) : ∀ i, i < n → d i ≤ i := by
  intro i
  induction i with
  | zero => intro _; rw [h.2.1]; omega
  | succ i ih => intro hi; have := ih (by omega); have := h.2.2 i hi; omega
theorem dOk.pos (h : dOk d n) {i : Nat} (hi : i < n) (h0 : 0 < i) : 1 ≤ d i := by
  obtain ⟨j, rfl⟩ : ∃ j, i = j + 1 := ⟨i - 1, by omega⟩
  exact (h.2.2 j hi).1
theorem dOk.par (h : dOk d n) {i : Nat} (hi : i < n) (h0 : 0 < i) : ∃ p, nPar d i = some p ∧ p < i ∧ d i = d p + 1 ∧ ∀ q, p < q → q < i → d i ≤ d q := by
  cases e : nPar d i with
  | none =>
    have h1 := nP_none e 0 h0
    have h2 := h.pos hi h0
    rw [h.2.1] at h1
    omega
  | some p =>
    obtain ⟨k1, k2, k3⟩ := nPar_some e
    refine ⟨p, rfl, k1, ?_, k3⟩
    have k4 := h.2.2 p (by omega)
    by_cases z : p + 1 = i
    · rw [z] at k4
      omega
    · have := k3 (p + 1) (by omega) (by omega)
      omega
theorem nPar_0 : nPar d 0 = none := rfl
-- counting
variable {P : Nat → Bool}
theorem nCt_add : ∀ m a k, nCt P a (m + k) = nCt P a m + nCt P (a + m) k := by
  intro m
  induction m with
  | zero => intro a k; simp [nCt]
  | succ m ih =>
    intro a k
    rw [show m + 1 + k = (m + k) + 1 by omega]
    show (if P a = true then 1 else 0) + nCt P (a + 1) (m + k) = (if P a = true then 1 else 0) + nCt P (a + 1) m + nCt P (a + (m + 1)) k
    rw [ih (a + 1) k, show a + 1 + m = a + (m + 1) by omega]
    omega
theorem nCt_0 : ∀ m a, (∀ j, a ≤ j → j < a + m → P j = false) → nCt P a m = 0 := by
  intro m
  induction m with
  | zero => intro a _; rfl
  | succ m ih =>
    intro a h
    show (if P a = true then 1 else 0) + nCt P (a + 1) m = 0
    rw [h a (by omega) (by omega), ih (a + 1) (fun j h1 h2 => h j (by omega) (by omega))]
    rfl
theorem nCt_le : ∀ m a, nCt P a m ≤ m := by
  intro m
  induction m with
  | zero => intro a; exact Nat.le_refl _
  | succ m ih =>
    intro a
    show (if P a = true then 1 else 0) + nCt P (a + 1) m ≤ m + 1
    have := ih (a + 1)
    split <;> omega
theorem nCt_sh {P' : Nat → Bool} {a b : Nat} : ∀ m, (∀ j, j < m → P (a + j) = P' (b + j)) → nCt P a m = nCt P' b m := by
  intro m
  induction m generalizing a b with
  | zero => intro _; rfl
  | succ m ih =>
    intro h
    show (if P a = true then 1 else 0) + nCt P (a + 1) m = (if P' b = true then 1 else 0) + nCt P' (b + 1) m
    have h0 := h 0 (by omega)
    rw [Nat.add_zero, Nat.add_zero] at h0
    rw [h0, ih (a := a + 1) (b := b + 1) (fun j hj => by have := h (j + 1) (by omega); rw [show a + 1 + j = a + (j + 1) by omega, show b + 1 + j = b + (j + 1) by omega]; exact this)]
/-- the place of the pl-th of those: from i on, up to en -/
def nAt (P : Nat → Bool) (i en pl s : Nat) : Prop := i ≤ s ∧ s ≤ en ∧ (s < en → P s = true) ∧ nCt P i (s - i) = pl
theorem nAt_lt {i en pl s t : Nat} (h1 : nAt P i en pl s) (h2 : nAt P i en pl t) (h : s < t) : False := by
  obtain ⟨a1, a2, a3, a4⟩ := h1
  obtain ⟨b1, b2, b3, b4⟩ := h2
  have e : nCt P i (t - i) = nCt P i (s - i) + nCt P (i + (s - i)) (t - s) := by
    rw [← nCt_add]
    exact congrArg _ (by omega)
  rw [show i + (s - i) = s by omega] at e
  obtain ⟨k, hk⟩ : ∃ k, t - s = k + 1 := ⟨t - s - 1, by omega⟩
  rw [hk] at e
  have e2 : nCt P s (k + 1) = (if P s = true then 1 else 0) + nCt P (s + 1) k := rfl
  rw [if_pos (a3 (by omega))] at e2
  omega
theorem nAt_uniq {i en pl s t : Nat} (h1 : nAt P i en pl s) (h2 : nAt P i en pl t) : s = t := by
  rcases Nat.lt_trichotomy s t with h | h | h
  · exact (nAt_lt h1 h2 h).elim
  · exact h
  · exact (nAt_lt h2 h1 h).elim
def nK (d : Nat → Nat) (x w : Nat) : Nat → Bool := fun j => decide (d j = x ∧ j ≠ w)
theorem nSp_spec {x pl w en : Nat} : ∀ m i a, i + m = en → a ≤ pl → pl ≤ a + nCt (nK d x w) i m → i ≤ nSp d x pl w en i m a ∧ nSp d x pl w en i m a ≤ en ∧ (nSp d x pl w en i m a < en → nK d x w (nSp d x pl w en i m a) = true) ∧ a + nCt (nK d x w) i (nSp d x pl w en i m a - i) = pl := by
  intro m
  induction m with
  | zero =>
    intro i a hi ha hc
    have hc : pl ≤ a + 0 := hc
    unfold nSp
    refine ⟨by omega, Nat.le_refl _, fun h => by omega, ?_⟩
    rw [show en - i = 0 by omega]
    show a + 0 = pl
    omega
  | succ m ih =>
    intro i a hi ha hc
    have hc : pl ≤ a + ((if nK d x w i = true then 1 else 0) + nCt (nK d x w) (i + 1) m) := hc
    have hS : ∀ s, i + 1 ≤ s → nCt (nK d x w) i (s - i) = (if nK d x w i = true then 1 else 0) + nCt (nK d x w) (i + 1) (s - (i + 1)) := by
      intro s hs
      rw [show s - i = (s - (i + 1)) + 1 by omega]
      rfl
    unfold nSp
    by_cases c : d i = x
    · rw [if_pos c]
      by_cases c2 : i = w
      · rw [if_pos c2]
        have kf : nK d x w i = false := decide_eq_false (fun z => z.2 c2)
        rw [kf, if_neg Bool.false_ne_true] at hc hS
        obtain ⟨h1, h2, h3, h4⟩ := ih (i + 1) a (by omega) ha (by omega)
        refine ⟨by omega, h2, h3, ?_⟩
        rw [hS _ h1]
        omega
      · rw [if_neg c2]
        have kt : nK d x w i = true := decide_eq_true ⟨c, c2⟩
        rw [kt, if_pos rfl] at hc hS
        by_cases c3 : a = pl
        · rw [if_pos c3]
          refine ⟨Nat.le_refl _, by omega, fun _ => kt, ?_⟩
          rw [Nat.sub_self]
          exact c3
        · rw [if_neg c3]
          obtain ⟨h1, h2, h3, h4⟩ := ih (i + 1) (a + 1) (by omega) (by omega) (by omega)
          refine ⟨by omega, h2, h3, ?_⟩
          rw [hS _ h1]
          omega
    · rw [if_neg c]
      have kf : nK d x w i = false := decide_eq_false (fun z => c z.1)
      rw [kf, if_neg Bool.false_ne_true] at hc hS
      obtain ⟨h1, h2, h3, h4⟩ := ih (i + 1) a (by omega) ha (by omega)
      refine ⟨by omega, h2, h3, ?_⟩
      rw [hS _ h1]
      omega
theorem nSpot_at {p pl w : Nat} (hp : p < n) (hk : pl ≤ nCt (nK d (d p + 1) w) (p + 1) (nEnd d n p - (p + 1))) : nAt (nK d (d p + 1) w) (p + 1) (nEnd d n p) pl (nSpot d n p pl w) := by
  obtain ⟨e1, e2, -, -⟩ := nEnd_spec (d := d) hp
  have := nSp_spec (d := d) (x := d p + 1) (pl := pl) (w := w) (en := nEnd d n p) (nEnd d n p - (p + 1)) (p + 1) 0 (by omega) (by omega) (by omega)
  unfold nSpot
  refine ⟨this.1, this.2.1, this.2.2.1, ?_⟩
  have := this.2.2.2
  omega
theorem nC_ct {x : Nat} : ∀ m e c, nC d x e m c = c + nCt (fun j => decide (d j = x + 1)) e (nE d x e m - e) := by
  intro m
  induction m with
  | zero =>
    intro e c
    unfold nC nE
    rw [Nat.sub_self]
    rfl
  | succ m ih =>
    intro e c
    unfold nC nE
    by_cases q : x < d e
    · rw [if_pos q, if_pos q, ih]
      have := (nE_spec (d := d) (x := x) m (e + 1)).1
      rw [show nE d x (e + 1) m - e = (nE d x (e + 1) m - (e + 1)) + 1 by omega]
      show _ = c + ((if decide (d e = x + 1) = true then 1 else 0) + nCt _ (e + 1) _)
      by_cases z : d e = x + 1
      · rw [if_pos z, if_pos (decide_eq_true z)]
        omega
      · rw [if_neg z, if_neg (by rw [decide_eq_false z]; exact Bool.false_ne_true)]
        omega
    · rw [if_neg q, if_neg q, Nat.sub_self]
      rfl
/-- being a child of i -/
def nKc (d : Nat → Nat) (i : Nat) : Nat → Bool := fun j => decide (d j = d i + 1)
theorem nKids_ct {i : Nat} : nKids d n i = nCt (nKc d i) (i + 1) (nEnd d n i - (i + 1)) := by
  unfold nKids nEnd
  rw [nC_ct, Nat.zero_add]
  rfl
theorem nEnd_in (h : dOk d n) {i j : Nat} (hi : i < n) (hj : i < j) (hje : j < nEnd d n i) : nEnd d n j ≤ nEnd d n i := by
  obtain ⟨a1, a2, a3, a4⟩ := nEnd_spec (d := d) hi
  obtain ⟨b1, b2, b3, b4⟩ := nEnd_spec (d := d) (show j < n by omega)
  rcases Nat.lt_or_ge (nEnd d n i) (nEnd d n j) with h | h
  · have := a4 (by omega)
    have := b3 _ hje h
    have := a3 j hj hje
    omega
  · exact h
theorem nCh_at (h : dOk d n) {i : Nat} (hi : i < n) : ∀ p a c, i < a → a ≤ nEnd d n i → (a < nEnd d n i → nKc d i a = true) → nCt (nKc d i) (i + 1) (a - (i + 1)) = c → p + c ≤ nKids d n i → nAt (nKc d i) (i + 1) (nEnd d n i) (p + c) (nCh d n i p a) := by
  obtain ⟨a1, a2, a3, a4⟩ := nEnd_spec (d := d) hi
  intro p
  induction p with
  | zero =>
    intro a c h1 h2 h3 h4 h5
    unfold nCh
    exact ⟨h1, h2, h3, by omega⟩
  | succ p ih =>
    intro a c h1 h2 h3 h4 h5
    unfold nCh
    by_cases z : a < nEnd d n i
    · rw [if_pos z]
      have ka : d a = d i + 1 := of_decide_eq_true (h3 z)
      obtain ⟨b1, b2, b3, b4⟩ := nEnd_spec (d := d) (show a < n by omega)
      have b5 := nEnd_in h hi h1 z
      have e := ih (nEnd d n a) (c + 1) (by omega) b5 (fun q => ?_) ?_ (by omega)
      · rw [show p + 1 + c = p + (c + 1) by omega]
        exact e
      · have := b4 (by omega)
        have := a3 (nEnd d n a) (by omega) q
        exact decide_eq_true (by omega)
      · rw [show nEnd d n a - (i + 1) = (a - (i + 1)) + (1 + (nEnd d n a - (a + 1))) by omega, nCt_add, nCt_add, h4, show i + 1 + (a - (i + 1)) = a by omega]
        rw [nCt_0 (P := nKc d i) (nEnd d n a - (a + 1)) (a + 1) (fun j k1 k2 => decide_eq_false (by have := b3 j (by omega) (by omega); omega))]
        show c + ((if nKc d i a = true then 1 else 0) + 0 + 0) = c + 1
        rw [if_pos (h3 z)]
    · have e : a = nEnd d n i := by omega
      have : nCt (nKc d i) (i + 1) (a - (i + 1)) = nKids d n i := by rw [nKids_ct, e]
      omega
theorem nChild_at (h : dOk d n) {i pl : Nat} (hi : i < n) (hk : pl ≤ nKids d n i) : nAt (nKc d i) (i + 1) (nEnd d n i) pl (nChild d n i pl) := by
  obtain ⟨a1, a2, a3, a4⟩ := nEnd_spec (d := d) hi
  have := nCh_at h hi pl (i + 1) 0 (by omega) (by omega) (fun q => ?_) (by rw [Nat.sub_self]; rfl) (by omega)
  · exact this
  · have b := a3 (i + 1) (by omega) q
    have c := h.2.2 i (by omega)
    exact decide_eq_true (by omega)
end DEPTHS

/-! difference: which stay, by what tells them (points; x, y: where a point stands in either order) -/
/-- behind the one picked last -/
def pkA (x y : Nat → Nat) (l : Option Nat) (q : Nat) : Prop := ∀ a, l = some a → x a < x q ∧ y a < y q
/-- the next one picked -/
def pkQ (N : Nat → Prop) (x y F : Nat → Nat) (w : Nat) (l : Option Nat) (q : Nat) : Prop := N q ∧ F q = w ∧ pkA x y l q ∧ ∀ r, N r → F r = w → pkA x y l r → y q ≤ y r
/-- all that are picked -/
def pkN (N : Nat → Prop) (x y F : Nat → Nat) : Nat → Option Nat → (Nat → Prop) → Prop
  | 0, _, S => ∀ c, ¬ S c
  | w + 1, l, S => ∃ q, pkQ N x y F (w + 1) l q ∧ ∃ S', pkN N x y F w (some q) S' ∧ ∀ c, S c ↔ (c = q ∨ S' c)
/-- the longest there is -/
def pkM (N : Nat → Prop) (F : Nat → Nat) (m : Nat) : Prop := (∀ q, N q → F q ≤ m) ∧ (m = 0 ∨ ∃ q, N q ∧ F q = m)
/-- those that stay -/
def pkS (N : Nat → Prop) (x y : Nat → Nat) (S : Nat → Prop) : Prop := ∃ F m, lnF N x y F ∧ pkM N F m ∧ pkN N x y F m none S
section PICKS
variable {N M : Nat → Prop} {x y u z F G r : Nat → Nat} {l : Option Nat} {w q m : Nat} {S S' : Nat → Prop}
theorem pkN_uniq (hy : ∀ q r, N q → N r → y q = y r → q = r) (hFG : ∀ q, N q → F q = G q) : ∀ w l S S', pkN N x y F w l S → pkN N x y G w l S' → ∀ c, S c ↔ S' c := by
  intro w
  induction w with
  | zero =>
    intro l S S' h h' c
    exact ⟨fun z => absurd z (h c), fun z => absurd z (h' c)⟩
  | succ w ih =>
    intro l S S' h h' c
    obtain ⟨q, ⟨a1, a2, a3, a4⟩, T, a5, a6⟩ := h
    obtain ⟨r, ⟨b1, b2, b3, b4⟩, T', b5, b6⟩ := h'
    have e : q = r := by
      refine hy q r a1 b1 (Nat.le_antisymm ?_ ?_)
      · exact a4 r b1 ((hFG r b1).trans b2) b3
      · exact b4 q a1 ((hFG q a1).symm.trans a2) a3
    subst e
    have := ih (some q) T T' a5 b5 c
    rw [a6, b6, this]
theorem pkM_uniq {m' : Nat} (hFG : ∀ q, N q → F q = G q) (h : pkM N F m) (h' : pkM N G m') : m = m' := by
  obtain ⟨a1, a2⟩ := h
  obtain ⟨b1, b2⟩ := h'
  refine Nat.le_antisymm ?_ ?_
  · rcases a2 with z | ⟨q, q1, q2⟩
    · omega
    · have := b1 q q1
      rw [← hFG q q1] at this
      omega
  · rcases b2 with z | ⟨q, q1, q2⟩
    · omega
    · have := a1 q q1
      rw [hFG q q1] at this
      omega
theorem pkS_uniq {b : Nat} (hb : ∀ q, N q → x q < b) (hy : ∀ q r, N q → N r → y q = y r → q = r) (h : pkS N x y S) (h' : pkS N x y S') : ∀ c, S c ↔ S' c := by
  obtain ⟨F, m, a1, a2, a3⟩ := h
  obtain ⟨G, m', b1, b2, b3⟩ := h'
  have e : ∀ q, N q → F q = G q := fun q hq => lnF_one b hb a1 b1 b q hq (by omega)
  have := pkM_uniq e a2 b2
  subst this
  exact pkN_uniq hy e m none S S' a3 b3
-- what stays is one of those that may
theorem pkN_in : ∀ w l S, pkN N x y F w l S → ∀ c, S c → N c := by
  intro w
  induction w with
  | zero => intro l S h c hc; exact absurd hc (h c)
  | succ w ih =>
    intro l S h c hc
    obtain ⟨q, ⟨a1, -⟩, T, a5, a6⟩ := h
    rcases (a6 c).mp hc with z | z
    · rw [z]
      exact a1
    · exact ih _ _ a5 c z
theorem pkS_in (h : pkS N x y S) : ∀ c, S c → N c := by
  obtain ⟨F, m, a1, a2, a3⟩ := h
  exact pkN_in m none S a3
-- the order alone counts: the same points by other names
theorem pkA_map (hM : ∀ j, N j → M (r j)) (hx : ∀ i j, N i → N j → (x i < x j ↔ u (r i) < u (r j))) (hy : ∀ i j, N i → N j → (y i < y j ↔ z (r i) < z (r j))) (hl : ∀ a, l = some a → N a) (hq : N q) : pkA x y l q ↔ pkA u z (l.map r) (r q) := by
  cases l with
  | none => exact ⟨fun _ a e => (by cases e), fun _ a e => (by cases e)⟩
  | some a =>
    have ha := hl a rfl
    constructor
    · intro h b e
      cases e
      exact ⟨(hx a q ha hq).mp (h a rfl).1, (hy a q ha hq).mp (h a rfl).2⟩
    · intro h b e
      cases e
      have := h (r a) rfl
      exact ⟨(hx a q ha hq).mpr this.1, (hy a q ha hq).mpr this.2⟩
theorem pkN_map (hM : ∀ j, N j → M (r j)) (hO : ∀ c, M c → ∃ j, N j ∧ r j = c) (hx : ∀ i j, N i → N j → (x i < x j ↔ u (r i) < u (r j))) (hy : ∀ i j, N i → N j → (y i < y j ↔ z (r i) < z (r j))) (hG : ∀ j, N j → G (r j) = F j) : ∀ w l S, (∀ a, l = some a → N a) → pkN N x y F w l S → pkN M u z G w (l.map r) (fun c => ∃ j, N j ∧ S j ∧ r j = c) := by
  intro w
  induction w with
  | zero =>
    intro l S _ h c hc
    obtain ⟨j, j1, j2, -⟩ := hc
    exact h j j2
  | succ w ih =>
    intro l S hl hp
    obtain ⟨q, ⟨a1, a2, a3, a4⟩, T, a5, a6⟩ := hp
    refine ⟨r q, ⟨hM q a1, (hG q a1).trans a2, (pkA_map hM hx hy hl a1).mp a3, fun c b1 b2 b3 => ?_⟩, _, ih (some q) T (fun a e => by cases e; exact a1) a5, fun c => ?_⟩
    · obtain ⟨j, j1, rfl⟩ := hO c b1
      have h4 := a4 j j1 ((hG j j1).symm.trans b2) ((pkA_map hM hx hy hl j1).mpr b3)
      rcases Nat.lt_or_ge (z (r j)) (z (r q)) with v | v
      · have := (hy j q j1 a1).mpr v
        omega
      · exact v
    · constructor
      · rintro ⟨j, j1, j2, j3⟩
        rcases (a6 j).mp j2 with v | v
        · rw [v] at j3
          exact Or.inl j3.symm
        · exact Or.inr ⟨j, j1, v, j3⟩
      · rintro (v | ⟨j, j1, j2, j3⟩)
        · exact ⟨q, a1, (a6 q).mpr (Or.inl rfl), v.symm⟩
        · exact ⟨j, j1, (a6 j).mpr (Or.inr j2), j3⟩
theorem pkS_map (hM : ∀ j, N j → M (r j)) (hO : ∀ c, M c → ∃ j, N j ∧ r j = c) (hx : ∀ i j, N i → N j → (x i < x j ↔ u (r i) < u (r j))) (hy : ∀ i j, N i → N j → (y i < y j ↔ z (r i) < z (r j))) (hi : ∀ i j, N i → N j → r i = r j → i = j) (hs : pkS N x y S) : pkS M u z (fun c => ∃ j, N j ∧ S j ∧ r j = c) := by
  obtain ⟨F, m, a1, a2, a3⟩ := hs
  have hv : ∀ c, ∃ j, M c → N j ∧ r j = c := by
    intro c
    by_cases h : M c
    · obtain ⟨j, j1, j2⟩ := hO c h
      exact ⟨j, fun _ => ⟨j1, j2⟩⟩
    · exact ⟨0, fun h' => absurd h' h⟩
  obtain ⟨iv, hiv⟩ := Classical.axiomOfChoice hv
  have hG : ∀ j, N j → F (iv (r j)) = F j := by
    intro j hj
    have := hiv (r j) (hM j hj)
    rw [hi _ _ this.1 hj this.2]
  refine ⟨fun c => F (iv c), m, fun p hp => ?_, ⟨fun q hq => ?_, ?_⟩, pkN_map hM hO hx hy hG m none S (fun a e => by cases e) a3⟩
  · obtain ⟨i, i1, rfl⟩ := hO p hp
    obtain ⟨b1, b2, b3⟩ := a1 i i1
    have eG := hG i i1
    refine ⟨by show 1 ≤ F (iv (r i)); omega, fun q hq hxq hyq => ?_, ?_⟩
    · obtain ⟨j, j1, rfl⟩ := hO q hq
      have := b2 j j1 ((hx i j i1 j1).mpr hxq) ((hy i j i1 j1).mpr hyq)
      show F (iv (r j)) < F (iv (r i))
      rw [hG j j1, eG]
      exact this
    · show F (iv (r i)) = 1 ∨ ∃ q, M q ∧ u (r i) < u q ∧ z (r i) < z q ∧ F (iv (r i)) = F (iv q) + 1
      rw [eG]
      rcases b3 with v | ⟨j, j1, j2, j3, j4⟩
      · exact Or.inl v
      · exact Or.inr ⟨r j, hM j j1, (hx i j i1 j1).mp j2, (hy i j i1 j1).mp j3, by rw [hG j j1]; exact j4⟩
  · obtain ⟨i, i1, rfl⟩ := hO q hq
    show F (iv (r i)) ≤ m
    rw [hG i i1]
    exact a2.1 i i1
  · rcases a2.2 with v | ⟨j, j1, j2⟩
    · exact Or.inl v
    · exact Or.inr ⟨r j, hM j j1, (hG j j1).trans j2⟩
/-- where the rows are, there is a next one -/
theorem pk_next (hF : lnF N x y F) {l : Nat} (hl : N l) (hw : F l = w + 1) (h0 : 0 < w) : ∃ q, N q ∧ F q = w ∧ pkA x y (some l) q := by
  obtain ⟨a1, a2, a3⟩ := hF l hl
  rcases a3 with z | ⟨q, q1, q2, q3, q4⟩
  · omega
  · exact ⟨q, q1, by omega, fun a e => by cases e; exact ⟨q2, q3⟩⟩
end PICKS

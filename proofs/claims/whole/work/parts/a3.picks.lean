/-! difference: which stay, by what tells them -/
/-- behind the one picked last -/
def pkA (y : Nat → Nat) (l : Option Nat) (q : Nat) : Prop := ∀ a, l = some a → a < q ∧ y a < y q
/-- the next one picked -/
def pkQ (N : Nat → Prop) (y F : Nat → Nat) (w : Nat) (l : Option Nat) (q : Nat) : Prop := N q ∧ F q = w ∧ pkA y l q ∧ ∀ r, N r → F r = w → pkA y l r → y q ≤ y r
/-- all that are picked -/
def pkN (N : Nat → Prop) (y F : Nat → Nat) : Nat → Option Nat → (Nat → Prop) → Prop
  | 0, _, S => ∀ c, ¬ S c
  | w + 1, l, S => ∃ q, pkQ N y F (w + 1) l q ∧ ∃ S', pkN N y F w (some q) S' ∧ ∀ c, S c ↔ (c = q ∨ S' c)
/-- the longest there is -/
def pkM (N : Nat → Prop) (F : Nat → Nat) (m : Nat) : Prop := (∀ q, N q → F q ≤ m) ∧ (m = 0 ∨ ∃ q, N q ∧ F q = m)
/-- those that stay -/
def pkS (N : Nat → Prop) (y : Nat → Nat) (S : Nat → Prop) : Prop := ∃ F m, lnF N (fun q => q) y F ∧ pkM N F m ∧ pkN N y F m none S
section PICKS
variable {N N' : Nat → Prop} {y z F G : Nat → Nat} {l : Option Nat} {w q r m : Nat} {S S' : Nat → Prop}
theorem pkN_uniq (hy : ∀ q r, N q → N r → y q = y r → q = r) (hFG : ∀ q, N q → F q = G q) : ∀ w l S S', pkN N y F w l S → pkN N y G w l S' → ∀ c, S c ↔ S' c := by
  intro w
  induction w with
  | zero =>
    intro l S S' h h' c
    exact ⟨fun z => absurd z (h c), fun z => absurd z (h' c)⟩
  | succ w ih =>
    intro l S S' h h' c
    obtain ⟨q, ⟨a1, a2, a3, a4⟩, T, a5, a6⟩ := h
    obtain ⟨r, ⟨b1, b2, b3, b4⟩, T', b5, b6⟩ := h'
    have e : q = r := by
      refine hy q r a1 b1 (Nat.le_antisymm ?_ ?_)
      · exact a4 r b1 ((hFG r b1).trans b2) b3
      · exact b4 q a1 ((hFG q a1).symm.trans a2) a3
    subst e
    have := ih (some q) T T' a5 b5 c
    rw [a6, b6, this]
theorem pkM_uniq {m' : Nat} (hFG : ∀ q, N q → F q = G q) (h : pkM N F m) (h' : pkM N G m') : m = m' := by
  obtain ⟨a1, a2⟩ := h
  obtain ⟨b1, b2⟩ := h'
  refine Nat.le_antisymm ?_ ?_
  · rcases a2 with z | ⟨q, q1, q2⟩
    · omega
    · have := b1 q q1
      rw [← hFG q q1] at this
      omega
  · rcases b2 with z | ⟨q, q1, q2⟩
    · omega
    · have := a1 q q1
      rw [hFG q q1] at this
      omega
theorem pkS_uniq {b : Nat} (hb : ∀ q, N q → q < b) (hy : ∀ q r, N q → N r → y q = y r → q = r) (h : pkS N y S) (h' : pkS N y S') : ∀ c, S c ↔ S' c := by
  obtain ⟨F, m, a1, a2, a3⟩ := h
  obtain ⟨G, m', b1, b2, b3⟩ := h'
  have e : ∀ q, N q → F q = G q := fun q hq => lnF_one b hb a1 b1 b q hq (by omega)
  have := pkM_uniq e a2 b2
  subst this
  exact pkN_uniq hy e m none S S' a3 b3
-- what stays is one of those that may
theorem pkN_in : ∀ w l S, pkN N y F w l S → ∀ c, S c → N c := by
  intro w
  induction w with
  | zero => intro l S h c hc; exact absurd hc (h c)
  | succ w ih =>
    intro l S h c hc
    obtain ⟨q, ⟨a1, -⟩, T, a5, a6⟩ := h
    rcases (a6 c).mp hc with z | z
    · rw [z]
      exact a1
    · exact ih _ _ a5 c z
theorem pkS_in (h : pkS N y S) : ∀ c, S c → N c := by
  obtain ⟨F, m, a1, a2, a3⟩ := h
  exact pkN_in m none S a3
-- the order alone counts
theorem pkA_ord (h : ∀ q r, N q → N r → (y q < y r ↔ z q < z r)) (hl : ∀ a, l = some a → N a) (hq : N q) : pkA y l q ↔ pkA z l q := ⟨fun a x e => ⟨(a x e).1, (h x q (hl x e) hq).mp (a x e).2⟩, fun a x e => ⟨(a x e).1, (h x q (hl x e) hq).mpr (a x e).2⟩⟩
theorem pkN_ord (h : ∀ q r, N q → N r → (y q < y r ↔ z q < z r)) : ∀ w l S, (∀ a, l = some a → N a) → pkN N y F w l S → pkN N z F w l S := by
  intro w
  induction w with
  | zero => intro l S _ h; exact h
  | succ w ih =>
    intro l S hl hp
    obtain ⟨q, ⟨a1, a2, a3, a4⟩, T, a5, a6⟩ := hp
    refine ⟨q, ⟨a1, a2, (pkA_ord h hl a1).mp a3, fun r b1 b2 b3 => ?_⟩, T, ih (some q) T (fun a e => by cases e; exact a1) a5, a6⟩
    have := a4 r b1 b2 ((pkA_ord h hl b1).mpr b3)
    have := (h r q b1 a1).mpr
    rcases Nat.lt_or_ge (z r) (z q) with w | w
    · have := this w
      omega
    · exact w
theorem pkS_ord (h : ∀ q r, N q → N r → (y q < y r ↔ z q < z r)) (hs : pkS N y S) : pkS N z S := by
  obtain ⟨F, m, a1, a2, a3⟩ := hs
  refine ⟨F, m, fun p hp => ?_, a2, pkN_ord h m none S (fun a e => by cases e) a3⟩
  obtain ⟨b1, b2, b3⟩ := a1 p hp
  refine ⟨b1, fun q hq hx hy => b2 q hq hx ((h p q hp hq).mpr hy), ?_⟩
  rcases b3 with w | ⟨q, q1, q2, q3, q4⟩
  · exact Or.inl w
  · exact Or.inr ⟨q, q1, q2, (h p q hp q1).mp q3, q4⟩
/-- where the rows are, there is a next one -/
theorem pk_next (hF : lnF N (fun q => q) y F) {l : Nat} (hl : N l) (hw : F l = w + 1) (h0 : 0 < w) : ∃ q, N q ∧ F q = w ∧ pkA y (some l) q := by
  obtain ⟨a1, a2, a3⟩ := hF l hl
  rcases a3 with z | ⟨q, q1, q2, q3, q4⟩
  · omega
  · exact ⟨q, q1, by omega, fun a e => by cases e; exact ⟨q2, q3⟩⟩
end PICKS

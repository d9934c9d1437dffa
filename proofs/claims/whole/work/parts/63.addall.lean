/-! the class's Draft: a whole Patch added -/
section ADDALL
variable {b : iHp} {d n0 n c c' p : Nat} {E EP : Nat → Option Nat} {C C' : Nat → Int32} {st so sr : Int32} {G : Nat → Nat → Int32}
def aE (E : Nat → Option Nat) (n0 : Nat) (EP : Nat → Option Nat) : Nat → Nat → Option Nat
  | 0 => E
  | i + 1 => if n0 + i < 120 then va_up (aE E n0 EP i) (n0 + i) (EP i) else aE E n0 EP i
theorem ptAt.dr {n' : Nat} {E' : Nat → Option Nat} (hP : ptAt b p n c' st so sr EP C') (hp : p + 3 ≤ d ∨ d + 3 ≤ p) : ptAt (drH b d n' c E' C) p n c' st so sr EP C' := ⟨(drH_off (by omega)).trans hP.1, (drH_off (by omega)).trans hP.2.1, (drH_off (by omega)).trans hP.2.2.1, hP.2.2.2⟩
theorem all_loop (hP : ptAt b p n c' st so sr EP C') (hp : p + 3 ≤ d ∨ d + 3 ≤ p) (hG : ∀ j, j < n → ∃ x, EP j = some x ∧ edAt b x (G j) ∧ (x < d ∨ d + 3 ≤ x)) (hn0 : n0 ≤ 1000) (hc : c ≤ 120) {Q : Option Value → iHp → Prop} : ∀ k i, i + k = n → (iWp 2 mX1_addAll 2 [.ref d, .ref p, .int (nI i)] [] (drH b d (n0 + i) c (aE E n0 EP i) C) Q = Q none (drH b d (n0 + n) c (aE E n0 EP n) C)) := by
  have hn := hP.2.2.2.1
  intro k
  induction k with
  | zero =>
    intro i hi
    obtain rfl : i = n := by omega
    have h1 := hP.dr hp (n' := n0 + i) (c := c) (E' := aE E n0 EP i) (C := C)
    rw [X1_addAll_2]
    simp only [X1_addAll_0, X1_addAll_1, X1_addAll_3, X1_addAll_3n, X1_addAll_4 (ev_psize h1) h1.o, X1_addAll_7, X1_addAll_10, X1_addAll_11, X1_addAll_11n, X1_addAll_12, X1_addAll_19, X1_addAll_22, X1_addAll_25, iOb_some, iClr_i, iClr_r, iClr_n, iClr_u, iClr_l, rf_s, rf_n, iB_0, iSum_nil, if_pos (Int32.le_refl (nI i))]
  | succ k ih =>
    intro i hi
    obtain ⟨x, e1, e2, e3⟩ := hG i (by omega)
    have h1 := hP.dr hp (n' := n0 + i) (c := c) (E' := aE E n0 EP i) (C := C)
    have h2 : drAt (drH b d (n0 + i) c (aE E n0 EP i) C) d (n0 + i) c (aE E n0 EP i) C := drH_dr (by omega) hc
    have hE : edAt (drH b d (n0 + i) c (aE E n0 EP i) C) x (G i) := e2.dr e3
    have r := ih (i + 1) (by omega)
    rw [nI_succ, ← Nat.add_assoc] at r
    rw [X1_addAll_2]
    by_cases c0 : n0 + i < 120
    · rw [show aE E n0 EP (i + 1) = va_up (aE E n0 EP i) (n0 + i) (some x) from (if_pos c0).trans (by rw [e1])] at r
      simp only [X1_addAll_0, X1_addAll_1, X1_addAll_3, X1_addAll_3n, X1_addAll_4 (ev_psize h1) h1.o, X1_addAll_7, X1_addAll_10, X1_addAll_11, X1_addAll_11n, X1_addAll_12, X1_addAll_13 (ev_pedit h1 (show i < n by omega) e1) h1.o, X1_addAll_16 (ev_dadd c0 hc hE.o) h2.o (cat_r x), X1_addAll_19, X1_addAll_22, X1_addAll_25, iOb_some, iClr_i, iClr_r, iClr_n, iClr_u, iClr_l, rf_s, rf_n, iB_0, iSum_nil, if_neg (nI_ge (show i < n by omega) (by omega)), r]
    · rw [show aE E n0 EP (i + 1) = aE E n0 EP i from if_neg c0] at r
      simp only [X1_addAll_0, X1_addAll_1, X1_addAll_3, X1_addAll_3n, X1_addAll_4 (ev_psize h1) h1.o, X1_addAll_7, X1_addAll_10, X1_addAll_11, X1_addAll_11n, X1_addAll_12, X1_addAll_13 (ev_pedit h1 (show i < n by omega) e1) h1.o, X1_addAll_16 (ev_daddN (show 120 ≤ n0 + i by omega) (by omega) hc (.ref x) (cat_r x)) h2.o (cat_r x), X1_addAll_19, X1_addAll_22, X1_addAll_25, iOb_some, iClr_i, iClr_r, iClr_n, iClr_u, iClr_l, rf_s, rf_n, iB_0, iSum_nil, if_neg (nI_ge (show i < n by omega) (by omega)), r]
theorem ev_daddAll (hP : ptAt b p n c' st so sr EP C') (hp : p + 3 ≤ d ∨ d + 3 ≤ p) (hG : ∀ j, j < n → ∃ x, EP j = some x ∧ edAt b x (G j) ∧ (x < d ∨ d + 3 ≤ x)) (hn0 : n0 ≤ 1000) (hc : c ≤ 120) : iEv mX1_addAll [.ref d, .ref p] (drH b d n0 c E C) none (drH b d (n0 + n) c (aE E n0 EP n) C) := by
  refine J1_addAll (cat_r p) ?_
  simp only [X1_addAll_0, X1_addAll_1, iOb_some, iClr_i, iClr_r, iClr_n, iClr_u, iClr_l, rf_s, rf_n, iB_0, iSum_nil]
  exact (all_loop hP hp hG hn0 hc (E := E) (Q := fun r' h' => r' = none ∧ h' = drH b d (n0 + n) c (aE E n0 EP n) C) n 0 (by omega)).mpr ⟨rfl, rfl⟩
end ADDALL

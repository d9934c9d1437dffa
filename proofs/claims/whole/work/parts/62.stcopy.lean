/-! a State copied -/
section STC
variable {h b : iHp} {s a tc pc tc' pc' : Nat} {se se' : Int32} {T P T' P' : Nat → Option Nat}
theorem stAt.st (hS : stAt b s tc pc se T P) (hd : s + 3 ≤ a) : stAt (stH b a tc' pc' se' T' P') s tc pc se T P := ⟨(stH_off (Or.inl (by omega))).trans hS.1, (stH_off (Or.inl (by omega))).trans hS.2.1, (stH_off (Or.inl (by omega))).trans hS.2.2.1, hS.2.2.2⟩
theorem iObj_st {x ci : Nat} (hx : x < a) (ho : iObj b x ci = true) : iObj (stH b a tc' pc' se' T' P') x ci = true := by
  unfold iObj at ho ⊢
  rw [stH_off (Or.inl hx)]
  exact ho
theorem stc_loop (hd : s + 3 ≤ a) (hS : stAt b s tc pc se T P) (hT : ∀ j x, T j = some x → x < a ∧ iObj b x 7 = true) {Q : Option Value → iHp → Prop} : ∀ k i, i + k = 16 → (iWp 1 mX6_init_ 39 [.ref a, .ref s, .int (nI i)] [] (stH b a 0 0 1 (tkE T i) P') Q = iWp 1 mX6_init_ 63 [.ref a, .ref s, .int (nI 16)] [] (stH b a 0 0 1 (tkE T 16) P') Q) := by
  intro k
  induction k with
  | zero =>
    intro i hi
    obtain rfl : i = 16 := by omega
    rw [X6_init__39]
    simp only [X6_init__40, X6_init__42, X6_init__45, X6_init__46, X6_init__49, X6_init__50, X6_init__50n, X6_init__51, X6_init__54, X6_init__55, X6_init__56, X6_init__56n, X6_init__57, X6_init__60, iOb_some, iClr_i, iClr_r, iClr_n, iClr_u, iClr_l, rf_s, rf_n, iB_0, iSum_nil, if_pos (show (16 : Int32) ≤ nI 16 by decide)]
  | succ k ih =>
    intro i hi
    have h1 := hS.st hd (tc' := 0) (pc' := 0) (se' := 1) (T' := tkE T i) (P' := P')
    have h2 : stAt (stH b a 0 0 1 (tkE T i) P') a 0 0 1 (tkE T i) P' := stH_st (by omega) (by omega)
    have hi16 : ¬ (16 : Int32) ≤ nI i := nI_ge (b := 16) (by omega) (by decide)
    rw [X6_init__39]
    cases e : T i with
    | none =>
      have w := st_st (b := b) (s := a) (tc := 0) (pc := 0) (se := 1) (T := tkE T i) (P := P') (v := none) (show i < 16 by omega) rfl
      rw [← e, tkE_up, e] at w
      simp only [X6_init__40, X6_init__42, X6_init__45, X6_init__46, X6_init__49, X6_init__50, X6_init__50n, X6_init__51, X6_init__54, X6_init__55, X6_init__56, X6_init__56n, X6_init__57, X6_init__60, iOb_some, iClr_i, iClr_r, iClr_n, iClr_u, iClr_l, rf_s, rf_n, iB_0, iSum_nil, if_neg hi16, h1.g0, h2.g0, h1.lt (show i < 16 by omega), e, w]
      rw [← nI_succ]
      exact ih (i + 1) (by omega)
    | some x =>
      have w := st_st (b := b) (s := a) (tc := 0) (pc := 0) (se := 1) (T := tkE T i) (P := P') (v := some x) (show i < 16 by omega) (iObj_st (hT i x e).1 (hT i x e).2)
      rw [← e, tkE_up, e] at w
      simp only [X6_init__40, X6_init__42, X6_init__45, X6_init__46, X6_init__49, X6_init__50, X6_init__50n, X6_init__51, X6_init__54, X6_init__55, X6_init__56, X6_init__56n, X6_init__57, X6_init__60, iOb_some, iClr_i, iClr_r, iClr_n, iClr_u, iClr_l, rf_s, rf_n, iB_0, iSum_nil, if_neg hi16, h1.g0, h2.g0, h1.lt (show i < 16 by omega), e, w]
      rw [← nI_succ]
      exact ih (i + 1) (by omega)
end STC

/-! a State copied -/
section STC
variable {h b : iHp} {s a tc pc tc' pc' : Nat} {se se' : Int32} {T P T' P' : Nat → Option Nat}
theorem stAt.st (hS : stAt b s tc pc se T P) (hd : s + 3 ≤ a) : stAt (stH b a tc' pc' se' T' P') s tc pc se T P := ⟨(stH_off (Or.inl (by omega))).trans hS.1, (stH_off (Or.inl (by omega))).trans hS.2.1, (stH_off (Or.inl (by omega))).trans hS.2.2.1, hS.2.2.2⟩
theorem iObj_st {x ci : Nat} (hx : x < a) (ho : iObj b x ci = true) : iObj (stH b a tc' pc' se' T' P') x ci = true := by
  unfold iObj at ho ⊢
  rw [stH_off (Or.inl hx)]
  exact ho
theorem stc_loop (hd : s + 3 ≤ a) (hS : stAt b s tc pc se T P) (hT : ∀ j x, T j = some x → x < a ∧ iObj b x 7 = true) {Q : Option Value → iHp → Prop} : ∀ k i, i + k = 16 → (iWp 1 mX6_init_ 39 [.ref a, .ref s, .int (nI i)] [] (stH b a 0 0 1 (tkE T i) P') Q = iWp 1 mX6_init_ 63 [.ref a, .ref s, .int (nI 16)] [] (stH b a 0 0 1 (tkE T 16) P') Q) := by
  intro k
  induction k with
  | zero =>
    intro i hi
    obtain rfl : i = 16 := by omega
    rw [X6_init__39]
    simp only [X6_init__40, X6_init__42, X6_init__45, X6_init__46, X6_init__49, X6_init__50, X6_init__50n, X6_init__51, X6_init__54, X6_init__55, X6_init__56, X6_init__56n, X6_init__57, X6_init__60, iOb_some, iClr_i, iClr_r, iClr_n, iClr_u, iClr_l, rf_s, rf_n, iB_0, iSum_nil, if_pos (show (16 : Int32) ≤ nI 16 by decide)]
  | succ k ih =>
    intro i hi
    have h1 := hS.st hd (tc' := 0) (pc' := 0) (se' := 1) (T' := tkE T i) (P' := P')
    have h2 : stAt (stH b a 0 0 1 (tkE T i) P') a 0 0 1 (tkE T i) P' := stH_st (by omega) (by omega)
    have hi16 : ¬ (16 : Int32) ≤ nI i := nI_ge (b := 16) (by omega) (by decide)
    rw [X6_init__39]
    cases e : T i with
    | none =>
      have w := st_st (b := b) (s := a) (tc := 0) (pc := 0) (se := 1) (T := tkE T i) (P := P') (v := none) (show i < 16 by omega) rfl
      rw [← e, tkE_up, e] at w
      simp only [X6_init__40, X6_init__42, X6_init__45, X6_init__46, X6_init__49, X6_init__50, X6_init__50n, X6_init__51, X6_init__54, X6_init__55, X6_init__56, X6_init__56n, X6_init__57, X6_init__60, iOb_some, iClr_i, iClr_r, iClr_n, iClr_u, iClr_l, rf_s, rf_n, iB_0, iSum_nil, if_neg hi16, h1.g0, h2.g0, h1.lt (show i < 16 by omega), e, w]
      rw [← nI_succ]
      exact ih (i + 1) (by omega)
    | some x =>
      have w := st_st (b := b) (s := a) (tc := 0) (pc := 0) (se := 1) (T := tkE T i) (P := P') (v := some x) (show i < 16 by omega) (iObj_st (hT i x e).1 (hT i x e).2)
      rw [← e, tkE_up, e] at w
      simp only [X6_init__40, X6_init__42, X6_init__45, X6_init__46, X6_init__49, X6_init__50, X6_init__50n, X6_init__51, X6_init__54, X6_init__55, X6_init__56, X6_init__56n, X6_init__57, X6_init__60, iOb_some, iClr_i, iClr_r, iClr_n, iClr_u, iClr_l, rf_s, rf_n, iB_0, iSum_nil, if_neg hi16, h1.g0, h2.g0, h1.lt (show i < 16 by omega), e, w]
      rw [← nI_succ]
      exact ih (i + 1) (by omega)
theorem stc_loop2 (hd : s + 3 ≤ a) (hS : stAt b s tc pc se T P) (hT : ∀ j x, P j = some x → x < a ∧ iObj b x 3 = true) {Q : Option Value → iHp → Prop} : ∀ k i, i + k = 16 → (iWp 1 mX6_init_ 65 [.ref a, .ref s, .int (nI i)] [] (stH b a 0 0 1 T' (tkE P i)) Q = iWp 1 mX6_init_ 89 [.ref a, .ref s, .int (nI 16)] [] (stH b a 0 0 1 T' (tkE P 16)) Q) := by
  intro k
  induction k with
  | zero =>
    intro i hi
    obtain rfl : i = 16 := by omega
    rw [X6_init__65]
    simp only [X6_init__66, X6_init__68, X6_init__71, X6_init__72, X6_init__75, X6_init__76, X6_init__76n, X6_init__77, X6_init__80, X6_init__81, X6_init__82, X6_init__82n, X6_init__83, X6_init__86, iOb_some, iClr_i, iClr_r, iClr_n, iClr_u, iClr_l, rf_s, rf_n, iB_0, iSum_nil, if_pos (show (16 : Int32) ≤ nI 16 by decide)]
  | succ k ih =>
    intro i hi
    have h1 := hS.st hd (tc' := 0) (pc' := 0) (se' := 1) (T' := T') (P' := tkE P i)
    have h2 : stAt (stH b a 0 0 1 T' (tkE P i)) a 0 0 1 T' (tkE P i) := stH_st (by omega) (by omega)
    have hi16 : ¬ (16 : Int32) ≤ nI i := nI_ge (b := 16) (by omega) (by decide)
    rw [X6_init__65]
    cases e : P i with
    | none =>
      have w := st_sp (b := b) (s := a) (tc := 0) (pc := 0) (se := 1) (T := T') (P := tkE P i) (v := none) (show i < 16 by omega) rfl
      rw [← e, tkE_up, e] at w
      simp only [X6_init__66, X6_init__68, X6_init__71, X6_init__72, X6_init__75, X6_init__76, X6_init__76n, X6_init__77, X6_init__80, X6_init__81, X6_init__82, X6_init__82n, X6_init__83, X6_init__86, iOb_some, iClr_i, iClr_r, iClr_n, iClr_u, iClr_l, rf_s, rf_n, iB_0, iSum_nil, if_neg hi16, h1.g1, h2.g1, h1.lp (show i < 16 by omega), e, w]
      rw [← nI_succ]
      exact ih (i + 1) (by omega)
    | some x =>
      have w := st_sp (b := b) (s := a) (tc := 0) (pc := 0) (se := 1) (T := T') (P := tkE P i) (v := some x) (show i < 16 by omega) (iObj_st (hT i x e).1 (hT i x e).2)
      rw [← e, tkE_up, e] at w
      simp only [X6_init__66, X6_init__68, X6_init__71, X6_init__72, X6_init__75, X6_init__76, X6_init__76n, X6_init__77, X6_init__80, X6_init__81, X6_init__82, X6_init__82n, X6_init__83, X6_init__86, iOb_some, iClr_i, iClr_r, iClr_n, iClr_u, iClr_l, rf_s, rf_n, iB_0, iSum_nil, if_neg hi16, h1.g1, h2.g1, h1.lp (show i < 16 by omega), e, w]
      rw [← nI_succ]
      exact ih (i + 1) (by omega)
/-- a State copied -/
theorem ev_scopy (hd : s + 3 ≤ h.2.1) (hS : stAt h s tc pc se T P) (hT : ∀ j x, T j = some x → x < h.2.1 ∧ iObj h x 7 = true) (hP : ∀ j x, P j = some x → x < h.2.1 ∧ iObj h x 3 = true) : iEv mX6_init_ [.ref h.2.1, .ref s] (iNewO h 6) none (stH (nH h [stC h.2.1 0 0 1 (fun _ => none) (fun _ => none) 0, stC h.2.1 0 0 1 (fun _ => none) (fun _ => none) 1, stC h.2.1 0 0 1 (fun _ => none) (fun _ => none) 2] (h.2.2 + 37)) h.2.1 tc pc se (tkE T 16) (tkE P 16)) := by
  refine J6_init_ (cat_r s) ?_
  rw [nH_o, iDefs6]
  simp only [X6_init__0, X6_init__1, X6_init__4, X6_init__5, X6_init__7, X6_init__10, X6_init__10n, X6_init__13, X6_init__14, X6_init__16, X6_init__19, X6_init__19n, X6_init__22, X6_init__23, X6_init__24, X6_init__27, X6_init__28, X6_init__29, X6_init__32, X6_init__33, X6_init__34, X6_init__37, X6_init__38, iOb_some, iClr_i, iClr_r, iClr_n, iClr_u, iClr_l, rf_s, rf_n, iB_0, iSum_nil, show (16 : Int32) = nI 16 from rfl, nH_aq (ci := 7) (show 16 ≤ 60000000 by decide) rfl, nH_aq (ci := 3) (show 16 ≤ 60000000 by decide) rfl, nH_next, List.length_cons, List.length_nil, List.length_append, List.cons_append, List.nil_append, nH_p5 (show 0 < 5 by decide), nH_p5 (show 1 < 5 by decide), nH_p5 (show 2 < 5 by decide), nH_p5 (show 3 < 5 by decide), nH_p5 (show 4 < 5 by decide), List.set_cons_zero, List.set_cons_succ]
  have hB : stAt (nH h [stC h.2.1 0 0 1 (fun _ => none) (fun _ => none) 0, stC h.2.1 0 0 1 (fun _ => none) (fun _ => none) 1, stC h.2.1 0 0 1 (fun _ => none) (fun _ => none) 2] (h.2.2 + 37)) h.2.1 0 0 1 (tkE T 0) (tkE P 0) := by
    rw [tkE_0, tkE_0]
    exact ⟨nH_at (k := 0) (Nat.le_of_ble_eq_true rfl), nH_at (k := 1) (Nat.le_of_ble_eq_true rfl), nH_at (k := 2) (Nat.le_of_ble_eq_true rfl), by omega, by omega⟩
  have hS0 : stAt (nH h [stC h.2.1 0 0 1 (fun _ => none) (fun _ => none) 0, stC h.2.1 0 0 1 (fun _ => none) (fun _ => none) 1, stC h.2.1 0 0 1 (fun _ => none) (fun _ => none) 2] (h.2.2 + 37)) s tc pc se T P := ⟨(nH_off (by omega)).trans hS.1, (nH_off (by omega)).trans hS.2.1, (nH_off (by omega)).trans hS.2.2.1, hS.2.2.2⟩
  have e := hB.eq
  revert e hB hS0
  generalize hb : nH h [stC h.2.1 0 0 1 (fun _ => none) (fun _ => none) 0, stC h.2.1 0 0 1 (fun _ => none) (fun _ => none) 1, stC h.2.1 0 0 1 (fun _ => none) (fun _ => none) 2] (h.2.2 + 37) = b
  intro hB hS0 e
  have hT0 : ∀ j x, T j = some x → x < h.2.1 ∧ iObj b x 7 = true := fun j x z => ⟨(hT j x z).1, by rw [← hb]; exact iObj_off (hT j x z).1 (hT j x z).2⟩
  have hP0 : ∀ j x, P j = some x → x < h.2.1 ∧ iObj b x 3 = true := fun j x z => ⟨(hP j x z).1, by rw [← hb]; exact iObj_off (hP j x z).1 (hP j x z).2⟩
  have l1 := stc_loop (a := h.2.1) (P' := tkE P 0) (Q := fun r' h' => r' = none ∧ h' = stH b h.2.1 tc pc se (tkE T 16) (tkE P 16)) hd hS0 hT0 16 0 rfl
  have l2 := stc_loop2 (a := h.2.1) (T' := tkE T 16) (Q := fun r' h' => r' = none ∧ h' = stH b h.2.1 tc pc se (tkE T 16) (tkE P 16)) hd hS0 hP0 16 0 rfl
  rw [e, show nI 0 = (0 : Int32) from rfl] at l1
  rw [show nI 0 = (0 : Int32) from rfl] at l2
  have t1 := hS0.st (a := h.2.1) hd (tc' := 0) (pc' := 0) (se' := 1) (T' := tkE T 16) (P' := tkE P 16)
  have t2 := hS0.st (a := h.2.1) hd (tc' := tc) (pc' := 0) (se' := 1) (T' := tkE T 16) (P' := tkE P 16)
  have t3 := hS0.st (a := h.2.1) hd (tc' := tc) (pc' := pc) (se' := 1) (T' := tkE T 16) (P' := tkE P 16)
  have f : iWp 1 mX6_init_ 63 [.ref h.2.1, .ref s, .int (nI 16)] [] (stH b h.2.1 0 0 1 (tkE T 16) (tkE P 0)) (fun r' h' => r' = none ∧ h' = stH b h.2.1 tc pc se (tkE T 16) (tkE P 16)) := by
    simp only [X6_init__63, X6_init__64, iOb_some, iClr_i, iClr_r, iClr_n, iClr_u, iClr_l, rf_s, rf_n, iB_0, iSum_nil]
    rw [l2]
    simp only [X6_init__89, X6_init__90, X6_init__90n, X6_init__91, X6_init__94, X6_init__97, X6_init__98, X6_init__98n, X6_init__99, X6_init__102, X6_init__105, X6_init__106, X6_init__106n, X6_init__107, X6_init__110, X6_init__113, iOb_some, iClr_i, iClr_r, iClr_n, iClr_u, iClr_l, rf_s, rf_n, iB_0, iSum_nil, t1.g2, st_pt, t2.g3, st_pp, t3.g4, st_ps, and_self]
  exact (congrArg (fun z => iWp 1 mX6_init_ 39 [.ref h.2.1, .ref s, .int 0] [] z (fun r' h' => r' = none ∧ h' = stH b h.2.1 tc pc se (tkE T 16) (tkE P 16))) hb).mpr (l1.mpr f)
end STC

/-! days: the reference -/
def dyN : Nat → dyX → dyX
  | 0, X => X
  | k + 1, X => dyN k (dyT X)
/-- a world with a tree and the seed changed -/
def wSd (W : wW) (se : Int32) : wW := wNow W (W.1.1, W.1.2.1, W.1.2.2.1, W.1.2.2.2.1, se)
def aDays (W : wW) (t n : Int32) : Int32 × wW := match iIx t W.1.1 with
  | none => (-1, wRef W 1)
  | some j => if 1 ≤ n ∧ n ≤ 60 then (nI (dyN n.toNatClampNeg (W.1.2.1 j, W.1.2.2.2.2)).1.1, wTr (wSd W (dyN n.toNatClampNeg (W.1.2.1 j, W.1.2.2.2.2)).2) j (dyN n.toNatClampNeg (W.1.2.1 j, W.1.2.2.2.2)).1) else (-6, wRef W 6)
section DAYS9
variable {h : iHp} {i j k l x m a c p q r t n : Nat} {W : wW} {b : iHp} {s s0 s1 s2 s' : mS} {U V T : tT} {se y : Int32} {X : dyX}
theorem wSd_ok (hW : wOk W) : wOk (wSd W se) := hW
theorem dyN_ok : ∀ k X, tOk X.1 → tOk (dyN k X).1 := by
  intro k
  induction k with
  | zero => intro X h; exact h
  | succ k ih => intro X h; exact ih _ (dyT_ok h)
theorem dyN_congr : ∀ k (U T : tT) se, tEq U T → tOk U → tEq (dyN k (U, se)).1 (dyN k (T, se)).1 ∧ (dyN k (U, se)).2 = (dyN k (T, se)).2 := by
  intro k
  induction k with
  | zero => intro U T se h _; exact ⟨h, rfl⟩
  | succ k ih =>
    intro U T se h hU
    obtain ⟨h1, h2⟩ := dyT_congr (se := se) h hU
    have hk := dyT_ok (X := (U, se)) hU
    have z := ih (dyT (U, se)).1 (dyT (T, se)).1 (dyT (U, se)).2 h1 hk
    show tEq (dyN k (dyT (U, se))).1 (dyN k (dyT (T, se))).1 ∧ (dyN k (dyT (U, se))).2 = (dyN k (dyT (T, se))).2
    rw [show dyT (T, se) = ((dyT (T, se)).1, (dyT (U, se)).2) from Prod.ext rfl h2.symm]
    exact z
theorem mRel.seed (hR : mRel s W) (hx : sEx LDY s s') (hs : s'.1 10 = se) : mRel s' (wSd W se) := by
  have h0 : mRel (va_up s'.1 10 (s.1 10), va_up s'.2.1 10 (s.2.1 10), s'.2.2) W := by
    refine hR.ex ⟨fun k hk => ?_, fun k hk => ?_, hx.2.2⟩
    · show va_up s'.1 10 (s.1 10) k = s.1 k
      unfold va_up
      by_cases c : k = 10
      · rw [if_pos c, c]
      · rw [if_neg c]
        exact hx.1 k (by simp at hk ⊢; omega)
    · show va_up s'.2.1 10 (s.2.1 10) k = s.2.1 k
      unfold va_up
      by_cases c : k = 10
      · rw [if_pos c, c]
      · rw [if_neg c]
        exact hx.2.1 k (by simp at hk ⊢; omega)
  obtain ⟨b1, b2, b3, b4, b5⟩ := h0.1
  refine h0.now (w := (W.1.1, W.1.2.1, W.1.2.2.1, W.1.2.2.2.1, se)) (fun q hq => ?_) (fun q hq => ?_) rfl ⟨b1, b2, hs, b4, b5⟩
  · show s'.1 q = va_up s'.1 10 (s.1 10) q
    exact (if_neg (fun z => hq (by rw [z]; decide))).symm
  · show s'.2.1 q = va_up s'.2.1 10 (s.2.1 10) q
    exact (if_neg (fun z => hq (by rw [z]; decide))).symm
theorem days9_loop {Q : Option Value → iHp → Prop} (hm : m ≤ 60) : ∀ k i s1 U X, i + k = m → sEx LDY s0 s1 → wIs s1 U → tEq U X.1 → tOk X.1 → s1.1 10 = X.2 → (∀ s2 V, sEx LDY s0 s2 → wIs s2 V → tEq V (dyN k X).1 → s2.1 10 = (dyN k X).2 → iWp 5 mX9_days 53 [.ref x, .int y, .int (nI m), .int (nI m)] [] (mH b x s2) Q) → iWp 5 mX9_days 38 [.ref x, .int y, .int (nI m), .int (nI i)] [] (mH b x s1) Q := by
  intro k
  induction k with
  | zero =>
    intro i s1 U X hi hx hw hE hT hs hQ
    obtain rfl : i = m := by omega
    rw [X9_days_38]
    simp only [X9_days_39, X9_days_40, iOb_some, iClr_i, iClr_r, iClr_n, iClr_u, iClr_l, rf_s, rf_n, iB_0, iSum_nil, if_pos (Int32.le_refl (nI i))]
    exact hQ s1 U hx hw hE hs
  | succ k ih =>
    intro i s1 U X hi hx hw hE hT hs hQ
    have hU := hE.symm.ok hT
    obtain ⟨r, h1, ev, hr, s2, U2, e1, e2, e3, e4, e5⟩ := ev9_day (b := b) (x := x) hw hU
    subst hr
    subst e1
    rw [X9_days_38]
    simp only [X9_days_39, X9_days_40, X9_days_43, X9_days_44 ev mH_obj, X9_days_47, X9_days_50, iOb_some, iClr_i, iClr_r, iClr_n, iClr_u, iClr_l, rf_s, rf_n, iB_0, iSum_nil, if_neg (nI_ge (show i < m by omega) (show m < 2 ^ 31 by omega)), nI_1]
    rw [hs] at e3 e4
    obtain ⟨c1, c2⟩ := dyT_congr (se := X.2) hE hU
    exact ih (i + 1) s2 U2 (dyT X) (by omega) (hx.trans e5) e2 (e3.trans c1) (dyT_ok hT) (e4.trans c2) hQ
theorem m9_days (hR : mRel s W) (hW : wOk W) (v y : Int32) : ∃ r h1, iEv mX9_days [.ref x, .int v, .int y] (mH b x s) r h1 ∧ m9P b x (aDays W v y) r h1 := by
  refine I9_days ?_
  unfold aDays
  have hn2 : W.1.1 < 2 ^ 31 := by have := hW.1.1; omega
  have et := ev9_isTree (b := b) (x := x) hR.1 hW.1.1 (t := v)
  rcases iIx_cases v hn2 with ⟨e, z⟩ | ⟨j, hj, rfl, e⟩
  · rw [e] at et ⊢
    simp only [X9_days_0, X9_days_1, X9_days_2 et mH_obj, X9_days_5, X9_days_8, X9_days_9, X9_days_10 (ev9_noV (v := -1) (r := 1) (by decide) rfl) mH_obj, X9_days_13, iOb_some, iClr_i, iClr_r, iClr_n, iClr_u, iClr_l, rf_s, rf_n, iB_0, iSum_nil, Option.isSome_none, if_true]
    exact m9_rf hR (by decide)
  · rw [e] at et ⊢
    dsimp only
    have ew := ev9_within y 1 60 (h := mH b x s)
    by_cases c : 1 ≤ y ∧ y ≤ 60
    · rw [if_pos c]
      rw [decide_eq_true c.1, decide_eq_true c.2, show iB (true && true) = 1 from rfl] at ew
      obtain ⟨m, rfl, hm⟩ : ∃ m, y = nI m ∧ m ≤ 60 := by
        obtain ⟨m, hm, rfl⟩ := nI_of (x := y) (fun z => absurd (Int32.le_trans c.1 (Int32.le_of_lt z)) (by decide))
        exact ⟨m, rfl, (nI_leI (a := m) (b := 60) (by omega) (by decide)).mp c.2⟩
      rw [nI_clamp (show m < 2 ^ 31 by omega)]
      have hj16 : j < 16 := by have := hW.1.1; omega
      obtain ⟨U, s1, e1, e2, e3, e4⟩ := ev9_loadsR (b := b) (x := x) hR.1 hW.1 hj
      have hT := hW.1.2.2.1 j hj
      have hs : s1.1 10 = W.1.2.2.2.2 := (e4.1 10 (by decide)).trans hR.1.2.2.1
      have hk := dyN_ok m (W.1.2.1 j, W.1.2.2.2.2) hT
      simp only [X9_days_0, X9_days_1, X9_days_2 et mH_obj, X9_days_5, X9_days_8, X9_days_9, X9_days_13, X9_days_14, X9_days_15, X9_days_16, X9_days_18 ew, X9_days_21, X9_days_24, X9_days_25, X9_days_30, X9_days_31, X9_days_32, X9_days_33 e1 mH_obj, X9_days_36, X9_days_37, iOb_some, iClr_i, iClr_r, iClr_n, iClr_u, iClr_l, rf_s, rf_n, iB_0, iSum_nil, Option.isSome_some, if_neg (by decide : ¬ (1 : Int32) = 0)]
      refine days9_loop (s0 := s) hm m 0 s1 U (W.1.2.1 j, W.1.2.2.2.2) (by omega) (e4.mono (by decide)) e2 e3 hT hs (fun s2 V x2 w2 t2 q2 => ?_)
      generalize dyN m (W.1.2.1 j, W.1.2.2.2.2) = X at hk t2 q2 ⊢
      have hL := hR.seed x2 q2
      have hV := (t2.symm.ok hk).1.le
      obtain ⟨s3, f1, f2, f3, f4, -⟩ := ev9_laysR (b := b) (x := x) hL (wSd_ok hW) (Nat.le_of_lt hj) hj16 w2 hV t2
      simp only [X9_days_53, X9_days_54, X9_days_55 f1 mH_obj, X9_days_58, X9_days_59, X9_days_62, X9_days_63, X9_days_64, iOb_some, iClr_i, iClr_r, iClr_n, iClr_u, iClr_l, rf_s, rf_n, iB_0, iSum_nil, mg1, ml1 hj16, f4]
      rw [t2.1]
      exact m9_same f2
    · rw [if_neg c]
      rw [show iB (decide (1 ≤ y) && decide (y ≤ 60)) = 0 from by
        rw [← Bool.decide_and, decide_eq_false c]
        rfl] at ew
      simp only [X9_days_0, X9_days_1, X9_days_2 et mH_obj, X9_days_5, X9_days_8, X9_days_9, X9_days_13, X9_days_14, X9_days_15, X9_days_16, X9_days_18 ew, X9_days_21, X9_days_24, X9_days_25, X9_days_27 (ev9_noV (v := -6) (r := 6) (by decide) rfl) mH_obj, X9_days_30, iOb_some, iClr_i, iClr_r, iClr_n, iClr_u, iClr_l, rf_s, rf_n, iB_0, iSum_nil, Option.isSome_some, if_neg (by decide : ¬ (1 : Int32) = 0), if_true]
      exact m9_rf hR (by decide)
end DAYS9

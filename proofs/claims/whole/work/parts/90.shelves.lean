/-! shelves written: the reference's row; show, set on both sides -/
section SHELVES
variable {h h' : iHp} {o sN n k i j x m a q : Nat} {im : Option Nat} {R E T P : Nat → Option Nat} {sh rf C : Nat → Int32} {W : wW} {b : iHp} {s s' : mS} {v : Int32} {f g : Nat → Int64} {so : Int32}
/-- a shelf of the reference's written -/
theorem mRel.shf (hR : mRel s W) (hi : i < 8) {z : hS} (h1 : s'.1 = s.1) (h2 : ∀ k, k ≠ 11 → k ≠ 12 → s'.2.1 k = s.2.1 k) (h3 : ∀ j, j ≠ i → s'.2.1 11 j = s.2.1 11 j ∧ s'.2.1 12 j = s.2.1 12 j) (h4 : ∀ j q, j < 8 → j ≠ i → q < 160 → s'.2.2 (160 * j + q) = s.2.2 (160 * j + q)) (h5 : mSh s' i z) (hW : wOk W) : mRel s' (wSh W i z) := by
  obtain ⟨a1, a2, a3, a4, a5, a6⟩ := hR
  have e2 : ∀ k, k ≠ 11 → k ≠ 12 → s.2.1 k = s'.2.1 k := fun k u w => (h2 k u w).symm
  refine ⟨?_, ?_, fun j hj => ?_, ?_, ?_, ?_⟩
  · unfold mNow at a1 ⊢
    rw [h1, h2 1 (by decide) (by decide), h2 2 (by decide) (by decide), h2 3 (by decide) (by decide), h2 4 (by decide) (by decide), h2 7 (by decide) (by decide), h2 8 (by decide) (by decide), h2 9 (by decide) (by decide)]
    exact a1
  · show (match W.2.1 with
      | none => s'.1 30 = 0
      | some w => s'.1 30 = 1 ∧ mOld s' w)
    unfold mOld at a2 ⊢
    rw [h1, h2 32 (by decide) (by decide), h2 33 (by decide) (by decide), h2 34 (by decide) (by decide), h2 35 (by decide) (by decide), h2 37 (by decide) (by decide), h2 38 (by decide) (by decide), h2 39 (by decide) (by decide)]
    exact a2
  · show mSh s' j (va_up W.2.2.1 i z j)
    unfold va_up
    by_cases c : j = i
    · rw [if_pos c, c]
      exact h5
    · rw [if_neg c]
      obtain ⟨b1, b2⟩ := a3 j hj
      obtain ⟨c1, c2⟩ := h3 j c
      refine ⟨c1.trans b1, fun r hr => ?_⟩
      obtain ⟨d1, d2⟩ := b2 r hr
      refine ⟨c2.trans d1, fun q hq => ?_⟩
      have h8 := hW.2.2 j hj
      unfold shOk at h8
      rw [hr] at h8
      have := h8.2.1
      rw [h4 j q hj c (by omega)]
      exact d2 q hq
  · intro k hk
    rw [h2 17 (by decide) (by decide)]
    exact a4 k hk
  · rw [h1]
    exact a5
  · rw [h1]
    exact a6
/-- some of the reference's row elements become 0 -/
def mZr (s : mS) (i k : Nat) : mS := (s.1, s.2.1, fun q => if 160 * i ≤ q ∧ q < 160 * i + k then 0 else s.2.2 q)
theorem mZr_0 : mZr s i 0 = s := by
  refine wS_ext rfl (fun _ => rfl) (funext fun q => if_neg (by omega))
theorem mZr_s : mPutL (mZr s i k) (160 * i + k) 0 = mZr s i (k + 1) := by
  refine wS_ext rfl (fun _ => rfl) (funext fun q => ?_)
  show (if q = 160 * i + k then 0 else (if 160 * i ≤ q ∧ q < 160 * i + k then 0 else s.2.2 q)) = if 160 * i ≤ q ∧ q < 160 * i + (k + 1) then 0 else s.2.2 q
  by_cases c : q = 160 * i + k
  · rw [if_pos c, if_pos (by omega)]
  · rw [if_neg c]
    by_cases c2 : 160 * i ≤ q ∧ q < 160 * i + k
    · rw [if_pos c2, if_pos (by omega)]
    · rw [if_neg c2, if_neg (by omega)]
theorem row9_loop (hi : i < 8) (a2 : Value) (y3 : Int32) {Q : Option Value → iHp → Prop} : ∀ k r, r + k = 160 → (iWp 2 mX9_row 77 [.ref x, .int (nI i), a2, .int y3, .int (nI r)] [] (mH b x (mZr s i r)) Q = Q (some (.int 1)) (mH b x (mZr s i 160))) := by
  intro k
  induction k with
  | zero =>
    intro r hr
    obtain rfl : r = 160 := by omega
    rw [X9_row_77]
    simp only [X9_row_79, X9_row_82, X9_row_85, X9_row_86, X9_row_89, X9_row_92, X9_row_93, X9_row_94, X9_row_96, X9_row_97, X9_row_98, X9_row_99, X9_row_102, X9_row_105, X9_row_106, iOb_some, iClr_i, iClr_r, iClr_n, iClr_u, iClr_l, rf_s, rf_n, iB_0, iSum_nil, if_pos (show (160 : Int32) ≤ nI 160 by decide)]
  | succ k ih =>
    intro r hr
    rw [X9_row_77]
    simp only [X9_row_79, X9_row_82, X9_row_85, X9_row_86, X9_row_89, X9_row_92, X9_row_93, X9_row_94, X9_row_96, X9_row_97, X9_row_98, X9_row_99, X9_row_102, X9_row_105, X9_row_106, iOb_some, iClr_i, iClr_r, iClr_n, iClr_u, iClr_l, rf_s, rf_n, iB_0, iSum_nil, if_neg (show ¬ (160 : Int32) ≤ nI r from nI_ge (b := 160) (by omega) (by decide)), mg13, i160, ms13 (show 160 * i + r < 1280 by omega), mZr_s, nI_1]
    exact ih (r + 1) (by omega)
theorem m9_row (hR : mRel s W) (hW : wOk W) (v so y : Int32) : ∃ r h1, iEv mX9_row [.ref x, .int v, .int so, .int y] (mH b x s) r h1 ∧ m9P b x (aRow W v so y) r h1 := by
  refine I9_row ?_
  unfold aRow
  have ew := ev9_wi7 (i := v) (h := mH b x s)
  have ew2 := ev9_wiN (i := so) (n := 4) (m1 := 3) (by decide) rfl (h := mH b x s)
  rcases iIx_cases v (n := 8) (by decide) with ⟨e, z⟩ | ⟨j, hj, rfl, e⟩
  · rw [e] at ew ⊢
    simp only [X9_row_0, X9_row_1, X9_row_2, X9_row_4 ew, X9_row_7, X9_row_10, X9_row_11, X9_row_12 (ev9_noV (v := -1) (r := 1) (by decide) rfl) mH_obj, X9_row_15, iOb_some, iClr_i, iClr_r, iClr_n, iClr_u, iClr_l, rf_s, rf_n, iB_0, iSum_nil, Option.isSome_none, if_true]
    exact m9_rf hR (by decide)
  · rw [e] at ew ⊢
    dsimp only
    by_cases c : y < 0
    · rw [if_pos c]
      simp only [X9_row_0, X9_row_1, X9_row_2, X9_row_4 ew, X9_row_7, X9_row_10, X9_row_11, X9_row_15, X9_row_16, X9_row_17, X9_row_20, X9_row_21, X9_row_23 (ev9_noV (v := -4) (r := 4) (by decide) rfl) mH_obj, X9_row_26, iOb_some, iClr_i, iClr_r, iClr_n, iClr_u, iClr_l, rf_s, rf_n, iB_0, iSum_nil, Option.isSome_some, Bool.true_eq_false, if_false, if_neg (Int32.not_le.mpr c)]
      exact m9_rf hR (by decide)
    rw [if_neg c]
    rcases iIx_cases so (n := 4) (by decide) with ⟨f, y2⟩ | ⟨l, hl, rfl, f⟩
    · rw [f] at ew2 ⊢
      simp only [X9_row_0, X9_row_1, X9_row_2, X9_row_4 ew, X9_row_7, X9_row_10, X9_row_11, X9_row_15, X9_row_16, X9_row_17, X9_row_20, X9_row_21, X9_row_26, X9_row_27, X9_row_28, X9_row_29, X9_row_30 ew2, X9_row_33, X9_row_36, X9_row_37, X9_row_39 (ev9_noV (v := -6) (r := 6) (by decide) rfl) mH_obj, X9_row_42, iOb_some, iClr_i, iClr_r, iClr_n, iClr_u, iClr_l, rf_s, rf_n, iB_0, iSum_nil, Option.isSome_some, Option.isSome_none, Bool.true_eq_false, if_false, if_true, if_pos (Int32.not_lt.mp c)]
      exact m9_rf hR (by decide)
    · rw [f] at ew2 ⊢
      dsimp only
      by_cases c4 : 160 < y
      · rw [if_pos c4]
        simp only [X9_row_0, X9_row_1, X9_row_2, X9_row_4 ew, X9_row_7, X9_row_10, X9_row_11, X9_row_15, X9_row_16, X9_row_17, X9_row_20, X9_row_21, X9_row_26, X9_row_27, X9_row_28, X9_row_29, X9_row_30 ew2, X9_row_33, X9_row_36, X9_row_37, X9_row_42, X9_row_43, X9_row_44, X9_row_47, X9_row_50, X9_row_51, X9_row_53 (ev9_noV (v := -7) (r := 7) (by decide) rfl) mH_obj, X9_row_56, iOb_some, iClr_i, iClr_r, iClr_n, iClr_u, iClr_l, rf_s, rf_n, iB_0, iSum_nil, Option.isSome_some, Bool.true_eq_false, if_false, if_pos (Int32.not_lt.mp c), if_neg (Int32.not_le.mpr c4)]
        exact m9_rf hR (by decide)
      · rw [if_neg c4]
        obtain ⟨m, hm, rfl⟩ := nI_of2 (M := 160) (n := 160) rfl c (Int32.not_lt.mp c4)
        rw [nI_clamp (by omega)]
        simp only [X9_row_0, X9_row_1, X9_row_2, X9_row_4 ew, X9_row_7, X9_row_10, X9_row_11, X9_row_15, X9_row_16, X9_row_17, X9_row_20, X9_row_21, X9_row_26, X9_row_27, X9_row_28, X9_row_29, X9_row_30 ew2, X9_row_33, X9_row_36, X9_row_37, X9_row_42, X9_row_43, X9_row_44, X9_row_47, X9_row_50, X9_row_51, X9_row_56, X9_row_57, X9_row_58, X9_row_61, X9_row_62, X9_row_64, X9_row_65, X9_row_66, X9_row_67, X9_row_68, X9_row_71, X9_row_72, X9_row_73, X9_row_74, X9_row_75, iOb_some, iClr_i, iClr_r, iClr_n, iClr_u, iClr_l, rf_s, rf_n, iB_0, iSum_nil, Option.isSome_some, Bool.true_eq_false, if_false, if_pos (Int32.not_lt.mp c), if_pos (Int32.not_lt.mp c4), mg11, ms11 hj, mg12, ms12 hj]
        have lp := row9_loop (b := b) (x := x) (s := mPut (mPut s 11 j (100 + nI l)) 12 j (nI m)) hj (.int (nI l)) (nI m) (Q := m9P b x (1, wSh W j (some (nI l, m, fun _ => 0), -1))) 160 0 (by omega)
        rw [mZr_0] at lp
        refine lp.mpr ⟨rfl, _, rfl, hR.shf hj rfl (fun k k1 k2 => ?_) (fun q hq => ⟨?_, ?_⟩) (fun q r hq1 hq2 hr => ?_) ⟨?_, fun r hr => ?_⟩ hW⟩
        · show va_up (va_up s.2.1 11 _) 12 _ k = _
          unfold va_up
          rw [if_neg k2, if_neg k1]
        · show va_up (va_up s.2.1 11 (upd (s.2.1 11) j (100 + nI l))) 12 (upd (va_up s.2.1 11 (upd (s.2.1 11) j (100 + nI l)) 12) j (nI m)) 11 q = s.2.1 11 q
          unfold va_up upd
          rw [if_neg (by decide), if_pos rfl, if_neg hq]
        · show va_up (va_up s.2.1 11 (upd (s.2.1 11) j (100 + nI l))) 12 (upd (va_up s.2.1 11 (upd (s.2.1 11) j (100 + nI l)) 12) j (nI m)) 12 q = _
          unfold va_up upd
          rw [if_pos rfl, if_neg hq, if_neg (by decide)]
        · show (if 160 * j ≤ 160 * q + r ∧ 160 * q + r < 160 * j + 160 then 0 else s.2.2 (160 * q + r)) = _
          rw [if_neg (by omega)]
        · show va_up (va_up s.2.1 11 (upd (s.2.1 11) j (100 + nI l))) 12 (upd (va_up s.2.1 11 (upd (s.2.1 11) j (100 + nI l)) 12) j (nI m)) 11 j = hHold (some (nI l, m, fun _ => 0), -1)
          unfold va_up upd
          rw [if_neg (by decide), if_pos rfl, if_pos rfl]
          rfl
        · cases hr
          refine ⟨?_, fun q hq => ?_⟩
          · show va_up (va_up s.2.1 11 (upd (s.2.1 11) j (100 + nI l))) 12 (upd (va_up s.2.1 11 (upd (s.2.1 11) j (100 + nI l)) 12) j (nI m)) 12 j = nI m
            unfold va_up upd
            rw [if_pos rfl, if_pos rfl]
          · show (if 160 * j ≤ 160 * j + q ∧ 160 * j + q < 160 * j + 160 then 0 else s.2.2 (160 * j + q)) = 0
            have hq : q < m := hq
            rw [if_pos (by omega)]
-- show
def aShow (W : wW) (s p : Int32) : Int32 × wW := match iIx s 8 with
  | none => (-1, wRef W 1)
  | some i => if p = -1 then (0, wSh W i (none, -1)) else match iIx p W.1.2.2.1 with
    | none => (-1, wRef W 1)
    | some _ => (1, wSh W i (none, p))
theorem c8_show (hR : cRep h o W) (hW : wOk W) (s p : Int32) : ∃ r h1, iEv mX8_show [.ref o, .int s, .int p] h r h1 ∧ c8P h o (aShow W s p) r h1 := by
  obtain ⟨sN, im, R, sh, rf, n, k, E, C, T, P, hR⟩ := hR
  refine I8_show ?_
  unfold aShow
  have es := c8_isShelf (h := h) s
  have fin : ∀ j, j < 8 → ∀ u v : Int32, c8P h o (u, wSh W j (none, v)) (some (.int u)) (iSet (iSet h (o + 1) (cRow (va_up R j none))) (o + 2) (cShw (upd sh j v))) := by
    intro j hj u v
    refine ⟨rfl, ⟨sN, im, _, _, rf, n, k, E, C, T, P, hR.setSh (hR.2.2.2.2.2.2.1.put hj (r := none) (z := (none, v)) ⟨rfl, trivial⟩ (fun _ _ _ _ _ z => by cases z))⟩, ?_, Nat.le_refl _, Nat.le_add_right _ _, Nat.le_refl _, Nat.le_add_right _ _⟩
    exact (frZ.set (Or.inl ⟨by omega, by omega⟩)).trans (frZ.set (Or.inl ⟨by omega, by omega⟩))
  rcases iIx_cases s (n := 8) (by decide) with ⟨e, z⟩ | ⟨j, hj, rfl, e⟩
  · rw [e] at es ⊢
    simp only [X8_show_0, X8_show_1 es, X8_show_4, X8_show_7, X8_show_8, X8_show_9 (ev8_refuse hR (v := -1) (r := 1) (by decide) (by decide) rfl) hR.ob, X8_show_12, iOb_some, iClr_i, iClr_r, iClr_n, iClr_u, iClr_l, rf_s, rf_n, iB_0, iSum_nil, Option.isSome_none, if_true]
    exact c8_end hR (by decide)
  · rw [e] at es ⊢
    dsimp only
    by_cases c : p = -1
    · rw [if_pos c]
      simp only [X8_show_0, X8_show_1 es, X8_show_4, X8_show_7, X8_show_8, X8_show_12, X8_show_13, X8_show_14, X8_show_15, X8_show_18, X8_show_19, X8_show_23, X8_show_23n, X8_show_26, X8_show_27, X8_show_31, X8_show_32, X8_show_33, X8_show_36, X8_show_37, X8_show_38, X8_show_38n, X8_show_39, X8_show_40, X8_show_43, X8_show_44, X8_show_45, X8_show_46, X8_show_47, X8_show_48, X8_show_51, X8_show_52, X8_show_55, X8_show_56, iOb_some, iClr_i, iClr_r, iClr_n, iClr_u, iClr_l, rf_s, rf_n, iB_0, iSum_nil, Option.isSome_some, Bool.true_eq_false, if_false, if_pos c, hR.g0, hR.stR hj (r := none) rfl, hR.g1r, hR.stS hj]
      rw [c]
      exact fin j hj 0 (-1)
    · rw [if_neg c]
      have hp16 := hW.1.2.1
      rcases iIx_cases p (n := W.1.2.2.1) (by omega) with ⟨f, y⟩ | ⟨l, hl, rfl, f⟩
      · rw [f]
        simp only [X8_show_0, X8_show_1 es, X8_show_4, X8_show_7, X8_show_8, X8_show_12, X8_show_13, X8_show_14, X8_show_15, X8_show_18, X8_show_19, X8_show_20 (c8_patchN hR y) hR.ob, X8_show_23, X8_show_23n, X8_show_26, X8_show_27, X8_show_28 (ev8_refuse hR (v := -1) (r := 1) (by decide) (by decide) rfl) hR.ob, X8_show_31, iOb_some, iClr_i, iClr_r, iClr_n, iClr_u, iClr_l, rf_s, rf_n, iB_0, iSum_nil, Option.isSome_some, Bool.true_eq_false, if_false, if_neg c]
        exact c8_end hR (by decide)
      · rw [f]
        obtain ⟨a, e1, hB⟩ := c8_patch hR hl
        simp only [X8_show_0, X8_show_1 es, X8_show_4, X8_show_7, X8_show_8, X8_show_12, X8_show_13, X8_show_14, X8_show_15, X8_show_18, X8_show_19, X8_show_20 e1 hR.ob, X8_show_23, X8_show_23n, X8_show_26, X8_show_27, X8_show_31, X8_show_32, X8_show_33, X8_show_36, X8_show_37, X8_show_38, X8_show_38n, X8_show_39, X8_show_40, X8_show_43, X8_show_44, X8_show_45, X8_show_46, X8_show_47, X8_show_48, X8_show_51, X8_show_52, X8_show_55, X8_show_56, iOb_some, iClr_i, iClr_r, iClr_n, iClr_u, iClr_l, rf_s, rf_n, iB_0, iSum_nil, Option.isSome_some, Bool.true_eq_false, if_false, if_neg c, hR.g0, hR.stR hj (r := none) rfl, hR.g1r, hR.stS hj]
        exact fin j hj 1 (nI l)
theorem m9_show (hR : mRel s W) (hW : wOk W) (v p : Int32) : ∃ r h1, iEv mX9_show [.ref x, .int v, .int p] (mH b x s) r h1 ∧ m9P b x (aShow W v p) r h1 := by
  refine I9_show ?_
  unfold aShow
  have ew := ev9_wi7 (i := v) (h := mH b x s)
  have ep := ev9_isPatch (b := b) (x := x) hR.1 hW.1.2.1 (t := p)
  have fin : ∀ j, j < 8 → ∀ u v : Int32, m9P b x (u, wSh W j (none, v)) (some (.int u)) (mH b x (mPut s 11 j v)) := by
    intro j hj u v
    refine ⟨rfl, _, rfl, hR.shf hj rfl (fun k k1 k2 => ?_) (fun q hq => ⟨?_, ?_⟩) (fun q r hq1 hq2 hr => rfl) ⟨?_, fun r hr => by cases hr⟩ hW⟩
    · show va_up s.2.1 11 _ k = _
      unfold va_up
      rw [if_neg k1]
    · show va_up s.2.1 11 (upd (s.2.1 11) j v) 11 q = _
      unfold va_up upd
      rw [if_pos rfl, if_neg hq]
    · show va_up s.2.1 11 (upd (s.2.1 11) j v) 12 q = s.2.1 12 q
      unfold va_up
      rw [if_neg (by decide)]
    · show va_up s.2.1 11 (upd (s.2.1 11) j v) 11 j = v
      unfold va_up upd
      rw [if_pos rfl, if_pos rfl]
  rcases iIx_cases v (n := 8) (by decide) with ⟨e, z⟩ | ⟨j, hj, rfl, e⟩
  · rw [e] at ew ⊢
    simp only [X9_show_0, X9_show_1, X9_show_2, X9_show_4 ew, X9_show_7, X9_show_10, X9_show_11, X9_show_12, X9_show_15, X9_show_16, X9_show_20, X9_show_23, X9_show_24, X9_show_25 (ev9_noV (v := -1) (r := 1) (by decide) rfl) mH_obj, X9_show_28, iOb_some, iClr_i, iClr_r, iClr_n, iClr_u, iClr_l, rf_s, rf_n, iB_0, iSum_nil, Option.isSome_none, if_true]
    exact m9_rf hR (by decide)
  · rw [e] at ew ⊢
    dsimp only
    by_cases c : p = -1
    · rw [if_pos c]
      simp only [X9_show_0, X9_show_1, X9_show_2, X9_show_4 ew, X9_show_7, X9_show_10, X9_show_11, X9_show_12, X9_show_15, X9_show_16, X9_show_20, X9_show_23, X9_show_24, X9_show_28, X9_show_29, X9_show_30, X9_show_33, X9_show_34, X9_show_35, X9_show_36, X9_show_37, X9_show_38, X9_show_41, X9_show_42, X9_show_45, X9_show_46, iOb_some, iClr_i, iClr_r, iClr_n, iClr_u, iClr_l, rf_s, rf_n, iB_0, iSum_nil, Option.isSome_some, Bool.true_eq_false, if_false, if_pos c, mg11, ms11 hj]
      rw [c]
      exact fin j hj 0 (-1)
    · rw [if_neg c]
      have hp16 := hW.1.2.1
      rcases iIx_cases p (n := W.1.2.2.1) (by omega) with ⟨f, y⟩ | ⟨l, hl, rfl, f⟩
      · rw [f] at ep ⊢
        simp only [X9_show_0, X9_show_1, X9_show_2, X9_show_4 ew, X9_show_7, X9_show_10, X9_show_11, X9_show_12, X9_show_15, X9_show_16, X9_show_17 ep mH_obj, X9_show_20, X9_show_23, X9_show_24, X9_show_25 (ev9_noV (v := -1) (r := 1) (by decide) rfl) mH_obj, X9_show_28, iOb_some, iClr_i, iClr_r, iClr_n, iClr_u, iClr_l, rf_s, rf_n, iB_0, iSum_nil, Option.isSome_some, Option.isSome_none, Bool.true_eq_false, if_false, if_true, if_neg c]
        exact m9_rf hR (by decide)
      · rw [f] at ep ⊢
        simp only [X9_show_0, X9_show_1, X9_show_2, X9_show_4 ew, X9_show_7, X9_show_10, X9_show_11, X9_show_12, X9_show_15, X9_show_16, X9_show_17 ep mH_obj, X9_show_20, X9_show_23, X9_show_24, X9_show_28, X9_show_29, X9_show_30, X9_show_33, X9_show_34, X9_show_35, X9_show_36, X9_show_37, X9_show_38, X9_show_41, X9_show_42, X9_show_45, X9_show_46, iOb_some, iClr_i, iClr_r, iClr_n, iClr_u, iClr_l, rf_s, rf_n, iB_0, iSum_nil, Option.isSome_some, Bool.true_eq_false, if_false, if_neg c, mg11, ms11 hj]
        exact fin j hj 1 (nI l)
end SHELVES

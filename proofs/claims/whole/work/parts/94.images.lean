/-! drop, seed, image on both sides -/
section IMAGES
variable {h h' : iHp} {o sN n k i j l x m a c p q t : Nat} {im : Option Nat} {R E T P : Nat → Option Nat} {sh rf C : Nat → Int32} {W : wW} {b : iHp} {s s' : mS} {v : Int32} {w : sT}
theorem mStt_copy {tr pa sd : Int32} {sz ky lb dp tl ed cf sz' ky' lb' dp' tl' ed' cf' : Nat → Int32} (h : mStt tr sz ky lb dp pa tl ed cf sd w) (hw : sOk w) (h1 : ∀ j, j < 16 → sz' j = sz j) (h2 : ∀ j, j < 1024 → ky' j = ky j) (h3 : ∀ j, j < 1024 → lb' j = lb j) (h4 : ∀ j, j < 1024 → dp' j = dp j) (h5 : ∀ j, j < 80 → tl' j = tl j) (h6 : ∀ j, j < 13440 → ed' j = ed j) (h7 : ∀ j, j < 3840 → cf' j = cf j) : mStt tr sz' ky' lb' dp' pa tl' ed' cf' sd w := by
  obtain ⟨a1, a2, a3, a4, a5⟩ := h
  have t16 := hw.1
  have p16 := hw.2.1
  refine ⟨a1, a2, a3, fun t ht => ?_, fun p hp => ?_⟩
  · obtain ⟨b1, b2⟩ := a4 t ht
    have h60 := (hw.2.2.1 t ht).1.le
    refine ⟨(h1 t (by omega)).trans b1, fun i hi => ?_⟩
    obtain ⟨c1, c2, c3⟩ := b2 i hi
    exact ⟨(h2 _ (by omega)).trans c1, (h3 _ (by omega)).trans c2, (h4 _ (by omega)).trans c3⟩
  · obtain ⟨b1, b2, b3, b4, b5, b6, b7⟩ := a5 p hp
    have q1 := (hw.2.2.2 p hp).1
    have q2 := (hw.2.2.2 p hp).2.1
    exact ⟨(h5 _ (by omega)).trans b1, (h5 _ (by omega)).trans b2, (h5 _ (by omega)).trans b3, (h5 _ (by omega)).trans b4, (h5 _ (by omega)).trans b5, fun i k hi hk => (h6 _ (by omega)).trans (b6 i k hi hk), fun j hj => (h7 _ (by omega)).trans (b7 j hj)⟩
-- drop
def aDrop (W : wW) (t : Int32) : Int32 × wW := match iIx t W.1.1 with
  | none => (-1, wRef W 1)
  | some j => if j + 1 = W.1.1 then (nI j, wNow W (j, W.1.2)) else (-6, wRef W 6)
theorem c8_drop (hR : cRep h o W) (hW : wOk W) (t : Int32) : ∃ r h1, iEv mX8_drop [.ref o, .int t] h r h1 ∧ c8P h o (aDrop W t) r h1 := by
  obtain ⟨sN, im, R, sh, rf, n, k, E, C, T, P, hR⟩ := hR
  refine I8_drop ?_
  unfold aDrop
  have t16 := hW.1.1
  rcases iIx_cases t (n := W.1.1) (by omega) with ⟨e, z⟩ | ⟨j, hj, rfl, e⟩
  · rw [e]
    simp only [X8_drop_0, X8_drop_1, X8_drop_2 (c8_treeN hR z) hR.ob, X8_drop_5, X8_drop_5n, X8_drop_8, X8_drop_9, X8_drop_10 (ev8_refuse hR (v := -1) (r := 1) (by decide) (by decide) rfl) hR.ob, X8_drop_13, iOb_some, iClr_i, iClr_r, iClr_n, iClr_u, iClr_l, rf_s, rf_n, iB_0, iSum_nil]
    exact c8_end hR (by decide)
  · rw [e]
    dsimp only
    obtain ⟨a, K, B, D, e1, e2, e3, e4⟩ := c8_tree hR hj
    have hS := hR.2.2.1
    by_cases c : j + 1 = W.1.1
    · rw [if_pos c]
      have ed := ev_sdrop (b := h) (s := sN) (tc := j) (pc := W.1.2.2.1) (se := W.1.2.2.2.2) (T := T) (P := P) (by omega) hW.1.2.1
      rw [c, hR.steq] at ed
      have hd : dI W.1.1 = nI j := by rw [← c, dI_c]
      have hb : bSt h o sN (va_up T j none) P (j, W.1.2) := by
        obtain ⟨b1, b2, b3, b4⟩ := hR.2.2.2.2.1
        refine ⟨fun q hq => ?_, b2, fun q y hq => ?_, b4⟩
        · have hq : q < j := hq
          obtain ⟨t, t1, t2⟩ := b1 q (by omega)
          exact ⟨t, (if_neg (by omega)).trans t1, t2⟩
        · unfold va_up at hq
          split at hq
          · cases hq
          · exact b3 q y hq
      have hR2 := hR.setS (w := (j, W.1.2)) (show j ≤ 16 by omega) hW.1.2.1 hb
      have hS2 : stAt (stH h sN j W.1.2.2.1 W.1.2.2.2.2 (va_up T j none) P) sN j W.1.2.2.1 W.1.2.2.2.2 (va_up T j none) P := stH_st (by omega) hW.1.2.1
      simp only [X8_drop_0, X8_drop_1, X8_drop_2 e1 hR.ob, X8_drop_5, X8_drop_5n, X8_drop_8, X8_drop_9, X8_drop_13, X8_drop_14, X8_drop_15, X8_drop_16, X8_drop_19, X8_drop_22, X8_drop_23, X8_drop_24, X8_drop_27, X8_drop_28, X8_drop_33, X8_drop_34, X8_drop_35, X8_drop_38 ed hS.o, X8_drop_41, X8_drop_42, X8_drop_45, X8_drop_48, iOb_some, iClr_i, iClr_r, iClr_n, iClr_u, iClr_l, rf_s, rf_n, iB_0, iSum_nil, hR.g4, hS.g2, i_w1, hd, if_true, hR2.g4, hS2.g2]
      refine ⟨rfl, ⟨sN, im, R, sh, rf, n, k, E, C, _, P, hR2⟩, frZ.st hR.sNl, Nat.le_refl _, Nat.le_add_right _ _, Nat.le_refl _, Nat.le_add_right _ _⟩
    · rw [if_neg c]
      have hd : ¬ nI j = dI W.1.1 := by
        obtain ⟨q, hq⟩ : ∃ q, W.1.1 = q + 1 := ⟨W.1.1 - 1, by omega⟩
        rw [hq, dI_c]
        intro z
        have := (nI_eq (by omega) (by omega)).mp z
        omega
      simp only [X8_drop_0, X8_drop_1, X8_drop_2 e1 hR.ob, X8_drop_5, X8_drop_5n, X8_drop_8, X8_drop_9, X8_drop_13, X8_drop_14, X8_drop_15, X8_drop_16, X8_drop_19, X8_drop_22, X8_drop_23, X8_drop_24, X8_drop_27, X8_drop_28, X8_drop_30 (ev8_refuse hR (v := -6) (r := 6) (by decide) (by decide) rfl) hR.ob, X8_drop_33, iOb_some, iClr_i, iClr_r, iClr_n, iClr_u, iClr_l, rf_s, rf_n, iB_0, iSum_nil, hR.g4, hS.g2, i_w1, if_neg hd]
      exact c8_end hR (by decide)
/-- what holds now, changed on the reference's side -/
theorem mRel.now (hR : mRel s W) (h1 : ∀ q, q ∉ [0, 1, 2, 3, 4, 5, 7, 8, 9, 10] → s'.1 q = s.1 q) (h2 : ∀ q, q ∉ [0, 1, 2, 3, 4, 5, 7, 8, 9, 10] → s'.2.1 q = s.2.1 q) (h3 : s'.2.2 = s.2.2) (hn : mNow s' w) : mRel s' (wNow W w) := by
  obtain ⟨a1, a2, a3, a4, a5, a6⟩ := hR
  refine ⟨hn, ?_, fun j hj => ?_, ?_, ?_, ?_⟩
  · show (match W.2.1 with
      | none => s'.1 30 = 0
      | some w => s'.1 30 = 1 ∧ mOld s' w)
    unfold mOld at a2 ⊢
    rw [h1 30 (by decide), h1 31 (by decide), h1 36 (by decide), h1 40 (by decide), h2 32 (by decide), h2 33 (by decide), h2 34 (by decide), h2 35 (by decide), h2 37 (by decide), h2 38 (by decide), h2 39 (by decide)]
    exact a2
  · obtain ⟨b1, b2⟩ := a3 j hj
    refine ⟨by rw [h2 11 (by decide)]; exact b1, fun r hr => ?_⟩
    rw [h2 12 (by decide), h3]
    exact b2 r hr
  · intro k hk
    rw [h2 17 (by decide)]
    exact a4 k hk
  · rw [h1 14 (by decide)]
    exact a5
  · rw [h1 6 (by decide)]
    exact a6
theorem m9_drop (hR : mRel s W) (hW : wOk W) (t : Int32) : ∃ r h1, iEv mX9_drop [.ref x, .int t] (mH b x s) r h1 ∧ m9P b x (aDrop W t) r h1 := by
  refine I9_drop ?_
  unfold aDrop
  have t16 := hW.1.1
  have et := ev9_isTree (b := b) (x := x) hR.1 hW.1.1 (t := t)
  rcases iIx_cases t (n := W.1.1) (by omega) with ⟨e, z⟩ | ⟨j, hj, rfl, e⟩
  · rw [e] at et ⊢
    simp only [X9_drop_0, X9_drop_1, X9_drop_2 et mH_obj, X9_drop_5, X9_drop_8, X9_drop_9, X9_drop_10 (ev9_noV (v := -1) (r := 1) (by decide) rfl) mH_obj, X9_drop_13, iOb_some, iClr_i, iClr_r, iClr_n, iClr_u, iClr_l, rf_s, rf_n, iB_0, iSum_nil, Option.isSome_none, if_true]
    exact m9_rf hR (by decide)
  · rw [e] at et ⊢
    dsimp only
    by_cases c : j + 1 = W.1.1
    · rw [if_pos c]
      have hd : dI W.1.1 = nI j := by rw [← c, dI_c]
      simp only [X9_drop_0, X9_drop_1, X9_drop_2 et mH_obj, X9_drop_5, X9_drop_8, X9_drop_9, X9_drop_13, X9_drop_14, X9_drop_15, X9_drop_16, X9_drop_19, X9_drop_20, X9_drop_21, X9_drop_24, X9_drop_25, X9_drop_30, X9_drop_31, X9_drop_32, X9_drop_33, X9_drop_36, X9_drop_37, X9_drop_38, X9_drop_41, X9_drop_42, X9_drop_45, iOb_some, iClr_i, iClr_r, iClr_n, iClr_u, iClr_l, rf_s, rf_n, iB_0, iSum_nil, Option.isSome_some, Bool.true_eq_false, if_false, mg0, hR.1.1, i_w1, hd, if_true, mp0]
      refine ⟨rfl, _, rfl, hR.now (fun q hq => if_neg (fun z => hq (by rw [z]; decide))) (fun _ _ => rfl) rfl ?_⟩
      obtain ⟨a1, a2, a3, a4, a5⟩ := hR.1
      exact ⟨rfl, a2, a3, fun t ht => a4 t (by have : t < j := ht; omega), a5⟩
    · rw [if_neg c]
      have hd : ¬ nI j = dI W.1.1 := by
        obtain ⟨q, hq⟩ : ∃ q, W.1.1 = q + 1 := ⟨W.1.1 - 1, by omega⟩
        rw [hq, dI_c]
        intro z
        have := (nI_eq (by omega) (by omega)).mp z
        omega
      simp only [X9_drop_0, X9_drop_1, X9_drop_2 et mH_obj, X9_drop_5, X9_drop_8, X9_drop_9, X9_drop_13, X9_drop_14, X9_drop_15, X9_drop_16, X9_drop_19, X9_drop_20, X9_drop_21, X9_drop_24, X9_drop_25, X9_drop_27 (ev9_noV (v := -6) (r := 6) (by decide) rfl) mH_obj, X9_drop_30, iOb_some, iClr_i, iClr_r, iClr_n, iClr_u, iClr_l, rf_s, rf_n, iB_0, iSum_nil, Option.isSome_some, Bool.true_eq_false, if_false, mg0, hR.1.1, i_w1, if_neg hd]
      exact m9_rf hR (by decide)
-- seed
def aSeed (W : wW) (v : Int32) : Int32 × wW := (W.1.2.2.2.2, wNow W (W.1.1, W.1.2.1, W.1.2.2.1, W.1.2.2.2.1, v))
theorem c8_seed (hR : cRep h o W) (hW : wOk W) (v : Int32) : ∃ r h1, iEv mX8_seed [.ref o, .int v] h r h1 ∧ c8P h o (aSeed W v) r h1 := by
  obtain ⟨sN, im, R, sh, rf, n, k, E, C, T, P, hR⟩ := hR
  refine I8_seed ?_
  have hS := hR.2.2.1
  have ep := st_ps (b := h) (s := sN) (tc := W.1.1) (pc := W.1.2.2.1) (se := W.1.2.2.2.2) (T := T) (P := P) (v := v)
  rw [hR.steq] at ep
  simp only [X8_seed_0, X8_seed_1, X8_seed_4, X8_seed_7, X8_seed_8, X8_seed_9, X8_seed_12, X8_seed_13, X8_seed_16, X8_seed_17, iOb_some, iClr_i, iClr_r, iClr_n, iClr_u, iClr_l, rf_s, rf_n, iB_0, iSum_nil, hR.g4, hS.g4, ep]
  exact ⟨rfl, ⟨sN, im, R, sh, rf, n, k, E, C, T, P, hR.setS (w := (W.1.1, W.1.2.1, W.1.2.2.1, W.1.2.2.2.1, v)) hW.1.1 hW.1.2.1 hR.2.2.2.2.1⟩, frZ.st hR.sNl, Nat.le_refl _, Nat.le_add_right _ _, Nat.le_refl _, Nat.le_add_right _ _⟩
theorem m9_seed (hR : mRel s W) (v : Int32) : ∃ r h1, iEv mX9_seed [.ref x, .int v] (mH b x s) r h1 ∧ m9P b x (aSeed W v) r h1 := by
  refine I9_seed ?_
  simp only [X9_seed_0, X9_seed_1, X9_seed_4, X9_seed_5, X9_seed_6, X9_seed_7, X9_seed_10, X9_seed_11, iOb_some, iClr_i, iClr_r, iClr_n, iClr_u, iClr_l, rf_s, rf_n, iB_0, iSum_nil, mg10, hR.1.2.2.1, mp10]
  refine ⟨rfl, _, rfl, hR.now (fun q hq => if_neg (fun z => hq (by rw [z]; decide))) (fun _ _ => rfl) rfl ?_⟩
  obtain ⟨a1, a2, a3, a4, a5⟩ := hR.1
  exact ⟨a1, a2, rfl, a4, a5⟩
-- image
def aImage (W : wW) : Int32 × wW := (nI W.1.1, wImg W (some W.1))
theorem tkE_at {F : Nat → Option Nat} (hj : j < n) : tkE F n j = F j := if_pos hj
/-- a State copied, behind all else -/
theorem cp_state (hR : cRe h o sN im R sh rf n k E C T P W) {aS : Nat} {T2 P2 : Nat → Option Nat} (hS : stAt h aS w.1 w.2.2.1 w.2.2.2.2 T2 P2) (hb : bSt h o sN T2 P2 w) (hd : aS + 3 ≤ h.2.1) : ∃ h1, iEv mX6_init_ [.ref h.2.1, .ref aS] (iNewO h 6) none h1 ∧ (∀ q, q < h.2.1 → h1.1 q = h.1 q) ∧ h1.2 = (h.2.1 + 3, h.2.2 + 37) ∧ stAt h1 h.2.1 w.1 w.2.2.1 w.2.2.2.2 (tkE T2 16) (tkE P2 16) ∧ frZ h h1 o := by
  have hlo := hR.lo
  refine ⟨_, ev_scopy hd hS (fun j y e => ⟨(hb.2.2.1 j y e).1.2.1, (hb.2.2.1 j y e).2⟩) (fun j y e => ⟨(hb.2.2.2 j y e).1.2.1, (hb.2.2.2 j y e).2⟩), fun q hq => (stH_off (Or.inl hq)).trans (nH_off hq), rfl, stH_st hS.2.2.2.1 hS.2.2.2.2, fun q hq => (stH_off (Or.inl (by omega))).trans (nH_off (by omega))⟩
theorem bSt.tk (hb : bSt h o sN T P w) (h1 : w.1 ≤ 16) (h2 : w.2.2.1 ≤ 16) : bSt h o sN (tkE T 16) (tkE P 16) w := by
  obtain ⟨b1, b2, b3, b4⟩ := hb
  refine ⟨fun j hj => ?_, fun j hj => ?_, fun j y e => ?_, fun j y e => ?_⟩
  · obtain ⟨t, e1, e2⟩ := b1 j hj
    exact ⟨t, (tkE_at (by omega)).trans e1, e2⟩
  · obtain ⟨t, e1, e2⟩ := b2 j hj
    exact ⟨t, (tkE_at (by omega)).trans e1, e2⟩
  · unfold tkE at e
    split at e
    · exact b3 j y e
    · cases e
  · unfold tkE at e
    split at e
    · exact b4 j y e
    · cases e
theorem c8_image (hR : cRep h o W) (hW : wOk W) : ∃ r h1, iEv mX8_image [.ref o] h r h1 ∧ c8P h o (aImage W) r h1 := by
  obtain ⟨sN, im, R, sh, rf, n, k, E, C, T, P, hR⟩ := hR
  refine I8_image ?_
  obtain ⟨h1, ev, g1, g2, g3, g4⟩ := cp_state hR hR.2.2.1 hR.2.2.2.2.1 hR.sNh
  have n1 : h1.2.1 = h.2.1 + 3 := congrArg Prod.fst g2
  have n2 : h1.2.2 = h.2.2 + 37 := congrArg Prod.snd g2
  have hR1 := hR.grow g1 (by omega)
  have hlo := hR.lo
  have hsN := hR.sNl
  have hsh := hR.sNh
  have hb : bIm h1 o sN (some h.2.1) (some W.1) := ⟨tkE T 16, tkE P 16, g3, hR1.2.2.2.2.1.tk hW.1.1 hW.1.2.1, fun j hj => ⟨by omega, by omega, by omega⟩⟩
  have hR2 := hR1.setO (fa := W.2.2.2.2.1) (ev := W.2.2.2.2.2) hb
  have gN : iGet (iNewO h 6) o 8 4 = some (.ref sN) := (iGet_of (h := iNewO h 6) (a := o) (k := 4) ((iNew_off (by omega)).trans hR.1.1)).trans rfl
  simp only [X8_image_0, X8_image_1, X8_image_4, X8_image_5, X8_image_6, X8_image_9 ev (cat_r sN), X8_image_12, X8_image_12n, X8_image_15, X8_image_16, X8_image_19, X8_image_22, iOb_some, iClr_i, iClr_r, iClr_n, iClr_u, iClr_l, rf_s, rf_n, iB_0, iSum_nil, gN, hR1.pImg, hR2.g4, hR2.2.2.1.g2]
  refine ⟨rfl, ⟨sN, _, R, sh, rf, n, k, E, C, T, P, hR2⟩, g4.trans (frZ.set (Or.inl ⟨Nat.le_refl _, by omega⟩)), ?_, ?_, ?_, ?_⟩
  · show h.2.1 ≤ h1.2.1
    omega
  · show h1.2.1 ≤ h.2.1 + 1000
    omega
  · show h.2.2 ≤ h1.2.2
    omega
  · show h1.2.2 ≤ h.2.2 + 14000
    omega
theorem mAr.up {s0 s1 s2 : mS} {n d e : Nat} {L : List Nat} (h : mAr s0 s1 n d e) (hx : sEx L s1 s2) (hd : d ∉ L) : mAr s0 s2 n d e := fun j hj => (congrFun (hx.2.1 d hd) j).trans (h j hj)
theorem mAr.dn {s0 s1 s2 : mS} {n d e : Nat} {L : List Nat} (h : mAr s1 s2 n d e) (hx : sEx L s0 s1) (he : e ∉ L) : mAr s0 s2 n d e := fun j hj => (h j hj).trans (congrFun (hx.2.1 e he) j)
abbrev LO : List Nat := [30, 31, 32, 33, 34, 35, 36, 37, 38, 39, 40]
theorem mRel.old (hR : mRel s W) (hx : sEx LO s s') (h1 : s'.1 30 = 1) (h2 : mOld s' w) : mRel s' (wImg W (some w)) := by
  obtain ⟨a1, a2, a3, a4, a5, a6⟩ := hR
  obtain ⟨x1, x2, x3⟩ := hx
  refine ⟨?_, ⟨h1, h2⟩, fun j hj => ?_, ?_, ?_, ?_⟩
  · unfold mNow at a1 ⊢
    rw [x1 0 (by decide), x1 5 (by decide), x1 10 (by decide), x2 1 (by decide), x2 2 (by decide), x2 3 (by decide), x2 4 (by decide), x2 7 (by decide), x2 8 (by decide), x2 9 (by decide)]
    exact a1
  · obtain ⟨b1, b2⟩ := a3 j hj
    refine ⟨by rw [x2 11 (by decide)]; exact b1, fun r hr => ?_⟩
    rw [x2 12 (by decide), x3]
    exact b2 r hr
  · intro k hk
    rw [x2 17 (by decide)]
    exact a4 k hk
  · rw [x1 14 (by decide)]
    exact a5
  · rw [x1 6 (by decide)]
    exact a6
theorem mSet_at {k' : Nat} : (mSet s k v).1 k' = if k' = k then v else s.1 k' := rfl
theorem m9_image (hR : mRel s W) (hW : wOk W) : ∃ r h1, iEv mX9_image [.ref x] (mH b x s) r h1 ∧ m9P b x (aImage W) r h1 := by
  refine I9_image ?_
  simp only [X9_image_0, X9_image_1, X9_image_2z, X9_image_2o, X9_image_5, X9_image_6, X9_image_7, X9_image_10, X9_image_13, X9_image_14, X9_image_15, X9_image_18, X9_image_21, X9_image_22, X9_image_23, X9_image_26, X9_image_29, X9_image_30, iOb_some, iClr_i, iClr_r, iClr_n, iClr_u, iClr_l, rf_s, rf_n, iB_0, iSum_nil, mp30, mg0, mp31, mg5, mp36, mg10, mp40]
  generalize hs0 : mSet (mSet (mSet (mSet s 30 1) 31 ((mSet s 30 1).1 0)) 36 ((mSet (mSet s 30 1) 31 ((mSet s 30 1).1 0)).1 5)) 40 ((mSet (mSet (mSet s 30 1) 31 ((mSet s 30 1).1 0)) 36 ((mSet (mSet s 30 1) 31 ((mSet s 30 1).1 0)).1 5)).1 10) = s0
  have x0 : sEx LO s s0 := by
    rw [← hs0]
    exact ((mSet_ex (by decide)).trans (mSet_ex (by decide))).trans ((mSet_ex (by decide)).trans (mSet_ex (by decide)))
  have z30 : s0.1 30 = 1 := by rw [← hs0]; simp [mSet_at]
  have z31 : s0.1 31 = s.1 0 := by rw [← hs0]; simp [mSet_at]
  have z36 : s0.1 36 = s.1 5 := by rw [← hs0]; simp [mSet_at]
  have z40 : s0.1 40 = s.1 10 := by rw [← hs0]; simp [mSet_at]
  refine imageL_31 (s0 := s0) (fun s1 y1 => ?_) 16 0 s0 (by omega) ⟨sEx.refl, fun j hj => by omega⟩
  simp only [X9_image_55, X9_image_56, iOb_some, iClr_i, iClr_r, iClr_n, iClr_u, iClr_l, rf_s, rf_n, iB_0, iSum_nil]
  refine imageL_57 (s0 := s1) (fun s2 y2 => ?_) 1024 0 s1 (by omega) ⟨sEx.refl, fun j hj => by omega, fun j hj => by omega, fun j hj => by omega⟩
  simp only [X9_image_106, X9_image_107, iOb_some, iClr_i, iClr_r, iClr_n, iClr_u, iClr_l, rf_s, rf_n, iB_0, iSum_nil]
  refine imageL_108 (s0 := s2) (fun s3 y3 => ?_) 80 0 s2 (by omega) ⟨sEx.refl, fun j hj => by omega⟩
  simp only [X9_image_132, X9_image_133, iOb_some, iClr_i, iClr_r, iClr_n, iClr_u, iClr_l, rf_s, rf_n, iB_0, iSum_nil]
  refine imageL_134 (s0 := s3) (fun s4 y4 => ?_) 13440 0 s3 (by omega) ⟨sEx.refl, fun j hj => by omega⟩
  simp only [X9_image_159, X9_image_160, iOb_some, iClr_i, iClr_r, iClr_n, iClr_u, iClr_l, rf_s, rf_n, iB_0, iSum_nil]
  refine imageL_161 (s0 := s4) (fun s5 y5 => ?_) 3840 0 s4 (by omega) ⟨sEx.refl, fun j hj => by omega⟩
  have x1 : sEx LO s s1 := x0.trans (y1.1.mono (by decide))
  have x2 : sEx LO s s2 := x1.trans (y2.1.mono (by decide))
  have x3 : sEx LO s s3 := x2.trans (y3.1.mono (by decide))
  have x4 : sEx LO s s4 := x3.trans (y4.1.mono (by decide))
  have x5 : sEx LO s s5 := x4.trans (y5.1.mono (by decide))
  have nm : ∀ q, q ∉ [32, 33, 34, 35, 37, 38, 39] → s5.1 q = s0.1 q := by
    intro q hq
    rw [y5.1.1 q (fun z => hq (by revert z; simp; omega)), y4.1.1 q (fun z => hq (by revert z; simp; omega)), y3.1.1 q (fun z => hq (by revert z; simp; omega)), y2.1.1 q (fun z => hq (by revert z; simp; omega)), y1.1.1 q (fun z => hq (by revert z; simp; omega))]
  simp only [X9_image_186, X9_image_187, X9_image_190, iOb_some, iClr_i, iClr_r, iClr_n, iClr_u, iClr_l, rf_s, rf_n, iB_0, iSum_nil, mg0]
  have e0 : s5.1 0 = nI W.1.1 := (x5.1 0 (by decide)).trans hR.1.1
  rw [e0]
  refine ⟨rfl, s5, rfl, hR.old x5 ((nm 30 (by decide)).trans z30) ?_⟩
  show mStt (s5.1 31) (s5.2.1 32) (s5.2.1 33) (s5.2.1 34) (s5.2.1 35) (s5.1 36) (s5.2.1 37) (s5.2.1 38) (s5.2.1 39) (s5.1 40) W.1
  rw [(nm 31 (by decide)).trans z31, (nm 36 (by decide)).trans z36, (nm 40 (by decide)).trans z40]
  refine mStt_copy hR.1 hW.1 ?_ ?_ ?_ ?_ ?_ ?_ ?_
  · exact ((((y1.2.up y2.1 (by decide)).up y3.1 (by decide)).up y4.1 (by decide)).up y5.1 (by decide)).dn x0 (by decide)
  · exact (((y2.2.1.up y3.1 (by decide)).up y4.1 (by decide)).up y5.1 (by decide)).dn x1 (by decide)
  · exact (((y2.2.2.1.up y3.1 (by decide)).up y4.1 (by decide)).up y5.1 (by decide)).dn x1 (by decide)
  · exact (((y2.2.2.2.up y3.1 (by decide)).up y4.1 (by decide)).up y5.1 (by decide)).dn x1 (by decide)
  · exact ((y3.2.up y4.1 (by decide)).up y5.1 (by decide)).dn x2 (by decide)
  · exact (y4.2.up y5.1 (by decide)).dn x3 (by decide)
  · exact y5.2.dn x4 (by decide)
end IMAGES

/-! hand: the reference; put on both sides -/
section PUT
variable {h h' : iHp} {o sN n k i j l x m a c p q r : Nat} {im : Option Nat} {R E T P : Nat → Option Nat} {sh rf C C2 : Nat → Int32} {W : wW} {G : Nat → Nat → Int32} {so sr : Int32} {e : Nat → Int32} {b : iHp} {s s' : mS} {w : sT}
theorem mMd_0 : mMd (mSet s 25 0) 0 G := ⟨rfl, fun i k hi hk => by omega⟩
theorem mMd.one (hM : mMd s (0 + 1) (va_up G 0 e)) : mMd s 1 (fun _ => e) := ⟨hM.1, fun i k hi hk => by
  obtain rfl : i = 0 := by omega
  exact hM.2 0 k (by omega) hk⟩
theorem LMX : ∀ k, k ∈ [25, 26] → k ∈ LX := by decide
theorem m9_hand (hR : mRel s W) (hW : wOk W) (ky lb t : Int32) : ∃ r h1, iEv mX9_hand [.ref x, .int ky, .int lb, .int t] (mH b x s) r h1 ∧ m9P b x (aHand W ky lb t) r h1 := by
  refine I9_hand ?_
  unfold aHand
  have et := ev9_isTree (b := b) (x := x) hR.1 hW.1.1 (t := t)
  rcases iIx_cases t (n := W.1.1) (by have := hW.1.1; omega) with ⟨f, z⟩ | ⟨j, hj, rfl, f⟩
  · rw [f] at et ⊢
    simp only [X9_hand_0, X9_hand_1, X9_hand_2 et mH_obj, X9_hand_5, X9_hand_8, X9_hand_9, X9_hand_10 (ev9_noV (v := -1) (r := 1) (by decide) rfl) mH_obj, X9_hand_13, iOb_some, iClr_i, iClr_r, iClr_n, iClr_u, iClr_l, rf_s, rf_n, iB_0, iSum_nil, Option.isSome_none, if_true]
    exact m9_rf hR (by decide)
  · rw [f] at et ⊢
    dsimp only
    obtain ⟨⟨n, K, B, D⟩, s1, e1, e2, e3, e4⟩ := ev9_loadsR (b := b) (x := x) hR.1 hW.1 hj
    have hT := e3.symm.ok (hW.1.2.2.1 j hj)
    obtain ⟨w1, w2, w3, w4⟩ := e2
    have en : n = (W.1.2.1 j).1 := e3.1
    dsimp only at w1 w2 w3 w4
    have h60 : n ≤ 60 := hT.1.le
    have eKK : ∀ j', j' < n → K j' = (W.1.2.1 j).2.1 j' := fun j' hj' => (e3.2 j' hj').1
    have e5 := ev9_find (b := b) (x := x) w1 (by omega) ky
    rw [w2] at e5
    have hL := hR.ex (e4.mono LWX)
    rw [← en, ← tWhere_congr eKK]
    cases hw : tWhere K n ky with
    | none =>
      rw [hw] at e5
      simp only [X9_hand_0, X9_hand_1, X9_hand_2 et mH_obj, X9_hand_5, X9_hand_8, X9_hand_9, X9_hand_13, X9_hand_14, X9_hand_15, X9_hand_16 e1 mH_obj, X9_hand_19, X9_hand_20, X9_hand_21 e5 mH_obj, X9_hand_24, X9_hand_26, X9_hand_28, X9_hand_29, X9_hand_32, X9_hand_33, X9_hand_35 (ev9_noV (v := -5) (r := 5) (by decide) rfl) mH_obj, X9_hand_38, iOb_some, iClr_i, iClr_r, iClr_n, iClr_u, iClr_l, rf_s, rf_n, iB_0, iSum_nil, Option.isSome_some, Bool.true_eq_false, if_false, oI_n, if_true]
      exact m9_rf hL (by decide)
    | some i =>
      rw [hw] at e5
      have hi := (tWhere_lt hw).1
      have ewi := ev9_within lb 97 122 (h := mH b x s1)
      dsimp only
      by_cases c : 97 ≤ lb ∧ lb ≤ 122
      · rw [if_pos c]
        rw [decide_eq_true c.1, decide_eq_true c.2, Bool.and_self] at ewi
        obtain ⟨s2, k1, k2, k3⟩ := ev9_makes (b := b) (x := x) (mMd_0 (s := s1) (G := fun _ => e7 0 ky (B i) lb 0 0 0)) (by omega) (e7 0 ky (B i) lb 0 0 0)
        have k1 : iEv mX9_makes [.ref x, .int 0, .int ky, .int (B i), .int lb, .int 0, .int 0, .int 0] (mH b x (mSet s1 25 0)) none (mH b x s2) := k1
        have xx : sEx LX s1 s2 := (mSet_ex (by decide)).trans (k3.mono LMX)
        obtain ⟨h4, k4, s4, rfl, k5⟩ := ev9_newPatch (b := b) (x := x) (c := 0) (C := fun _ => 0) (so := 0) (sr := -1) (hL.ex xx) hW k2.one (by omega) (by omega) (fun z => absurd z (by decide)) (fun _ => rfl)
        simp only [X9_hand_0, X9_hand_1, X9_hand_2 et mH_obj, X9_hand_5, X9_hand_8, X9_hand_9, X9_hand_13, X9_hand_14, X9_hand_15, X9_hand_16 e1 mH_obj, X9_hand_19, X9_hand_20, X9_hand_21 e5 mH_obj, X9_hand_24, X9_hand_26, X9_hand_28, X9_hand_29, X9_hand_32, X9_hand_33, X9_hand_38, X9_hand_39, X9_hand_40, X9_hand_42, X9_hand_44 ewi, X9_hand_47, X9_hand_50, X9_hand_51, X9_hand_56, X9_hand_57, X9_hand_58, X9_hand_59, X9_hand_62, X9_hand_63, X9_hand_64, X9_hand_65, X9_hand_66, X9_hand_69, X9_hand_71, X9_hand_72, X9_hand_73, X9_hand_74, X9_hand_75, X9_hand_76 k1 mH_obj, X9_hand_79, X9_hand_80, X9_hand_81, X9_hand_82 k4 mH_obj, X9_hand_85, iOb_some, iClr_i, iClr_r, iClr_n, iClr_u, iClr_l, rf_s, rf_n, iB_0, iSum_nil, Option.isSome_some, Bool.true_eq_false, if_false, oI_s, if_neg (oI_ne (show i < 2 ^ 31 by omega)), mp25, mg20, ml20 (show i < 66 by omega), mSet_ar, w3]
        rw [← (e3.2 i hi).2.1]
        exact ⟨rfl, s4, rfl, k5⟩
      · rw [if_neg c]
        have cf : (decide (97 ≤ lb) && decide (lb ≤ 122)) = false := by
          cases z : (decide (97 ≤ lb) && decide (lb ≤ 122)) with
          | false => rfl
          | true =>
            have z := (Bool.and_eq_true _ _).mp z
            exact absurd ⟨of_decide_eq_true z.1, of_decide_eq_true z.2⟩ c
        rw [cf] at ewi
        simp only [X9_hand_0, X9_hand_1, X9_hand_2 et mH_obj, X9_hand_5, X9_hand_8, X9_hand_9, X9_hand_13, X9_hand_14, X9_hand_15, X9_hand_16 e1 mH_obj, X9_hand_19, X9_hand_20, X9_hand_21 e5 mH_obj, X9_hand_24, X9_hand_26, X9_hand_28, X9_hand_29, X9_hand_32, X9_hand_33, X9_hand_38, X9_hand_39, X9_hand_40, X9_hand_42, X9_hand_44 ewi, X9_hand_47, X9_hand_50, X9_hand_51, X9_hand_53 (ev9_noV (v := -6) (r := 6) (by decide) rfl) mH_obj, X9_hand_56, iOb_some, iClr_i, iClr_r, iClr_n, iClr_u, iClr_l, rf_s, rf_n, iB_0, iSum_nil, Option.isSome_some, Bool.true_eq_false, if_false, oI_s, if_neg (oI_ne (show i < 2 ^ 31 by omega)), if_true]
        exact m9_rf hL (by decide)
-- put
def aPut (W : wW) (t ky to at_ : Int32) : Int32 × wW := match iIx t W.1.1 with
  | none => (-1, wRef W 1)
  | some j => match tWhere (W.1.2.1 j).2.1 (W.1.2.1 j).1 ky, tWhere (W.1.2.1 j).2.1 (W.1.2.1 j).1 to with
    | some i, some _ => if fitT (e7 3 ky 0 (tPK (W.1.2.1 j).2.1 (W.1.2.1 j).2.2.2 i) (nI (tPlace (W.1.2.1 j).2.2.2 i)) to at_) (W.1.2.1 j) = true then aNew W 1 0 0 (-1) (fun _ => e7 3 ky 0 (tPK (W.1.2.1 j).2.1 (W.1.2.1 j).2.2.2 i) (nI (tPlace (W.1.2.1 j).2.2.2 i)) to at_) (fun _ => 0) else (-6, wRef W 6)
    | _, _ => (-5, wRef W 5)
theorem trAt.agt {K B D : Nat → Int32} (hT : trAt h a n K B D) (oo : ∀ j, j < 4 → oc h o sN (a + j)) (ha : agt h h' o sN sN) : trAt h' a n K B D := ⟨(ha a (oo 0 (by decide))).2.trans hT.1, (ha _ (oo 1 (by decide))).2.trans hT.2.1, (ha _ (oo 2 (by decide))).2.trans hT.2.2.1, (ha _ (oo 3 (by decide))).2.trans hT.2.2.2.1, hT.2.2.2.2⟩
theorem c8_put (hR : cRep h o W) (hW : wOk W) (t ky to at_ : Int32) : ∃ r h1, iEv mX8_put [.ref o, .int t, .int ky, .int to, .int at_] h r h1 ∧ c8P h o (aPut W t ky to at_) r h1 := by
  obtain ⟨sN, im, R, sh, rf, n, k, E, C, T, P, hR⟩ := hR
  refine I8_put ?_
  unfold aPut
  have t16 := hW.1.1
  rcases iIx_cases t (n := W.1.1) (by omega) with ⟨f, z⟩ | ⟨j, hj, rfl, f⟩
  · rw [f]
    simp only [X8_put_0, X8_put_1, X8_put_2 (c8_treeN hR z) hR.ob, X8_put_5, X8_put_5n, X8_put_7, X8_put_7n, X8_put_9, X8_put_9n, X8_put_12, X8_put_13, X8_put_14 (ev8_refuse hR (v := -1) (r := 1) (by decide) (by decide) rfl) hR.ob, X8_put_17, iOb_some, iClr_i, iClr_r, iClr_n, iClr_u, iClr_l, rf_s, rf_n, iB_0, iSum_nil]
    exact c8_end hR (by decide)
  · rw [f]
    dsimp only
    obtain ⟨a, K, B, D, e1, e2, e3, e4⟩ := c8_tree hR hj
    have hT := e3.symm.ok (hW.1.2.2.1 j hj)
    obtain ⟨hK, d, hd, h5⟩ := id hT
    dsimp only at hK hd h5
    have h60 := hK.le
    have eKK : ∀ j' < (W.1.2.1 j).1, K j' = (W.1.2.1 j).2.1 j' := fun j' hj' => (e3.2 j' hj').1
    have eDD : ∀ j' < (W.1.2.1 j).1, D j' = (W.1.2.1 j).2.2.2 j' := fun j' hj' => (e3.2 j' hj').2.2
    have ew := ev_whereOf e2 ky
    have ev := ev_whereOf e2 to
    rw [← tWhere_congr eKK, ← tWhere_congr eKK]
    cases hw : tWhere K (W.1.2.1 j).1 ky with
    | none =>
      rw [hw] at ew
      simp only [X8_put_0, X8_put_1, X8_put_2 e1 hR.ob, X8_put_5, X8_put_5n, X8_put_7, X8_put_7n, X8_put_9, X8_put_9n, X8_put_12, X8_put_13, X8_put_17, X8_put_18, X8_put_18n, X8_put_20, X8_put_21 ew e2.o, X8_put_24, X8_put_26, X8_put_28, X8_put_29, X8_put_32, X8_put_32n, X8_put_34, X8_put_38, X8_put_39, X8_put_42, X8_put_43, X8_put_45 (ev8_refuse hR (v := -5) (r := 5) (by decide) (by decide) rfl) hR.ob, X8_put_48, iOb_some, iClr_i, iClr_r, iClr_n, iClr_u, iClr_l, rf_s, rf_n, iB_0, iSum_nil, oI_n, if_true]
      exact c8_end hR (by decide)
    | some i =>
      rw [hw] at ew
      have hi := (tWhere_lt hw).1
      cases hv : tWhere K (W.1.2.1 j).1 to with
      | none =>
        rw [hv] at ev
        simp only [X8_put_0, X8_put_1, X8_put_2 e1 hR.ob, X8_put_5, X8_put_5n, X8_put_7, X8_put_7n, X8_put_9, X8_put_9n, X8_put_12, X8_put_13, X8_put_17, X8_put_18, X8_put_18n, X8_put_20, X8_put_21 ew e2.o, X8_put_24, X8_put_26, X8_put_28, X8_put_29, X8_put_32, X8_put_32n, X8_put_34, X8_put_35 ev e2.o, X8_put_38, X8_put_39, X8_put_42, X8_put_43, X8_put_45 (ev8_refuse hR (v := -5) (r := 5) (by decide) (by decide) rfl) hR.ob, X8_put_48, iOb_some, iClr_i, iClr_r, iClr_n, iClr_u, iClr_l, rf_s, rf_n, iB_0, iSum_nil, oI_n, oI_s, if_neg (oI_ne (show i < 2 ^ 31 by omega)), if_true]
        exact c8_end hR (by decide)
      | some g =>
        rw [hv] at ev
        have hg := (tWhere_lt hv).1
        dsimp only
        rw [← cPK hd eDD eKK hi, ← cPlace hd eDD hi, ← fitT_congr e3 hT]
        have em := ev_move (h := h) ky (tPK K D i) (nI (tPlace D i)) to at_
        generalize hee : e7 3 ky 0 (tPK K D i) (nI (tPlace D i)) to at_ = e at em ⊢
        obtain ⟨r2, x2, o2, ag2, f2⟩ := hR.edit e
        have ht2 := e2.agt e4 ag2
        have ef := ev_fits x2 ht2
        have n1 : (eNew h e).2.1 = h.2.1 + 1 := rfl
        have n2 : (eNew h e).2.2 = h.2.2 + 7 := rfl
        generalize hge : eNew h e = h2 at em r2 x2 o2 ag2 f2 ht2 ef n1 n2
        by_cases c : fitT e ((W.1.2.1 j).1, K, B, D) = true
        · rw [if_pos c]
          rw [show eFits e (W.1.2.1 j).1 K B D = true from c] at ef
          obtain ⟨c3, r3⟩ := c8_clear r2
          have x3 : edAt (drH h2 (o + 4) 0 0 E C) h.2.1 e := (agt_dr (sN := sN) _ o2).2.trans x2
          have o3 : oc (drH h2 (o + 4) 0 0 E C) o sN h.2.1 := (agt_dr (sN := sN) _ o2).1
          obtain ⟨c4, r4, d4⟩ := c8_add r3 (dEd_0 (G := fun _ => e)) (by omega) x3 o3
          obtain ⟨h5', c5, r5, f5, b1, b2, b3, b4⟩ := ev8_keep (C2 := fun _ => 0) r4 hW (by omega) (fun _ => d4.one) (fun q (hq : q < 2 * 0) => by omega) 0 (-1)
          simp only [X8_put_0, X8_put_1, X8_put_2 e1 hR.ob, X8_put_5, X8_put_5n, X8_put_7, X8_put_7n, X8_put_9, X8_put_9n, X8_put_12, X8_put_13, X8_put_17, X8_put_18, X8_put_18n, X8_put_20, X8_put_21 ew e2.o, X8_put_24, X8_put_26, X8_put_28, X8_put_29, X8_put_32, X8_put_32n, X8_put_34, X8_put_35 ev e2.o, X8_put_38, X8_put_39, X8_put_42, X8_put_43, X8_put_48, X8_put_49, X8_put_50, X8_put_50n, X8_put_52, X8_put_54 (ev_parentKeyAt e2 hi) e2.o, X8_put_57, X8_put_57n, X8_put_59, X8_put_61 (ev_placeAt e2 hi) e2.o, X8_put_64, X8_put_65, X8_put_67 em, X8_put_70, X8_put_70n, X8_put_72, X8_put_72n, X8_put_74, X8_put_74n, X8_put_76 ef x2.o (cat_r a), X8_put_79, X8_put_82, X8_put_83, X8_put_88, X8_put_89, X8_put_90, X8_put_93 c3 r2.2.1.o, X8_put_96, X8_put_97, X8_put_100, X8_put_100n, X8_put_102 c4 r3.2.1.o (cat_r h.2.1), X8_put_105, X8_put_106, X8_put_107, X8_put_108 c5 r4.ob, X8_put_111, iOb_some, iClr_i, iClr_r, iClr_n, iClr_u, iClr_l, rf_s, rf_n, iB_0, iSum_nil, oI_s, if_neg (oI_ne (show i < 2 ^ 31 by omega)), if_neg (oI_ne (show g < 2 ^ 31 by omega)), Bool.true_eq_false, if_false, r2.g3, r3.g3]
          refine k8_end r5 (f2.trans ((frZ.dr.trans frZ.dr).trans f5)) ?_ ?_ ?_ ?_
          · exact Nat.le_trans (by omega : h.2.1 ≤ h2.2.1) b1
          · exact Nat.le_trans b2 (by show h2.2.1 + 3 ≤ _; omega)
          · exact Nat.le_trans (by omega : h.2.2 ≤ h2.2.2) b3
          · exact Nat.le_trans b4 (by show h2.2.2 + 400 ≤ _; omega)
        · rw [if_neg c]
          rw [show eFits e (W.1.2.1 j).1 K B D = false from Bool.eq_false_iff.mpr c] at ef
          simp only [X8_put_0, X8_put_1, X8_put_2 e1 hR.ob, X8_put_5, X8_put_5n, X8_put_7, X8_put_7n, X8_put_9, X8_put_9n, X8_put_12, X8_put_13, X8_put_17, X8_put_18, X8_put_18n, X8_put_20, X8_put_21 ew e2.o, X8_put_24, X8_put_26, X8_put_28, X8_put_29, X8_put_32, X8_put_32n, X8_put_34, X8_put_35 ev e2.o, X8_put_38, X8_put_39, X8_put_42, X8_put_43, X8_put_48, X8_put_49, X8_put_50, X8_put_50n, X8_put_52, X8_put_54 (ev_parentKeyAt e2 hi) e2.o, X8_put_57, X8_put_57n, X8_put_59, X8_put_61 (ev_placeAt e2 hi) e2.o, X8_put_64, X8_put_65, X8_put_67 em, X8_put_70, X8_put_70n, X8_put_72, X8_put_72n, X8_put_74, X8_put_74n, X8_put_76 ef x2.o (cat_r a), X8_put_79, X8_put_82, X8_put_83, X8_put_85 (ev8_refuse r2 (v := -6) (r := 6) (by decide) (by decide) rfl) r2.ob, X8_put_88, iOb_some, iClr_i, iClr_r, iClr_n, iClr_u, iClr_l, rf_s, rf_n, iB_0, iSum_nil, oI_s, if_neg (oI_ne (show i < 2 ^ 31 by omega)), if_neg (oI_ne (show g < 2 ^ 31 by omega)), if_true]
          obtain ⟨z1, z2, z3, z4, z5, z6, z7⟩ := c8_end r2 (r := 6) (u := -6) (by decide)
          exact ⟨z1, z2, f2.trans z3, (by show h.2.1 ≤ h2.2.1; omega), (by show h2.2.1 ≤ h.2.1 + 1000; omega), (by show h.2.2 ≤ h2.2.2; omega), (by show h2.2.2 ≤ h.2.2 + 14000; omega)⟩
-- the reference
theorem inAt_making (hM : mMd s n G) (hi : i < n) (hn : n ≤ 199) : inAt b x s (x + 18) (7 * i) (G i) := by
  intro n' K B D C E F j hj
  rw [ml26 (show 7 * i + j < 1400 by omega), wS_off (show 26 < 19 ∨ 24 < 26 by decide), hM.2 i j hi hj]
theorem inAt_edits {Z : pP} (hp : p < 16) (hZ : mPt (s.2.1 7) (s.2.1 8) (s.2.1 9) p Z) (hi : i < Z.1) (h12 : Z.1 ≤ 120) : inAt b x s (x + 6) (840 * p + 7 * i) (Z.2.2.2.2.2.1 i) := by
  intro n' K B D C E F j hj
  rw [ml8 (show 840 * p + 7 * i + j < 13440 by omega), wS_off (show 8 < 19 ∨ 24 < 8 by decide), show 840 * p + 7 * i + j = 840 * p + (7 * i + j) by omega, hZ.2.2.2.2.2.1 i j hi hj]
theorem ev9_doesR {U : tT} (hw : wIs s U) (hU : tOk U) (hin : inAt b x s r a e) : ∃ s' U', iEv mX9_does [.ref x, .ref r, .int (nI a)] (mH b x s) (some (.int (iB (fitT e U)))) (mH b x s') ∧ wIs s' U' ∧ tEq U' (doT e U) ∧ sEx LW s s' := by
  obtain ⟨U', C', E', F', e1, e2⟩ := ev9_does (C := s.2.1 22) (E := s.2.1 23) (F := s.2.1 24) hU hin
  rw [← hw.eq] at e1
  exact ⟨_, U', e1, wIs_wS, e2, wS_ex⟩
theorem m9_put (hR : mRel s W) (hW : wOk W) (t ky to at_ : Int32) : ∃ r h1, iEv mX9_put [.ref x, .int t, .int ky, .int to, .int at_] (mH b x s) r h1 ∧ m9P b x (aPut W t ky to at_) r h1 := by
  refine I9_put ?_
  unfold aPut
  have et := ev9_isTree (b := b) (x := x) hR.1 hW.1.1 (t := t)
  rcases iIx_cases t (n := W.1.1) (by have := hW.1.1; omega) with ⟨f, z⟩ | ⟨j, hj, rfl, f⟩
  · rw [f] at et ⊢
    simp only [X9_put_0, X9_put_1, X9_put_2 et mH_obj, X9_put_5, X9_put_8, X9_put_9, X9_put_10 (ev9_noV (v := -1) (r := 1) (by decide) rfl) mH_obj, X9_put_13, iOb_some, iClr_i, iClr_r, iClr_n, iClr_u, iClr_l, rf_s, rf_n, iB_0, iSum_nil, Option.isSome_none, if_true]
    exact m9_rf hR (by decide)
  · rw [f] at et ⊢
    dsimp only
    obtain ⟨⟨n, K, B, D⟩, s1, e1, e2, e3, e4⟩ := ev9_loadsR (b := b) (x := x) hR.1 hW.1 hj
    have hT := e3.symm.ok (hW.1.2.2.1 j hj)
    have e2' := e2
    obtain ⟨w1, w2, w3, w4⟩ := e2
    have en : n = (W.1.2.1 j).1 := e3.1
    obtain ⟨hK, d, hd, h5⟩ := id hT
    dsimp only at w1 w2 w3 w4 hK hd h5
    have h60 : n ≤ 60 := hT.1.le
    have eKK : ∀ j', j' < n → K j' = (W.1.2.1 j).2.1 j' := fun j' hj' => (e3.2 j' hj').1
    have eDD : ∀ j', j' < n → D j' = (W.1.2.1 j).2.2.2 j' := fun j' hj' => (e3.2 j' hj').2.2
    have e5 := ev9_find (b := b) (x := x) w1 (by omega) ky
    have e6 := ev9_find (b := b) (x := x) w1 (by omega) to
    rw [w2] at e5 e6
    have hL := hR.ex (e4.mono LWX)
    rw [← en, ← tWhere_congr eKK, ← tWhere_congr eKK]
    cases hw : tWhere K n ky with
    | none =>
      rw [hw] at e5
      simp only [X9_put_0, X9_put_1, X9_put_2 et mH_obj, X9_put_5, X9_put_8, X9_put_9, X9_put_13, X9_put_14, X9_put_15, X9_put_16 e1 mH_obj, X9_put_19, X9_put_20, X9_put_21 e5 mH_obj, X9_put_24, X9_put_26, X9_put_28, X9_put_29, X9_put_32, X9_put_33, X9_put_37, X9_put_38, X9_put_41, X9_put_42, X9_put_44 (ev9_noV (v := -5) (r := 5) (by decide) rfl) mH_obj, X9_put_47, iOb_some, iClr_i, iClr_r, iClr_n, iClr_u, iClr_l, rf_s, rf_n, iB_0, iSum_nil, Option.isSome_some, Bool.true_eq_false, if_false, oI_n, if_true]
      exact m9_rf hL (by decide)
    | some i =>
      rw [hw] at e5
      have hi := (tWhere_lt hw).1
      cases hv : tWhere K n to with
      | none =>
        rw [hv] at e6
        simp only [X9_put_0, X9_put_1, X9_put_2 et mH_obj, X9_put_5, X9_put_8, X9_put_9, X9_put_13, X9_put_14, X9_put_15, X9_put_16 e1 mH_obj, X9_put_19, X9_put_20, X9_put_21 e5 mH_obj, X9_put_24, X9_put_26, X9_put_28, X9_put_29, X9_put_32, X9_put_33, X9_put_34 e6 mH_obj, X9_put_37, X9_put_38, X9_put_41, X9_put_42, X9_put_44 (ev9_noV (v := -5) (r := 5) (by decide) rfl) mH_obj, X9_put_47, iOb_some, iClr_i, iClr_r, iClr_n, iClr_u, iClr_l, rf_s, rf_n, iB_0, iSum_nil, Option.isSome_some, Bool.true_eq_false, if_false, oI_n, oI_s, if_neg (oI_ne (show i < 2 ^ 31 by omega)), if_true]
        exact m9_rf hL (by decide)
      | some g =>
        rw [hv] at e6
        have hg := (tWhere_lt hv).1
        dsimp only
        rw [← cPK hd eDD eKK hi, ← cPlace hd eDD hi, ← fitT_congr e3 hT]
        have wA : wIs (mSet s1 25 0) (n, K, B, D) := ⟨w1, w2, w3, w4⟩
        have ep := ev9_parentKey (b := b) (x := x) (s := mSet s1 25 0) (n := n) (by omega) hi (by
          rw [wA.2.2.2]
          exact h5.par' hd hi)
        rw [wA.2.2.2, wA.2.1] at ep
        have epl := ev9_place (b := b) (x := x) (s := mSet s1 25 0) (n := n) (by omega) hi
        rw [wA.2.2.2] at epl
        dsimp only at ep epl
        obtain ⟨s2, k1, k2, k3⟩ := ev9_makes (b := b) (x := x) (mMd_0 (s := s1) (G := fun _ => e7 3 ky 0 (tPK K D i) (nI (tPlace D i)) to at_)) (by omega) (e7 3 ky 0 (tPK K D i) (nI (tPlace D i)) to at_)
        have k1 : iEv mX9_makes [.ref x, .int 3, .int ky, .int 0, .int (tPK K D i), .int (nI (tPlace D i)), .int to, .int at_] (mH b x (mSet s1 25 0)) none (mH b x s2) := k1
        generalize hee : e7 3 ky 0 (tPK K D i) (nI (tPlace D i)) to at_ = e at k2 ⊢
        have xx : sEx LX s1 s2 := (mSet_ex (by decide)).trans (k3.mono LMX)
        have wB : wIs s2 (n, K, B, D) := ⟨(k3.1 18 (by decide)).trans wA.1, (k3.2.1 19 (by decide)).trans wA.2.1, (k3.2.1 20 (by decide)).trans wA.2.2.1, (k3.2.1 21 (by decide)).trans wA.2.2.2⟩
        have hin : inAt b x s2 (x + 18) 0 e := by
          have := inAt_making (b := b) (x := x) k2 (show 0 < 0 + 1 by omega) (by omega)
          exact this
        obtain ⟨s3, U', d1, d2, d3, d4⟩ := ev9_doesR wB hT hin
        have x3 : sEx LX s1 s3 := xx.trans (d4.mono LWX)
        have hpre : iWp 6 mX9_put 0 [.ref x, .int (nI j), .int ky, .int to, .int at_, iU] [] (mH b x s) (m9P b x (if fitT e (n, K, B, D) = true then aNew W 1 0 0 (-1) (fun _ => e) (fun _ => 0) else (-6, wRef W 6))) = iWp 6 mX9_put 84 [.ref x, .int (nI j), .int ky, .int to, .int at_, .int (nI i)] [] (mH b x s2) (m9P b x (if fitT e (n, K, B, D) = true then aNew W 1 0 0 (-1) (fun _ => e) (fun _ => 0) else (-6, wRef W 6))) := by
          by_cases i0 : i = 0
          · subst i0
            have k1 : iEv mX9_makes [.ref x, .int 3, .int ky, .int 0, .int (tPK K D 0), .int 0, .int to, .int at_] (mH b x (mSet s1 25 0)) none (mH b x s2) := k1
            simp only [X9_put_0, X9_put_1, X9_put_2 et mH_obj, X9_put_5, X9_put_8, X9_put_9, X9_put_13, X9_put_14, X9_put_15, X9_put_16 e1 mH_obj, X9_put_19, X9_put_20, X9_put_21 e5 mH_obj, X9_put_24, X9_put_26, X9_put_28, X9_put_29, X9_put_32, X9_put_33, X9_put_34 e6 mH_obj, X9_put_37, X9_put_38, X9_put_41, X9_put_42, X9_put_47, X9_put_48, X9_put_49, X9_put_50, X9_put_53, X9_put_54, X9_put_55, X9_put_56, X9_put_57, X9_put_58, X9_put_60 ep mH_obj, X9_put_63, X9_put_65, X9_put_68, X9_put_69, X9_put_72, X9_put_73, X9_put_78, X9_put_79, X9_put_81 k1 mH_obj, iOb_some, iClr_i, iClr_r, iClr_n, iClr_u, iClr_l, rf_s, rf_n, iB_0, iSum_nil, Option.isSome_some, Bool.true_eq_false, if_false, oI_s, if_neg (oI_ne (show 0 < 2 ^ 31 by decide)), if_neg (oI_ne (show g < 2 ^ 31 by omega)), mp25, if_pos (show nI 0 = 0 from rfl)]
          · simp only [X9_put_0, X9_put_1, X9_put_2 et mH_obj, X9_put_5, X9_put_8, X9_put_9, X9_put_13, X9_put_14, X9_put_15, X9_put_16 e1 mH_obj, X9_put_19, X9_put_20, X9_put_21 e5 mH_obj, X9_put_24, X9_put_26, X9_put_28, X9_put_29, X9_put_32, X9_put_33, X9_put_34 e6 mH_obj, X9_put_37, X9_put_38, X9_put_41, X9_put_42, X9_put_47, X9_put_48, X9_put_49, X9_put_50, X9_put_53, X9_put_54, X9_put_55, X9_put_56, X9_put_57, X9_put_58, X9_put_60 ep mH_obj, X9_put_63, X9_put_65, X9_put_68, X9_put_69, X9_put_72, X9_put_73, X9_put_75 epl mH_obj, X9_put_78, X9_put_79, X9_put_81 k1 mH_obj, iOb_some, iClr_i, iClr_r, iClr_n, iClr_u, iClr_l, rf_s, rf_n, iB_0, iSum_nil, Option.isSome_some, Bool.true_eq_false, if_false, oI_s, if_neg (oI_ne (show i < 2 ^ 31 by omega)), if_neg (oI_ne (show g < 2 ^ 31 by omega)), mp25, if_neg (nI_ne0 (show 0 < i by omega) (show i < 2 ^ 31 by omega))]
        rw [hpre]
        have d1 : iEv mX9_does [.ref x, .ref (x + 18), .int 0] (mH b x s2) (some (.int (iB (fitT e (n, K, B, D))))) (mH b x s3) := d1
        by_cases c : fitT e (n, K, B, D) = true
        · rw [if_pos c]
          rw [c] at d1
          have k2' := k2.one.ex d4 (by decide) (by decide)
          obtain ⟨h4, k4, s4, rfl, k5⟩ := ev9_newPatch (b := b) (x := x) (c := 0) (C := fun _ => 0) (so := 0) (sr := -1) (hL.ex x3) hW k2' (by omega) (by omega) (fun z => absurd z (by decide)) (fun _ => rfl)
          simp only [X9_put_84, X9_put_85, X9_put_86, X9_put_89, X9_put_90 d1 mH_obj (cat_r (x + 18)), X9_put_93, X9_put_96, X9_put_97, X9_put_102, X9_put_103, X9_put_104, X9_put_105, X9_put_106 k4 mH_obj, X9_put_109, iOb_some, iClr_i, iClr_r, iClr_n, iClr_u, iClr_l, rf_s, rf_n, iB_0, iSum_nil, mg26, Bool.true_eq_false, if_false]
          exact ⟨rfl, s4, rfl, k5⟩
        · rw [if_neg c]
          rw [Bool.eq_false_iff.mpr c] at d1
          simp only [X9_put_84, X9_put_85, X9_put_86, X9_put_89, X9_put_90 d1 mH_obj (cat_r (x + 18)), X9_put_93, X9_put_96, X9_put_97, X9_put_99 (ev9_noV (v := -6) (r := 6) (by decide) rfl) mH_obj, X9_put_102, iOb_some, iClr_i, iClr_r, iClr_n, iClr_u, iClr_l, rf_s, rf_n, iB_0, iSum_nil, mg26, if_true]
          exact m9_rf (hL.ex x3) (by decide)
end PUT

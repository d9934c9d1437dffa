/-! days: the reference -/
section DAY9
variable {h : iHp} {i j k l x m a c p q r t n : Nat} {W : wW} {b : iHp} {s s0 s1 s2 s' : mS} {U V T : tT} {K B D C E F : Nat → Int32} {d : Nat → Nat} {X : dyX} {w : sT}
abbrev LDY : List Nat := [10, 18, 19, 20, 21, 22, 23, 24]
theorem ev9_draw {v : Int32} (hv : ¬ v = 0) : iEv mX9_draw [.ref x, .int v] (mH b x s) (some (.int (sDraw (sNext (s.1 10)) v))) (mH b x (mSet s 10 (sNext (s.1 10)))) := by
  refine J9_draw ?_
  simp only [X9_draw_0, X9_draw_1, X9_draw_2, X9_draw_5, X9_draw_8, X9_draw_9, X9_draw_12, X9_draw_13, X9_draw_16, X9_draw_17, X9_draw_20, X9_draw_22, X9_draw_23, X9_draw_24 hv, X9_draw_25, iOb_some, iClr_i, iClr_r, iClr_n, iClr_u, iClr_l, rf_s, rf_n, iB_0, iSum_nil, mg10, mp10]
  exact ⟨rfl, rfl⟩
theorem ev9_drawV {v se : Int32} (hv : ¬ v = 0) (hs : sNext (s.1 10) = se) : iEv mX9_draw [.ref x, .int v] (mH b x s) (some (.int (sDraw se v))) (mH b x (mSet s 10 se)) := by
  subst hs
  exact ev9_draw hv
theorem mSet_10 {se : Int32} : (mSet s 10 se).1 10 = se := by
  show va_up s.1 10 se 10 = se
  exact if_pos rfl
theorem dyT_eq {se S1 S2 S3 k : Int32} (h1 : sNext se = S1) (h2 : sNext S1 = S2) (h3 : sNext S2 = S3) (hk : dyK se = k) : dyT ((n, K, B, D), se) = (match tWhere K n k with
    | none => if n < 40 then (dyI k (97 + sDraw S2 26) (dyP S3 n) (n, K, B, D), S3) else ((n, K, B, D), S1)
    | some i => if i ≠ 0 ∧ tKids D n i = 0 then (if sDraw S2 2 = 0 then (dyC i (n, K, B, D), S2) else (dyR i (97 + sDraw S3 26) (n, K, B, D), S3)) else (dyR i (97 + sDraw S2 26) (n, K, B, D), S2)) := by
  subst h1
  subst h2
  subst h3
  subst hk
  unfold dyT
  rfl
def dyQ (b : iHp) (x : Nat) (s : mS) (X : dyX) (r : Option Value) (h1 : iHp) : Prop := r = none ∧ ∃ s' U', h1 = mH b x s' ∧ wIs s' U' ∧ tEq U' X.1 ∧ s'.1 10 = X.2 ∧ sEx LDY s s'
theorem wIs.ex {L : List Nat} (hw : wIs s U) (hx : sEx L s s') (h1 : 18 ∉ L) (h2 : 19 ∉ L) (h3 : 20 ∉ L) (h4 : 21 ∉ L) : wIs s' U := ⟨(hx.1 18 h1).trans hw.1, (hx.2.1 19 h2).trans hw.2.1, (hx.2.1 20 h3).trans hw.2.2.1, (hx.2.1 21 h4).trans hw.2.2.2⟩
theorem ev9_day (hw : wIs s U) (hU : tOk U) : ∃ r h1, iEv mX9_day [.ref x] (mH b x s) r h1 ∧ dyQ b x s (dyT (U, s.1 10)) r h1 := by
  obtain ⟨n, K, B, D⟩ := U
  obtain ⟨hK, d, hd, h5⟩ := id hU
  obtain ⟨w1, w2, w3, w4⟩ := id hw
  dsimp only at hK hd h5 w1 w2 w3 w4
  have h60 := hK.le
  have h0 := h5.1
  refine I9_day ?_
  obtain ⟨se, hse⟩ : ∃ se, s.1 10 = se := ⟨_, rfl⟩
  obtain ⟨S1, e1⟩ : ∃ S, sNext se = S := ⟨_, rfl⟩
  obtain ⟨S2, e2⟩ : ∃ S, sNext S1 = S := ⟨_, rfl⟩
  obtain ⟨S3, e3⟩ : ∃ S, sNext S2 = S := ⟨_, rfl⟩
  obtain ⟨k, ek⟩ : ∃ k, dyK se = k := ⟨_, rfl⟩
  have eK : sDraw S1 60 + 1 = k := by
    rw [← ek, ← e1]
    rfl
  rw [hse, dyT_eq e1 e2 e3 ek]
  have d1 := ev9_drawV (b := b) (x := x) (s := s) (v := 60) (by decide) ((congrArg sNext hse).trans e1)
  have y1 : wIs (mSet s 10 S1) (n, K, B, D) := hw.ex (mSet_ex (L := [10]) (by decide)) (by decide) (by decide) (by decide) (by decide)
  have ef := ev9_find (b := b) (x := x) y1.1 (by show n ≤ 66; omega) k
  rw [y1.2.1] at ef
  have x1 : sEx LDY s (mSet s 10 S1) := mSet_ex (by decide)
  have ef : iEv mX9_find [.ref x, .int k] (mH b x (mSet s 10 S1)) (some (.int (oI (tWhere K n k)))) (mH b x (mSet s 10 S1)) := ef
  cases hwh : tWhere K n k with
  | none =>
    rw [hwh] at ef
    dsimp only
    by_cases c : n < 40
    · rw [if_pos c]
      obtain ⟨p1, p2⟩ := dyP_n (se := S3) h0 (by omega)
      have c22 : ∀ (s : mS) v, iStI (mH b x s) (x + 15) 0 v = some (mH b x (mPut s 22 0 v)) := fun s v => ms22 (j := 0) (by decide)
      have c23 : ∀ (s : mS) v, iStI (mH b x s) (x + 16) 0 v = some (mH b x (mPut s 23 0 v)) := fun s v => ms23 (j := 0) (by decide)
      have c24 : ∀ (s : mS) v, iStI (mH b x s) (x + 17) 0 v = some (mH b x (mPut s 24 0 v)) := fun s v => ms24 (j := 0) (by decide)
      have d2 := ev9_drawV (b := b) (x := x) (s := mPut (mSet s 10 (S1)) 22 0 (k)) (v := 26) (by decide) ((congrArg sNext (show (mPut (mSet s 10 S1) 22 0 k).1 10 = S1 from mSet_10 (s := s))).trans e2)
      have x2 : sEx LDY s (mSet (mPut (mSet s 10 (S1)) 22 0 (k)) 10 (S2)) := (x1.trans (mPut_ex (by decide))).trans (mSet_ex (by decide))
      have z2 : wIs (mSet (mPut (mSet s 10 (S1)) 22 0 (k)) 10 (S2)) (n, K, B, D) := y1.ex (L := [10, 22]) ((mPut_ex (by decide)).trans (mSet_ex (by decide))) (by decide) (by decide) (by decide) (by decide)
      have q2 : (mSet (mPut (mSet s 10 (S1)) 22 0 (k)) 10 (S2)).1 10 = S2 := mSet_10
      have u2 : (mSet (mPut (mSet s 10 (S1)) 22 0 (k)) 10 (S2)).2.1 22 0 = k := by
        show (mPut (mSet s 10 (S1)) 22 0 (k)).2.1 22 0 = _
        rw [mPut_at, if_pos rfl, if_pos rfl]
      simp only [X9_day_0, X9_day_1, X9_day_3 d1 mH_obj, X9_day_6, X9_day_7, X9_day_8, X9_day_9, X9_day_10, X9_day_11 ef mH_obj, X9_day_14, X9_day_15, X9_day_16, X9_day_17, X9_day_20, X9_day_21, X9_day_24, X9_day_26, X9_day_29, X9_day_30, X9_day_33, X9_day_34, X9_day_35, X9_day_36, X9_day_37, X9_day_40, X9_day_41, X9_day_43, X9_day_44, X9_day_46 d2 mH_obj, iOb_some, iClr_i, iClr_r, iClr_n, iClr_u, iClr_l, rf_s, rf_n, iB_0, iSum_nil, oI_n, if_true, mg18, y1.1, if_neg (show ¬ (40 : Int32) ≤ nI n from nI_ge (b := 40) c (by decide)), mg22, mg23, mg24, eK, c22]
      generalize mSet (mPut (mSet s 10 (S1)) 22 0 (k)) 10 (S2) = s2 at z2 q2 x2 u2 ⊢
      generalize hv : 97 + sDraw (S2) 26 = v
      have z3 : wIs (mPut (mPut s2 23 0 v) 24 0 0) (n, K, B, D) := z2.ex (L := [23, 24]) ((mPut_ex (by decide)).trans (mPut_ex (by decide))) (by decide) (by decide) (by decide) (by decide)
      have d3 := ev9_drawV (b := b) (x := x) (s := mPut (mPut s2 23 0 v) 24 0 0) (v := nI n) (nI_ne0 h0 (by omega)) ((congrArg sNext q2).trans e3)
      rw [p1] at d3
      have z4 : wIs (mSet (mPut (mPut s2 23 0 v) 24 0 0) 10 (S3)) (n, K, B, D) := z3.ex (L := [10]) (mSet_ex (by decide)) (by decide) (by decide) (by decide) (by decide)
      have x4 : sEx LDY s (mSet (mPut (mPut s2 23 0 v) 24 0 0) 10 (S3)) := ((x2.trans (mPut_ex (by decide))).trans (mPut_ex (by decide))).trans (mSet_ex (by decide))
      have u4 : (mSet (mPut (mPut s2 23 0 v) 24 0 0) 10 (S3)).2.1 22 0 = k := by
        show (mPut (mPut s2 23 0 v) 24 0 0).2.1 22 0 = _
        rw [mPut_at, if_neg (by decide), mPut_at, if_neg (by decide)]
        exact u2
      have v4 : (mSet (mPut (mPut s2 23 0 v) 24 0 0) 10 (S3)).2.1 23 0 = v := by
        show (mPut (mPut s2 23 0 v) 24 0 0).2.1 23 0 = _
        rw [mPut_at, if_neg (by decide), mPut_at, if_pos rfl, if_pos rfl]
      have w4 : (mSet (mPut (mPut s2 23 0 v) 24 0 0) 10 (S3)).2.1 24 0 = 0 := by
        show (mPut (mPut s2 23 0 v) 24 0 0).2.1 24 0 = _
        rw [mPut_at, if_pos rfl, if_pos rfl]
      have q4 : (mSet (mPut (mPut s2 23 0 v) 24 0 0) 10 (S3)).1 10 = S3 := mSet_10
      simp only [X9_day_49, X9_day_50, X9_day_51, X9_day_52, X9_day_55, X9_day_56, X9_day_57, X9_day_58, X9_day_59, X9_day_60, X9_day_61, X9_day_62, X9_day_65 d3 mH_obj, iOb_some, iClr_i, iClr_r, iClr_n, iClr_u, iClr_l, rf_s, rf_n, iB_0, iSum_nil, mg18, z3.1, mg24, c23, c24, hv]
      generalize mSet (mPut (mPut s2 23 0 v) 24 0 0) 10 (S3) = s4 at z4 q4 x4 u4 v4 w4 ⊢
      have ep := ev9_puts (b := b) (x := x) (s := s4) (n := n) (m := 1) (K := K) (B := B) (D := D) (C := s4.2.1 22) (E := s4.2.1 23) (F := s4.2.1 24) (p := dyP (S3) n) (pl := 0) p2 (by decide) (by omega)
      rw [← z4.eq, show nI 1 = 1 from rfl, show nI 0 = 0 from rfl] at ep
      simp only [X9_day_68, X9_day_69 ep mH_obj, X9_day_72, X9_day_73, X9_day_74, X9_day_77, iOb_some, iClr_i, iClr_r, iClr_n, iClr_u, iClr_l, rf_s, rf_n, iB_0, iSum_nil]
      refine ⟨rfl, _, _, rfl, wIs_wS (T := (n + 1, _, _, _)), ⟨rfl, fun q hq => ?_⟩, q4, x4.trans (wS_ex.mono (by decide))⟩
      have hc : tChild D n (dyP (S3) n) 0 = dyP (S3) n + 1 := rfl
      have hq : q < n + 1 := hq
      dsimp only
      rw [hc]
      exact ⟨tPt1_tI1 (by omega) hq u4, tPt1_tI1 (by omega) hq v4, tPt1_tI1 (K := D) (C := fun r => s4.2.1 24 r + (D _ + 1)) (by omega) hq (by show s4.2.1 24 0 + _ = _; rw [w4]; exact Int32.zero_add _)⟩
    · rw [if_neg c]
      simp only [X9_day_0, X9_day_1, X9_day_3 d1 mH_obj, X9_day_6, X9_day_7, X9_day_8, X9_day_9, X9_day_10, X9_day_11 ef mH_obj, X9_day_14, X9_day_15, X9_day_16, X9_day_17, X9_day_20, X9_day_21, X9_day_24, X9_day_26, X9_day_29, X9_day_30, X9_day_33, X9_day_34, X9_day_35, X9_day_36, X9_day_37, X9_day_40, X9_day_41, X9_day_43, X9_day_44, X9_day_49, X9_day_50, X9_day_51, X9_day_52, X9_day_55, X9_day_56, X9_day_57, X9_day_58, X9_day_59, X9_day_60, X9_day_61, X9_day_62, X9_day_68, X9_day_72, X9_day_73, X9_day_74, X9_day_77, iOb_some, iClr_i, iClr_r, iClr_n, iClr_u, iClr_l, rf_s, rf_n, iB_0, iSum_nil, eK, oI_n, if_true, mg18, y1.1, if_pos (show (40 : Int32) ≤ nI n from nI_le (a := 40) (by omega) (by omega))]
      exact ⟨rfl, _, _, rfl, y1, tEq.refl, mSet_10, x1⟩
  | some i =>
    rw [hwh] at ef
    dsimp only
    have hi := (tWhere_lt hwh).1
    have ren : ∀ (s1 : mS) (S S' : Int32), wIs s1 (n, K, B, D) → s1.1 10 = S → sNext S = S' → sEx LDY s s1 → iWp 4 mX9_day 107 [.ref x, .int k, .int (nI i)] [] (mH b x s1) (dyQ b x s (dyR i (97 + sDraw S' 26) (n, K, B, D), S')) := by
      intro s1 S S' g1 g2 g3 g4
      have d2 := ev9_drawV (b := b) (x := x) (s := s1) (v := 26) (by decide) ((congrArg sNext g2).trans g3)
      simp only [X9_day_107, X9_day_108, X9_day_111, X9_day_112, X9_day_114, X9_day_115, X9_day_117 d2 mH_obj, X9_day_120, X9_day_121, X9_day_122, iOb_some, iClr_i, iClr_r, iClr_n, iClr_u, iClr_l, rf_s, rf_n, iB_0, iSum_nil, mg20, ms20 (show i < 66 by omega)]
      refine ⟨rfl, _, (n, K, upd B i (97 + sDraw S' 26), D), rfl, ⟨g1.1, g1.2.1, ?_, g1.2.2.2⟩, tEq.refl, mSet_10 (s := s1), (g4.trans (mSet_ex (by decide))).trans (mPut_ex (by decide))⟩
      show va_up s1.2.1 20 (upd (s1.2.1 20) i (97 + sDraw S' 26)) 20 = upd B i (97 + sDraw S' 26)
      rw [show s1.2.1 20 = B from g1.2.2.1]
      exact if_pos rfl
    by_cases c0 : i = 0
    · subst c0
      rw [if_neg (fun z => z.1 rfl)]
      simp only [X9_day_0, X9_day_1, X9_day_3 d1 mH_obj, X9_day_6, X9_day_7, X9_day_8, X9_day_9, X9_day_10, X9_day_11 ef mH_obj, X9_day_14, X9_day_15, X9_day_16, X9_day_17, X9_day_20, X9_day_21, X9_day_24, X9_day_26, X9_day_29, X9_day_30, X9_day_33, X9_day_34, X9_day_35, X9_day_36, X9_day_37, X9_day_40, X9_day_41, X9_day_43, X9_day_44, X9_day_49, X9_day_50, X9_day_51, X9_day_52, X9_day_55, X9_day_56, X9_day_57, X9_day_58, X9_day_59, X9_day_60, X9_day_61, X9_day_62, X9_day_68, X9_day_72, X9_day_73, X9_day_74, X9_day_77, X9_day_78, X9_day_79, iOb_some, iClr_i, iClr_r, iClr_n, iClr_u, iClr_l, rf_s, rf_n, iB_0, iSum_nil, eK, oI_s, if_neg (oI_ne (show 0 < 2 ^ 31 by decide)), if_pos (show nI 0 ≤ 0 by decide)]
      exact ren _ S1 S2 y1 mSet_10 e2 x1
    · have hkl := tKids_le (D := D) (n := n) (i := i)
      have ec := ev9_children (b := b) (x := x) y1.1 (by show n ≤ 66; omega) hi
      rw [y1.2.2.2] at ec
      have ec : iEv mX9_children [.ref x, .int (nI i)] (mH b x (mSet s 10 S1)) (some (.int (nI (tKids D n i)))) (mH b x (mSet s 10 S1)) := ec
      by_cases c1 : tKids D n i = 0
      · rw [if_pos ⟨c0, c1⟩]
        rw [c1] at ec
        have d2 := ev9_drawV (b := b) (x := x) (s := mSet s 10 S1) (v := 2) (by decide) ((congrArg sNext (mSet_10 (s := s) (se := S1))).trans e2)
        have y2 : wIs (mSet (mSet s 10 S1) 10 S2) (n, K, B, D) := y1.ex (L := [10]) (mSet_ex (by decide)) (by decide) (by decide) (by decide) (by decide)
        have x2 : sEx LDY s (mSet (mSet s 10 S1) 10 S2) := x1.trans (mSet_ex (by decide))
        by_cases c2 : sDraw S2 2 = 0
        · rw [if_pos c2]
          have q2 : (mSet (mSet s 10 S1) 10 S2).1 10 = S2 := mSet_10 (s := mSet s 10 S1)
          simp only [X9_day_0, X9_day_1, X9_day_3 d1 mH_obj, X9_day_6, X9_day_7, X9_day_8, X9_day_9, X9_day_10, X9_day_11 ef mH_obj, X9_day_14, X9_day_15, X9_day_16, X9_day_17, X9_day_20, X9_day_21, X9_day_24, X9_day_26, X9_day_29, X9_day_30, X9_day_33, X9_day_34, X9_day_35, X9_day_36, X9_day_37, X9_day_40, X9_day_41, X9_day_43, X9_day_44, X9_day_49, X9_day_50, X9_day_51, X9_day_52, X9_day_55, X9_day_56, X9_day_57, X9_day_58, X9_day_59, X9_day_60, X9_day_61, X9_day_62, X9_day_68, X9_day_72, X9_day_73, X9_day_74, X9_day_77, X9_day_78, X9_day_79, X9_day_82, X9_day_83, X9_day_84 ec mH_obj, X9_day_87, X9_day_90, X9_day_91, X9_day_92 d2 mH_obj, X9_day_95, iOb_some, iClr_i, iClr_r, iClr_n, iClr_u, iClr_l, rf_s, rf_n, iB_0, iSum_nil, eK, oI_s, if_neg (oI_ne (show i < 2 ^ 31 by omega)), if_neg (nI_nle (show 0 < i by omega) (show i < 2 ^ 31 by omega)), if_pos (show nI 0 = 0 from rfl), if_pos c2]
          generalize mSet (mSet s 10 S1) 10 S2 = s2 at y2 x2 q2 ⊢
          have eu := ev9_cuts (b := b) (x := x) (s := s2) (n := n) (m := 1) (K := K) (B := B) (D := D) (C := s2.2.1 22) (E := s2.2.1 23) (F := s2.2.1 24) (i := i) (by omega) (by omega) (by decide)
          rw [← y2.eq, show nI 1 = 1 from rfl] at eu
          simp only [X9_day_98, X9_day_99, X9_day_100, X9_day_101 eu mH_obj, X9_day_104, X9_day_107, X9_day_108, X9_day_111, X9_day_112, X9_day_114, X9_day_115, X9_day_120, X9_day_121, X9_day_122, iOb_some, iClr_i, iClr_r, iClr_n, iClr_u, iClr_l, rf_s, rf_n, iB_0, iSum_nil]
          refine ⟨rfl, _, _, rfl, wIs_wS (T := (n - 1, _, _, _)), ⟨rfl, fun q hq => ?_⟩, q2, x2.trans (wS_ex.mono (by decide))⟩
          have hq : q < n - 1 := hq
          exact ⟨tSh1_tO1 hq, tSh1_tO1 hq, tSh1_tO1 hq⟩
        · rw [if_neg c2]
          simp only [X9_day_0, X9_day_1, X9_day_3 d1 mH_obj, X9_day_6, X9_day_7, X9_day_8, X9_day_9, X9_day_10, X9_day_11 ef mH_obj, X9_day_14, X9_day_15, X9_day_16, X9_day_17, X9_day_20, X9_day_21, X9_day_24, X9_day_26, X9_day_29, X9_day_30, X9_day_33, X9_day_34, X9_day_35, X9_day_36, X9_day_37, X9_day_40, X9_day_41, X9_day_43, X9_day_44, X9_day_49, X9_day_50, X9_day_51, X9_day_52, X9_day_55, X9_day_56, X9_day_57, X9_day_58, X9_day_59, X9_day_60, X9_day_61, X9_day_62, X9_day_68, X9_day_72, X9_day_73, X9_day_74, X9_day_77, X9_day_78, X9_day_79, X9_day_82, X9_day_83, X9_day_84 ec mH_obj, X9_day_87, X9_day_90, X9_day_91, X9_day_92 d2 mH_obj, X9_day_95, iOb_some, iClr_i, iClr_r, iClr_n, iClr_u, iClr_l, rf_s, rf_n, iB_0, iSum_nil, eK, oI_s, if_neg (oI_ne (show i < 2 ^ 31 by omega)), if_neg (nI_nle (show 0 < i by omega) (show i < 2 ^ 31 by omega)), if_pos (show nI 0 = 0 from rfl), if_neg c2]
          exact ren _ S2 S3 y2 (mSet_10 (s := mSet s 10 S1)) e3 x2
      · rw [if_neg (fun z => c1 z.2)]
        simp only [X9_day_0, X9_day_1, X9_day_3 d1 mH_obj, X9_day_6, X9_day_7, X9_day_8, X9_day_9, X9_day_10, X9_day_11 ef mH_obj, X9_day_14, X9_day_15, X9_day_16, X9_day_17, X9_day_20, X9_day_21, X9_day_24, X9_day_26, X9_day_29, X9_day_30, X9_day_33, X9_day_34, X9_day_35, X9_day_36, X9_day_37, X9_day_40, X9_day_41, X9_day_43, X9_day_44, X9_day_49, X9_day_50, X9_day_51, X9_day_52, X9_day_55, X9_day_56, X9_day_57, X9_day_58, X9_day_59, X9_day_60, X9_day_61, X9_day_62, X9_day_68, X9_day_72, X9_day_73, X9_day_74, X9_day_77, X9_day_78, X9_day_79, X9_day_82, X9_day_83, X9_day_84 ec mH_obj, X9_day_87, iOb_some, iClr_i, iClr_r, iClr_n, iClr_u, iClr_l, rf_s, rf_n, iB_0, iSum_nil, eK, oI_s, if_neg (oI_ne (show i < 2 ^ 31 by omega)), if_neg (nI_nle (show 0 < i by omega) (show i < 2 ^ 31 by omega)), if_neg (nI_ne0 (show 0 < tKids D n i by omega) (show tKids D n i < 2 ^ 31 by omega))]
        exact ren _ S1 S2 y1 mSet_10 e2 x1
end DAY9

/-! set, on both sides -/
section SETS
variable {h h' : iHp} {o sN n k i j x m a q : Nat} {im : Option Nat} {R E T P : Nat → Option Nat} {sh rf C : Nat → Int32} {W : wW} {b : iHp} {s s' : mS} {v : Int32} {f g : Nat → Int64} {so : Int32}
/-- a row's content changed, on the class's side -/
theorem cRe.putrow (hR : cRe h o sN im R sh rf n k E C T P W) (hj : j < 8) {z : Int32 × Nat × (Nat → Int64)} (e : (W.2.2.1 j).1 = some z) (e2 : (W.2.2.1 j).2 = -1) (hr : R j = some a) (hw : rwAt h a z.1 z.2.1 f) (oa : oc h o sN a) (ob : oc h o sN (a + 1)) (hg : ∀ i, i < z.2.1 → g i = (fun i => g i) i) {u : Nat → Int64} (hu : ∀ i, i < z.2.1 → g i = u i) : cRe (rwPut h a z.2.1 g) o sN im R sh rf n k E C T P (wSh W j (some (z.1, z.2.1, u), -1)) := by
  have l1 := hR.sNl
  have hrv := hR.shv hj
  obtain ⟨⟨a1, a2, a3, a4⟩, hd, hs, hl, hb, hi, hwr, hf⟩ := hR
  have hne : ∀ q c, h.1 q = some c → (∀ m z, c ≠ .inl (1, m, z)) → q ≠ a + 1 := by
    intro q c hq hc z
    rw [z, hw.2.1] at hq
    cases hq
    exact hc _ _ rfl
  have hcell : ∀ q, q ≠ a + 1 → (rwPut h a z.2.1 g).1 q = h.1 q := fun q hq => if_neg hq
  have ag : agr h (rwPut h a z.2.1 g) o sN sN := by
    intro q hq
    refine ⟨hq, ?_⟩
    by_cases c : q = a + 1
    · rw [c]
      exact Or.inr ⟨_, _, hw.2.1⟩
    · exact Or.inl (hcell q c)
  have lb := ob.1
  have oc2 := ob.2.2
  refine ⟨⟨(hcell _ (by omega)).trans a1, (hcell _ (by omega)).trans a2, (hcell _ (by omega)).trans a3, (hcell _ (by omega)).trans a4⟩, ⟨(hcell _ (by omega)).trans hd.1, (hcell _ (by omega)).trans hd.2.1, (hcell _ (by omega)).trans hd.2.2.1, hd.2.2.2⟩, ⟨(hcell _ (by omega)).trans hs.1, (hcell _ (by omega)).trans hs.2.1, (hcell _ (by omega)).trans hs.2.2.1, hs.2.2.2⟩, hl, ag.st hb, ag.img hi, ⟨fun p hp => ?_, hwr.2⟩, hf⟩
  show bSh _ o sN (R p) (sh p) (va_up W.2.2.1 j (some (z.1, z.2.1, u), -1) p)
  unfold va_up
  by_cases c : p = j
  · rw [if_pos c, c, hr]
    exact ⟨hrv.trans e2, ⟨g, rwPut_at hw, hu⟩, oa, ob⟩
  · rw [if_neg c]
    obtain ⟨b1, b2⟩ := hwr.1 p hp
    refine ⟨b1, ?_⟩
    cases w : R p with
    | none =>
      rw [w] at b2
      cases w2 : (W.2.2.1 p).1 <;> (rw [w2] at b2; exact b2)
    | some a' =>
      rw [w] at b2
      cases w2 : (W.2.2.1 p).1 with
      | none => rw [w2] at b2; exact b2
      | some z' =>
        rw [w2] at b2
        obtain ⟨⟨f', r1, r2⟩, r3, r4⟩ := b2
        have na : a' ≠ a := by
          intro y
          rw [y] at w
          exact c (hwr.2 p j a hp hj w hr)
        refine ⟨⟨f', ⟨(hcell _ (hne a' _ r1.1 (fun m z w => by cases w))).trans r1.1, (hcell _ (by omega)).trans r1.2.1, r1.2.2⟩, r2⟩, r3, r4⟩
def aSet (W : wW) (s i : Int32) (v : Int64) : Int32 × wW := match iIx s 8 with
  | none => (-1, wRef W 1)
  | some j => match (W.2.2.1 j).1 with
    | none => if (W.2.2.1 j).2 = -1 then (-3, wRef W 3) else (-2, wRef W 2)
    | some z => match iIx i z.2.1 with
      | none => (-5, wRef W 5)
      | some q => (1, wSh W j (some (z.1, z.2.1, vp_updL z.2.2 q (rwCut z.1 v)), -1))
theorem c8_set (hR : cRep h o W) (hW : wOk W) (s i : Int32) (v : Int64) : ∃ r h1, iEv mX8_set [.ref o, .int s, .int i, .long v] h r h1 ∧ c8P h o (aSet W s i v) r h1 := by
  obtain ⟨sN, im, R, sh, rf, n, k, E, C, T, P, hR⟩ := hR
  refine I8_set ?_
  unfold aSet
  have ewhy := fun hn => c8_why hR (i := s) hn
  unfold aNoRow at ewhy
  rcases iIx_cases s (n := 8) (by decide) with ⟨e, z⟩ | ⟨j, hj, rfl, e⟩
  · rw [e] at ewhy ⊢
    dsimp only at ewhy ⊢
    simp only [X8_set_0, X8_set_1, X8_set_2 (c8_rowN hR (fun q hq => by rw [e] at hq; cases hq)) hR.ob, X8_set_5, X8_set_5n, X8_set_7, X8_set_7n, X8_set_9, X8_set_9n, X8_set_12, X8_set_13, X8_set_14, X8_set_15 (ewhy (by decide)) hR.ob, X8_set_18 (ev8_refuse hR (v := -1) (r := 1) (by decide) (by decide) rfl) hR.ob, X8_set_21, iOb_some, iClr_i, iClr_r, iClr_n, iClr_u, iClr_l, rf_s, rf_n, iB_0, iSum_nil]
    exact c8_end hR (by decide)
  · rw [e] at ewhy ⊢
    dsimp only at ewhy ⊢
    cases e2 : (W.2.2.1 j).1 with
    | none =>
      have hrow := c8_rowN hR (i := nI j) (fun q hq => by rw [e] at hq; cases hq; exact e2)
      rw [e2] at ewhy
      dsimp only at ewhy ⊢
      by_cases c : (W.2.2.1 j).2 = -1
      · rw [if_pos c] at ewhy ⊢
        simp only [X8_set_0, X8_set_1, X8_set_2 hrow hR.ob, X8_set_5, X8_set_5n, X8_set_7, X8_set_7n, X8_set_9, X8_set_9n, X8_set_12, X8_set_13, X8_set_14, X8_set_15 (ewhy (by decide)) hR.ob, X8_set_18 (ev8_refuse hR (v := -3) (r := 3) (by decide) (by decide) rfl) hR.ob, X8_set_21, iOb_some, iClr_i, iClr_r, iClr_n, iClr_u, iClr_l, rf_s, rf_n, iB_0, iSum_nil]
        exact c8_end hR (by decide)
      · rw [if_neg c] at ewhy ⊢
        simp only [X8_set_0, X8_set_1, X8_set_2 hrow hR.ob, X8_set_5, X8_set_5n, X8_set_7, X8_set_7n, X8_set_9, X8_set_9n, X8_set_12, X8_set_13, X8_set_14, X8_set_15 (ewhy (by decide)) hR.ob, X8_set_18 (ev8_refuse hR (v := -2) (r := 2) (by decide) (by decide) rfl) hR.ob, X8_set_21, iOb_some, iClr_i, iClr_r, iClr_n, iClr_u, iClr_l, rf_s, rf_n, iB_0, iSum_nil]
        exact c8_end hR (by decide)
    | some z =>
      obtain ⟨a, f, r1, r2, r3, r4, r5⟩ := hR.rS hj e2
      have h16 := r2.2.2
      have h8 := hW.2.2 j hj
      unfold shOk at h8
      rw [e2] at h8
      dsimp only
      rcases iIx_cases i (n := z.2.1) (by omega) with ⟨g, y⟩ | ⟨q, hq, rfl, g⟩
      · rw [g]
        simp only [X8_set_0, X8_set_1, X8_set_2 (c8_row hR hj r1) hR.ob, X8_set_5, X8_set_5n, X8_set_7, X8_set_7n, X8_set_9, X8_set_9n, X8_set_12, X8_set_13, X8_set_14, X8_set_21, X8_set_22, X8_set_22n, X8_set_24, X8_set_25 (ev_rhas0 r2 y) r2.o, X8_set_28, X8_set_31, X8_set_32, X8_set_34 (ev8_refuse hR (v := -5) (r := 5) (by decide) (by decide) rfl) hR.ob, X8_set_37, iOb_some, iClr_i, iClr_r, iClr_n, iClr_u, iClr_l, rf_s, rf_n, iB_0, iSum_nil, if_true]
        exact c8_end hR (by decide)
      · rw [g]
        simp only [X8_set_0, X8_set_1, X8_set_2 (c8_row hR hj r1) hR.ob, X8_set_5, X8_set_5n, X8_set_7, X8_set_7n, X8_set_9, X8_set_9n, X8_set_12, X8_set_13, X8_set_14, X8_set_21, X8_set_22, X8_set_22n, X8_set_24, X8_set_25 (ev_rhas r2 hq) r2.o, X8_set_28, X8_set_31, X8_set_32, X8_set_37, X8_set_38, X8_set_38n, X8_set_40, X8_set_41, X8_set_42 (ev_rkeep r2 hq v) r2.o, X8_set_45, X8_set_46, iOb_some, iClr_i, iClr_r, iClr_n, iClr_u, iClr_l, rf_s, rf_n, iB_0, iSum_nil, Bool.true_eq_false, if_false]
        refine ⟨rfl, ⟨sN, im, R, sh, rf, n, k, E, C, T, P, hR.putrow hj e2 h8.2.2 r1 r2 r4 r5 (fun _ _ => rfl) (fun p hp => ?_)⟩, frZ.set (Or.inr r5.1), Nat.le_refl _, Nat.le_add_right _ _, Nat.le_refl _, Nat.le_add_right _ _⟩
        unfold vp_updL
        rw [r3 p hp]
theorem m9_set (hR : mRel s W) (hW : wOk W) (v i : Int32) (u : Int64) : ∃ r h1, iEv mX9_set [.ref x, .int v, .int i, .long u] (mH b x s) r h1 ∧ m9P b x (aSet W v i u) r h1 := by
  refine I9_set ?_
  unfold aSet
  have en := ev9_noRow (b := b) (x := x) hR hW (i := v)
  unfold aNoRow at en
  rcases iIx_cases v (n := 8) (by decide) with ⟨e, z⟩ | ⟨j, hj, rfl, e⟩
  · rw [e] at en ⊢
    simp only [X9_set_0, X9_set_1, X9_set_2 en mH_obj, X9_set_5, X9_set_7, X9_set_9, X9_set_12, X9_set_13, X9_set_15 (ev9_noV (v := -1) (r := 1) (by decide) rfl) mH_obj, X9_set_18, iOb_some, iClr_i, iClr_r, iClr_n, iClr_u, iClr_l, rf_s, rf_n, iB_0, iSum_nil, if_neg (show ¬ (0 : Int32) ≤ -1 by decide)]
    exact m9_rf hR (by decide)
  · rw [e] at en ⊢
    dsimp only at en ⊢
    have h8 := hW.2.2 j hj
    unfold shOk at h8
    cases e2 : (W.2.2.1 j).1 with
    | none =>
      rw [e2] at en
      dsimp only at en ⊢
      by_cases c : (W.2.2.1 j).2 = -1
      · rw [if_pos c] at en ⊢
        simp only [X9_set_0, X9_set_1, X9_set_2 en mH_obj, X9_set_5, X9_set_7, X9_set_9, X9_set_12, X9_set_13, X9_set_15 (ev9_noV (v := -3) (r := 3) (by decide) rfl) mH_obj, X9_set_18, iOb_some, iClr_i, iClr_r, iClr_n, iClr_u, iClr_l, rf_s, rf_n, iB_0, iSum_nil, if_neg (show ¬ (0 : Int32) ≤ -3 by decide)]
        exact m9_rf hR (by decide)
      · rw [if_neg c] at en ⊢
        simp only [X9_set_0, X9_set_1, X9_set_2 en mH_obj, X9_set_5, X9_set_7, X9_set_9, X9_set_12, X9_set_13, X9_set_15 (ev9_noV (v := -2) (r := 2) (by decide) rfl) mH_obj, X9_set_18, iOb_some, iClr_i, iClr_r, iClr_n, iClr_u, iClr_l, rf_s, rf_n, iB_0, iSum_nil, if_neg (show ¬ (0 : Int32) ≤ -2 by decide)]
        exact m9_rf hR (by decide)
    | some z =>
      rw [e2] at en h8
      dsimp only at en h8 ⊢
      obtain ⟨f1, f2⟩ := (hR.2.2.1 j hj).2 z e2
      have hh := (hR.2.2.1 j hj).1
      rw [show hHold (W.2.2.1 j) = 100 + z.1 from by unfold hHold; rw [e2]] at hh
      have ewi := ev9_wi (i := i) (n := z.2.1) (by omega) (h := mH b x s)
      rcases iIx_cases i (n := z.2.1) (by omega) with ⟨g, y⟩ | ⟨q, hq, rfl, g⟩
      · rw [g] at ewi ⊢
        simp only [X9_set_0, X9_set_1, X9_set_2 en mH_obj, X9_set_5, X9_set_7, X9_set_9, X9_set_12, X9_set_13, X9_set_18, X9_set_19, X9_set_20, X9_set_21, X9_set_22, X9_set_25, X9_set_26, X9_set_27, X9_set_28, X9_set_29 ewi, X9_set_32, X9_set_35, X9_set_36, X9_set_38 (ev9_noV (v := -5) (r := 5) (by decide) rfl) mH_obj, X9_set_41, iOb_some, iClr_i, iClr_r, iClr_n, iClr_u, iClr_l, rf_s, rf_n, iB_0, iSum_nil, if_pos (show (0 : Int32) ≤ 0 by decide), mg12, ml12 hj, f1, i_w1, Option.isSome_none, if_true]
        exact m9_rf hR (by decide)
      · rw [g] at ewi ⊢
        have eso : 100 + z.1 - 100 = z.1 := by rw [Int32.add_comm, Int32.add_sub_cancel]
        have fin : m9P b x (1, wSh W j (some (z.1, z.2.1, vp_updL z.2.2 q (rwCut z.1 u)), -1)) (some (.int 1)) (mH b x (mPutL s (160 * j + q) (rwCut z.1 u))) := by
          refine ⟨rfl, _, rfl, hR.shf hj rfl (fun _ _ _ => rfl) (fun _ _ => ⟨rfl, rfl⟩) (fun p r hp1 hp2 hr => ?_) ⟨hh, fun r hr => ?_⟩ hW⟩
          · show vp_updL s.2.2 (160 * j + q) (rwCut z.1 u) (160 * p + r) = _
            exact pk_uLn (by omega)
          · cases hr
            refine ⟨f1, fun p hp => ?_⟩
            show vp_updL s.2.2 (160 * j + q) (rwCut z.1 u) (160 * j + p) = vp_updL z.2.2 q (rwCut z.1 u) p
            have hp : p < z.2.1 := hp
            by_cases c : p = q
            · rw [c, pk_uLs, pk_uLs]
            · rw [pk_uLn (by omega), pk_uLn c, f2 p hp]
        simp only [X9_set_0, X9_set_1, X9_set_2 en mH_obj, X9_set_5, X9_set_7, X9_set_9, X9_set_12, X9_set_13, X9_set_18, X9_set_19, X9_set_20, X9_set_21, X9_set_22, X9_set_25, X9_set_26, X9_set_27, X9_set_28, X9_set_29 ewi, X9_set_32, X9_set_35, X9_set_36, X9_set_41, X9_set_42, X9_set_43, X9_set_46, X9_set_47, X9_set_48, X9_set_50, X9_set_51, X9_set_53, X9_set_54, X9_set_57, X9_set_60, X9_set_61, X9_set_62, X9_set_63, X9_set_64, iOb_some, iClr_i, iClr_r, iClr_n, iClr_u, iClr_l, rf_s, rf_n, iB_0, iSum_nil, if_pos (show (0 : Int32) ≤ 0 by decide), mg12, ml12 hj, f1, i_w1, Option.isSome_some, Bool.true_eq_false, if_false, mg11, ml11 hj, hh, eso, mg13, i160]
        unfold rwCut at fin ⊢
        rcases h8.1 with c | c | c | c <;> rw [c] at fin ⊢
        · rw [if_pos rfl] at fin ⊢
          simp only [X9_set_66, X9_set_69, X9_set_70, X9_set_71, X9_set_72, X9_set_73, X9_set_76, X9_set_78, X9_set_79, X9_set_82, X9_set_83, X9_set_84, X9_set_85, X9_set_86, X9_set_89, X9_set_91, X9_set_92, X9_set_95, X9_set_96, X9_set_97, X9_set_98, X9_set_101, X9_set_102, X9_set_103, X9_set_104, iOb_some, iClr_i, iClr_r, iClr_n, iClr_u, iClr_l, rf_s, rf_n, iB_0, iSum_nil, if_true, ms13 (show 160 * j + q < 1280 by omega)]
          exact fin
        · rw [if_neg (show ¬ (1 : Int32) = 0 by decide), if_pos rfl] at fin ⊢
          simp only [X9_set_66, X9_set_69, X9_set_70, X9_set_71, X9_set_72, X9_set_73, X9_set_76, X9_set_78, X9_set_79, X9_set_82, X9_set_83, X9_set_84, X9_set_85, X9_set_86, X9_set_89, X9_set_91, X9_set_92, X9_set_95, X9_set_96, X9_set_97, X9_set_98, X9_set_101, X9_set_102, X9_set_103, X9_set_104, iOb_some, iClr_i, iClr_r, iClr_n, iClr_u, iClr_l, rf_s, rf_n, iB_0, iSum_nil, if_neg (show ¬ (1 : Int32) = 0 by decide), if_true, ms13 (show 160 * j + q < 1280 by omega)]
          exact fin
        · rw [if_neg (show ¬ (2 : Int32) = 0 by decide), if_neg (show ¬ (2 : Int32) = 1 by decide), if_pos rfl] at fin ⊢
          simp only [X9_set_66, X9_set_69, X9_set_70, X9_set_71, X9_set_72, X9_set_73, X9_set_76, X9_set_78, X9_set_79, X9_set_82, X9_set_83, X9_set_84, X9_set_85, X9_set_86, X9_set_89, X9_set_91, X9_set_92, X9_set_95, X9_set_96, X9_set_97, X9_set_98, X9_set_101, X9_set_102, X9_set_103, X9_set_104, iOb_some, iClr_i, iClr_r, iClr_n, iClr_u, iClr_l, rf_s, rf_n, iB_0, iSum_nil, if_neg (show ¬ (2 : Int32) = 0 by decide), if_neg (show ¬ (2 : Int32) = 1 by decide), if_true, ms13 (show 160 * j + q < 1280 by omega)]
          exact fin
        · rw [if_neg (show ¬ (3 : Int32) = 0 by decide), if_neg (show ¬ (3 : Int32) = 1 by decide), if_neg (show ¬ (3 : Int32) = 2 by decide)] at fin ⊢
          simp only [X9_set_66, X9_set_69, X9_set_70, X9_set_71, X9_set_72, X9_set_73, X9_set_76, X9_set_78, X9_set_79, X9_set_82, X9_set_83, X9_set_84, X9_set_85, X9_set_86, X9_set_89, X9_set_91, X9_set_92, X9_set_95, X9_set_96, X9_set_97, X9_set_98, X9_set_101, X9_set_102, X9_set_103, X9_set_104, iOb_some, iClr_i, iClr_r, iClr_n, iClr_u, iClr_l, rf_s, rf_n, iB_0, iSum_nil, if_neg (show ¬ (3 : Int32) = 0 by decide), if_neg (show ¬ (3 : Int32) = 1 by decide), if_neg (show ¬ (3 : Int32) = 2 by decide), ms13 (show 160 * j + q < 1280 by omega)]
          exact fin
end SETS

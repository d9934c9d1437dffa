/-! calls that only read: edit, touched, conflict, holds, element, says -/
section READS5
variable {h : iHp} {o sN n k i j x m t u p q : Nat} {im : Option Nat} {R E P : Nat → Option Nat} {sh rf C : Nat → Int32} {W : wW} {b : iHp} {s : mS} {G : Nat → Nat → Int32}
def aEdit (W : wW) (p i w : Int32) : Int32 × wW := match iIx p W.1.2.2.1 with
  | none => (-1, wRef W 1)
  | some j => match iIx i (W.1.2.2.2.1 j).1, iIx w 7 with
    | some q, some v => ((W.1.2.2.2.1 j).2.2.2.2.2.1 q v, W)
    | _, _ => (-5, wRef W 5)
theorem c8_edit (hR : cRep h o W) (hW : wOk W) (p i w : Int32) : ∃ r h1, iEv mX8_edit [.ref o, .int p, .int i, .int w] h r h1 ∧ c8P h o (aEdit W p i w) r h1 := by
  obtain ⟨sN, im, R, sh, rf, n, k, E, C, T, P, hR⟩ := hR
  refine I8_edit ?_
  unfold aEdit
  have hn : W.1.2.2.1 < 2 ^ 31 := by have := hW.1.2.1; omega
  rcases iIx_cases p hn with ⟨e, z⟩ | ⟨j, hj, rfl, e⟩
  · rw [e]
    simp only [X8_edit_0, X8_edit_1, X8_edit_2 (c8_patchN hR z) hR.ob, X8_edit_5, X8_edit_5n, X8_edit_7, X8_edit_7n, X8_edit_9, X8_edit_9n, X8_edit_12, X8_edit_13, X8_edit_14 (ev8_refuse hR (v := -1) (r := 1) (by decide) (by decide) rfl) hR.ob, X8_edit_17, iOb_some, iClr_i, iClr_r, iClr_n, iClr_u, iClr_l, rf_s, rf_n, iB_0, iSum_nil]
    exact c8_end hR (by decide)
  · rw [e]
    obtain ⟨a, e1, hB⟩ := c8_patch hR hj
    obtain ⟨E', C', hP, hG, hC⟩ := hB.pt
    have h12 := hP.2.2.2.1
    dsimp only
    rcases iIx_cases i (n := (W.1.2.2.2.1 j).1) (by omega) with ⟨f, y⟩ | ⟨l, hl, rfl, f⟩
    · rw [f]
      simp only [X8_edit_0, X8_edit_1, X8_edit_2 e1 hR.ob, X8_edit_5, X8_edit_5n, X8_edit_7, X8_edit_7n, X8_edit_9, X8_edit_9n, X8_edit_12, X8_edit_13, X8_edit_17, X8_edit_18, X8_edit_18n, X8_edit_20, X8_edit_21 (ev_peditN hP y) hP.o, X8_edit_24, X8_edit_24n, X8_edit_26, X8_edit_26n, X8_edit_28, X8_edit_28n, X8_edit_31, X8_edit_32, X8_edit_35, X8_edit_36, X8_edit_38, X8_edit_41, X8_edit_42, X8_edit_44 (ev8_refuse hR (v := -5) (r := 5) (by decide) (by decide) rfl) hR.ob, X8_edit_47, iOb_some, iClr_i, iClr_r, iClr_n, iClr_u, iClr_l, rf_s, rf_n, iB_0, iSum_nil]
      exact c8_end hR (by decide)
    · rw [f]
      obtain ⟨z, g1, g2⟩ := hG l hl
      rcases iIx_cases w (n := 7) (by decide) with ⟨f2, y⟩ | ⟨v, hv, rfl, f2⟩
      · rw [f2]
        by_cases c : w < 0
        · simp only [X8_edit_0, X8_edit_1, X8_edit_2 e1 hR.ob, X8_edit_5, X8_edit_5n, X8_edit_7, X8_edit_7n, X8_edit_9, X8_edit_9n, X8_edit_12, X8_edit_13, X8_edit_17, X8_edit_18, X8_edit_18n, X8_edit_20, X8_edit_21 (ev_pedit hP hl g1) hP.o, X8_edit_24, X8_edit_24n, X8_edit_26, X8_edit_26n, X8_edit_28, X8_edit_28n, X8_edit_31, X8_edit_32, X8_edit_35, X8_edit_36, X8_edit_38, X8_edit_41, X8_edit_42, X8_edit_44 (ev8_refuse hR (v := -5) (r := 5) (by decide) (by decide) rfl) hR.ob, X8_edit_47, iOb_some, iClr_i, iClr_r, iClr_n, iClr_u, iClr_l, rf_s, rf_n, iB_0, iSum_nil, if_pos c]
          exact c8_end hR (by decide)
        · have c2 : ¬ w ≤ 6 := fun z => absurd (Int32.le_trans (y.resolve_left c) z) (by decide)
          simp only [X8_edit_0, X8_edit_1, X8_edit_2 e1 hR.ob, X8_edit_5, X8_edit_5n, X8_edit_7, X8_edit_7n, X8_edit_9, X8_edit_9n, X8_edit_12, X8_edit_13, X8_edit_17, X8_edit_18, X8_edit_18n, X8_edit_20, X8_edit_21 (ev_pedit hP hl g1) hP.o, X8_edit_24, X8_edit_24n, X8_edit_26, X8_edit_26n, X8_edit_28, X8_edit_28n, X8_edit_31, X8_edit_32, X8_edit_35, X8_edit_36, X8_edit_38, X8_edit_41, X8_edit_42, X8_edit_44 (ev8_refuse hR (v := -5) (r := 5) (by decide) (by decide) rfl) hR.ob, X8_edit_47, iOb_some, iClr_i, iClr_r, iClr_n, iClr_u, iClr_l, rf_s, rf_n, iB_0, iSum_nil, if_neg c, if_neg c2]
          exact c8_end hR (by decide)
      · rw [f2]
        simp only [X8_edit_0, X8_edit_1, X8_edit_2 e1 hR.ob, X8_edit_5, X8_edit_5n, X8_edit_7, X8_edit_7n, X8_edit_9, X8_edit_9n, X8_edit_12, X8_edit_13, X8_edit_17, X8_edit_18, X8_edit_18n, X8_edit_20, X8_edit_21 (ev_pedit hP hl g1) hP.o, X8_edit_24, X8_edit_24n, X8_edit_26, X8_edit_26n, X8_edit_28, X8_edit_28n, X8_edit_31, X8_edit_32, X8_edit_35, X8_edit_36, X8_edit_38, X8_edit_41, X8_edit_42, X8_edit_47, X8_edit_48, X8_edit_48n, X8_edit_50, X8_edit_51 (ev_told0 g2 hv) g2.o, X8_edit_54, iOb_some, iClr_i, iClr_r, iClr_n, iClr_u, iClr_l, rf_s, rf_n, iB_0, iSum_nil, if_neg (nI_pos (show v < 2 ^ 31 by omega)), if_pos (show nI v ≤ 6 from nI_le (a := v) (b := 6) (by omega) (by decide))]
        exact c8_same hR
theorem m9_edit (hR : mRel s W) (hW : wOk W) (p i w : Int32) : ∃ r h1, iEv mX9_edit_ [.ref x, .int p, .int i, .int w] (mH b x s) r h1 ∧ m9P b x (aEdit W p i w) r h1 := by
  refine I9_edit_ ?_
  unfold aEdit
  have hn : W.1.2.2.1 < 2 ^ 31 := by have := hW.1.2.1; omega
  have et := ev9_isPatch (b := b) (x := x) hR.1 hW.1.2.1 (t := p)
  rcases iIx_cases p hn with ⟨e, z⟩ | ⟨j, hj, rfl, e⟩
  · rw [e] at et ⊢
    simp only [X9_edit__0, X9_edit__1, X9_edit__2 et mH_obj, X9_edit__5, X9_edit__8, X9_edit__9, X9_edit__10 (ev9_noV (v := -1) (r := 1) (by decide) rfl) mH_obj, X9_edit__13, iOb_some, iClr_i, iClr_r, iClr_n, iClr_u, iClr_l, rf_s, rf_n, iB_0, iSum_nil, Option.isSome_none, if_true]
    exact m9_rf hR (by decide)
  · rw [e] at et ⊢
    dsimp only
    have hj16 : j < 16 := by have := hW.1.2.1; omega
    have h12 := (hW.1.2.2.2 j hj).1
    obtain ⟨p1, p2, p3, p4, p5, p6, p7⟩ := hR.1.2.2.2.2 j hj
    have eo := ev9_of0 (b := b) (x := x) (s := s) hj16
    rw [p1] at eo
    have ew := ev9_wi (i := i) (n := (W.1.2.2.2.1 j).1) (by omega) (h := mH b x s)
    have ew2 := ev9_wiN (i := w) (n := 7) (m1 := 6) (by decide) rfl (h := mH b x s)
    rcases iIx_cases i (n := (W.1.2.2.2.1 j).1) (by omega) with ⟨f, y⟩ | ⟨l, hl, rfl, f⟩
    · rw [f] at ew ⊢
      simp only [X9_edit__0, X9_edit__1, X9_edit__2 et mH_obj, X9_edit__5, X9_edit__8, X9_edit__9, X9_edit__13, X9_edit__14, X9_edit__15, X9_edit__16, X9_edit__17, X9_edit__18, X9_edit__19 eo mH_obj, X9_edit__22, X9_edit__23, X9_edit__24 ew, X9_edit__27, X9_edit__30, X9_edit__31, X9_edit__32, X9_edit__37, X9_edit__40, X9_edit__41, X9_edit__42, X9_edit__44, X9_edit__45, X9_edit__46, X9_edit__47, X9_edit__51, X9_edit__54, X9_edit__55, X9_edit__57 (ev9_noV (v := -5) (r := 5) (by decide) rfl) mH_obj, X9_edit__60, iOb_some, iClr_i, iClr_r, iClr_n, iClr_u, iClr_l, rf_s, rf_n, iB_0, iSum_nil, Option.isSome_some, Option.isSome_none, Bool.true_eq_false, if_false, if_true, i_w1]
      exact m9_rf hR (by decide)
    · rw [f] at ew ⊢
      rcases iIx_cases w (n := 7) (by decide) with ⟨f2, y⟩ | ⟨v, hv, rfl, f2⟩
      · rw [f2] at ew2 ⊢
        simp only [X9_edit__0, X9_edit__1, X9_edit__2 et mH_obj, X9_edit__5, X9_edit__8, X9_edit__9, X9_edit__13, X9_edit__14, X9_edit__15, X9_edit__16, X9_edit__17, X9_edit__18, X9_edit__19 eo mH_obj, X9_edit__22, X9_edit__23, X9_edit__24 ew, X9_edit__27, X9_edit__30, X9_edit__31, X9_edit__32, X9_edit__34 ew2, X9_edit__37, X9_edit__40, X9_edit__41, X9_edit__42, X9_edit__44, X9_edit__45, X9_edit__46, X9_edit__47, X9_edit__51, X9_edit__54, X9_edit__55, X9_edit__57 (ev9_noV (v := -5) (r := 5) (by decide) rfl) mH_obj, X9_edit__60, iOb_some, iClr_i, iClr_r, iClr_n, iClr_u, iClr_l, rf_s, rf_n, iB_0, iSum_nil, Option.isSome_some, Option.isSome_none, Bool.true_eq_false, if_false, if_true, i_w1]
        exact m9_rf hR (by decide)
      · rw [f2] at ew2 ⊢
        have ee := ev9_edit (b := b) (x := x) (s := s) hj16 (show 7 * l + v < 840 by omega)
        rw [p6 l v hl hv] at ee
        simp only [X9_edit__0, X9_edit__1, X9_edit__2 et mH_obj, X9_edit__5, X9_edit__8, X9_edit__9, X9_edit__13, X9_edit__14, X9_edit__15, X9_edit__16, X9_edit__17, X9_edit__18, X9_edit__19 eo mH_obj, X9_edit__22, X9_edit__23, X9_edit__24 ew, X9_edit__27, X9_edit__30, X9_edit__31, X9_edit__32, X9_edit__34 ew2, X9_edit__37, X9_edit__40, X9_edit__41, X9_edit__42, X9_edit__44, X9_edit__45, X9_edit__46, X9_edit__47, X9_edit__48 ee mH_obj, X9_edit__51, X9_edit__54, X9_edit__55, X9_edit__60, iOb_some, iClr_i, iClr_r, iClr_n, iClr_u, iClr_l, rf_s, rf_n, iB_0, iSum_nil, Option.isSome_some, Bool.true_eq_false, if_false, i_w1, i7, nI_add]
        exact m9_same hR
def aTouched (W : wW) (p w : Int32) : Int32 × wW := match iIx p W.1.2.2.1 with
  | none => (-1, wRef W 1)
  | some j => match iIx w 2 with
    | some v => (bitE (W.1.2.2.2.1 j).2.2.2.2.2.1 (nI (30 * v)) (W.1.2.2.2.1 j).1, W)
    | none => (-5, wRef W 5)
theorem c8_touched (hR : cRep h o W) (hW : wOk W) (p w : Int32) : ∃ r h1, iEv mX8_touched [.ref o, .int p, .int w] h r h1 ∧ c8P h o (aTouched W p w) r h1 := by
  obtain ⟨sN, im, R, sh, rf, n, k, E, C, T, P, hR⟩ := hR
  refine I8_touched ?_
  unfold aTouched
  have hn : W.1.2.2.1 < 2 ^ 31 := by have := hW.1.2.1; omega
  rcases iIx_cases p hn with ⟨e, z⟩ | ⟨j, hj, rfl, e⟩
  · rw [e]
    simp only [X8_touched_0, X8_touched_1, X8_touched_2 (c8_patchN hR z) hR.ob, X8_touched_5, X8_touched_5n, X8_touched_6, X8_touched_6n, X8_touched_7, X8_touched_7n, X8_touched_10, X8_touched_11, X8_touched_12 (ev8_refuse hR (v := -1) (r := 1) (by decide) (by decide) rfl) hR.ob, X8_touched_15, iOb_some, iClr_i, iClr_r, iClr_n, iClr_u, iClr_l, rf_s, rf_n, iB_0, iSum_nil]
    exact c8_end hR (by decide)
  · rw [e]
    obtain ⟨a, e1, hB⟩ := c8_patch hR hj
    obtain ⟨E', C', hP, hG, hC⟩ := hB.pt
    dsimp only
    rcases iIx_cases w (n := 2) (by decide) with ⟨f2, y⟩ | ⟨v, hv, rfl, f2⟩
    · rw [f2]
      by_cases c : w < 0
      · simp only [X8_touched_0, X8_touched_1, X8_touched_2 e1 hR.ob, X8_touched_5, X8_touched_5n, X8_touched_6, X8_touched_6n, X8_touched_7, X8_touched_7n, X8_touched_10, X8_touched_11, X8_touched_15, X8_touched_16, X8_touched_17, X8_touched_20, X8_touched_21, X8_touched_22, X8_touched_25, X8_touched_26, X8_touched_28 (ev8_refuse hR (v := -5) (r := 5) (by decide) (by decide) rfl) hR.ob, X8_touched_31, iOb_some, iClr_i, iClr_r, iClr_n, iClr_u, iClr_l, rf_s, rf_n, iB_0, iSum_nil, if_pos c]
        exact c8_end hR (by decide)
      · have c2 : ¬ w ≤ 1 := fun z => absurd (Int32.le_trans (y.resolve_left c) z) (by decide)
        simp only [X8_touched_0, X8_touched_1, X8_touched_2 e1 hR.ob, X8_touched_5, X8_touched_5n, X8_touched_6, X8_touched_6n, X8_touched_7, X8_touched_7n, X8_touched_10, X8_touched_11, X8_touched_15, X8_touched_16, X8_touched_17, X8_touched_20, X8_touched_21, X8_touched_22, X8_touched_25, X8_touched_26, X8_touched_28 (ev8_refuse hR (v := -5) (r := 5) (by decide) (by decide) rfl) hR.ob, X8_touched_31, iOb_some, iClr_i, iClr_r, iClr_n, iClr_u, iClr_l, rf_s, rf_n, iB_0, iSum_nil, if_neg c, if_neg c2]
        exact c8_end hR (by decide)
    · rw [f2]
      have em : nI v * 30 = nI (30 * v) := by rw [show (30 : Int32) = nI 30 from rfl, pk_mul, Nat.mul_comm]
      simp only [X8_touched_0, X8_touched_1, X8_touched_2 e1 hR.ob, X8_touched_5, X8_touched_5n, X8_touched_6, X8_touched_6n, X8_touched_7, X8_touched_7n, X8_touched_10, X8_touched_11, X8_touched_15, X8_touched_16, X8_touched_17, X8_touched_20, X8_touched_21, X8_touched_22, X8_touched_25, X8_touched_26, X8_touched_31, X8_touched_32, X8_touched_32n, X8_touched_33, X8_touched_34, X8_touched_36, X8_touched_37 (ev_pbits hP hG (nI (30 * v))) hP.o, X8_touched_40, iOb_some, iClr_i, iClr_r, iClr_n, iClr_u, iClr_l, rf_s, rf_n, iB_0, iSum_nil, if_neg (nI_pos (show v < 2 ^ 31 by omega)), if_pos (show nI v ≤ 1 from nI_le (a := v) (b := 1) (by omega) (by decide)), em]
      exact c8_same hR
theorem bits9_loop (hp : p < 16) (hn : s.2.1 7 p = nI n) (hn12 : n ≤ 120) (hG : ∀ i, i < n → s.2.1 8 (840 * p + (7 * i + 1)) = G i 1) (v : Nat) {Q : Option Value → iHp → Prop} : ∀ k i, i + k = n → ∀ z, (iWp 3 mX9_touched 35 [.ref x, .int (nI p), .int (nI v), .int (bitE G (nI (30 * v)) i), .int (nI i), z] [] (mH b x s) Q = Q (some (.int (bitE G (nI (30 * v)) n))) (mH b x s)) := by
  have eo := ev9_of0 (b := b) (x := x) (s := s) hp
  rw [hn] at eo
  have em : 30 * nI v = nI (30 * v) := by rw [show (30 : Int32) = nI 30 from rfl, pk_mul]
  intro k
  induction k with
  | zero =>
    intro i hi z
    obtain rfl : i = n := by omega
    rw [X9_touched_35]
    simp only [X9_touched_37, X9_touched_38, X9_touched_39, X9_touched_40 eo mH_obj, X9_touched_43, X9_touched_46, X9_touched_47, X9_touched_48, X9_touched_50, X9_touched_52, X9_touched_53, X9_touched_54, X9_touched_58, X9_touched_60, X9_touched_61, X9_touched_62, X9_touched_63, X9_touched_65, X9_touched_67, X9_touched_68, X9_touched_73, X9_touched_76, X9_touched_77, X9_touched_78, X9_touched_80, X9_touched_81, X9_touched_82, X9_touched_83, X9_touched_86, X9_touched_89, X9_touched_90, iOb_some, iClr_i, iClr_r, iClr_n, iClr_u, iClr_l, rf_s, rf_n, iB_0, iSum_nil, if_pos (Int32.le_refl (nI i))]
  | succ k ih =>
    intro i hi z
    have ee := ev9_edit (b := b) (x := x) (s := s) hp (show 7 * i + 1 < 840 by omega)
    rw [hG i (by omega)] at ee
    have r := ih (i + 1) (by omega) (.int (G i 1 - nI (30 * v)))
    rw [nI_succ i] at r
    have ew := ev9_within (G i 1 - nI (30 * v)) 1 30 (h := mH b x s)
    rw [X9_touched_35]
    by_cases c : 1 ≤ G i 1 - nI (30 * v) ∧ G i 1 - nI (30 * v) ≤ 30
    · rw [show bitE G (nI (30 * v)) (i + 1) = bitE G (nI (30 * v)) i ||| (1 <<< ((G i 1 - nI (30 * v)) &&& 31)) from if_pos c] at r
      rw [decide_eq_true c.1, decide_eq_true c.2, Bool.and_self] at ew
      simp only [X9_touched_37, X9_touched_38, X9_touched_39, X9_touched_40 eo mH_obj, X9_touched_43, X9_touched_46, X9_touched_47, X9_touched_48, X9_touched_50, X9_touched_52, X9_touched_53, X9_touched_54, X9_touched_55 ee mH_obj, X9_touched_58, X9_touched_60, X9_touched_61, X9_touched_62, X9_touched_63, X9_touched_65, X9_touched_67, X9_touched_68, X9_touched_70 ew, X9_touched_73, X9_touched_76, X9_touched_77, X9_touched_78, X9_touched_80, X9_touched_81, X9_touched_82, X9_touched_83, X9_touched_86, X9_touched_89, X9_touched_90, iOb_some, iClr_i, iClr_r, iClr_n, iClr_u, iClr_l, rf_s, rf_n, iB_0, iSum_nil, if_neg (nI_ge (show i < n by omega) (by omega)), i7, nI_1 (7 * i), em, Bool.true_eq_false, if_false, r]
    · rw [show bitE G (nI (30 * v)) (i + 1) = bitE G (nI (30 * v)) i from if_neg c] at r
      have cf : (decide (1 ≤ G i 1 - nI (30 * v)) && decide (G i 1 - nI (30 * v) ≤ 30)) = false := by
        cases z : (decide (1 ≤ G i 1 - nI (30 * v)) && decide (G i 1 - nI (30 * v) ≤ 30)) with
        | false => rfl
        | true =>
          have z := (Bool.and_eq_true _ _).mp z
          exact absurd ⟨of_decide_eq_true z.1, of_decide_eq_true z.2⟩ c
      rw [cf] at ew
      simp only [X9_touched_37, X9_touched_38, X9_touched_39, X9_touched_40 eo mH_obj, X9_touched_43, X9_touched_46, X9_touched_47, X9_touched_48, X9_touched_50, X9_touched_52, X9_touched_53, X9_touched_54, X9_touched_55 ee mH_obj, X9_touched_58, X9_touched_60, X9_touched_61, X9_touched_62, X9_touched_63, X9_touched_65, X9_touched_67, X9_touched_68, X9_touched_70 ew, X9_touched_73, X9_touched_76, X9_touched_77, X9_touched_78, X9_touched_80, X9_touched_81, X9_touched_82, X9_touched_83, X9_touched_86, X9_touched_89, X9_touched_90, iOb_some, iClr_i, iClr_r, iClr_n, iClr_u, iClr_l, rf_s, rf_n, iB_0, iSum_nil, if_neg (nI_ge (show i < n by omega) (by omega)), i7, nI_1 (7 * i), em, if_true, r]
theorem m9_touched (hR : mRel s W) (hW : wOk W) (p w : Int32) : ∃ r h1, iEv mX9_touched [.ref x, .int p, .int w] (mH b x s) r h1 ∧ m9P b x (aTouched W p w) r h1 := by
  refine I9_touched ?_
  unfold aTouched
  have hn : W.1.2.2.1 < 2 ^ 31 := by have := hW.1.2.1; omega
  have et := ev9_isPatch (b := b) (x := x) hR.1 hW.1.2.1 (t := p)
  rcases iIx_cases p hn with ⟨e, z⟩ | ⟨j, hj, rfl, e⟩
  · rw [e] at et ⊢
    simp only [X9_touched_0, X9_touched_1, X9_touched_2 et mH_obj, X9_touched_5, X9_touched_8, X9_touched_9, X9_touched_10 (ev9_noV (v := -1) (r := 1) (by decide) rfl) mH_obj, X9_touched_13, iOb_some, iClr_i, iClr_r, iClr_n, iClr_u, iClr_l, rf_s, rf_n, iB_0, iSum_nil, Option.isSome_none, if_true]
    exact m9_rf hR (by decide)
  · rw [e] at et ⊢
    dsimp only
    have hj16 : j < 16 := by have := hW.1.2.1; omega
    have h12 := (hW.1.2.2.2 j hj).1
    obtain ⟨p1, p2, p3, p4, p5, p6, p7⟩ := hR.1.2.2.2.2 j hj
    have ew2 := ev9_wiN (i := w) (n := 2) (m1 := 1) (by decide) rfl (h := mH b x s)
    rcases iIx_cases w (n := 2) (by decide) with ⟨f2, y⟩ | ⟨v, hv, rfl, f2⟩
    · rw [f2] at ew2 ⊢
      simp only [X9_touched_0, X9_touched_1, X9_touched_2 et mH_obj, X9_touched_5, X9_touched_8, X9_touched_9, X9_touched_13, X9_touched_14, X9_touched_15, X9_touched_16, X9_touched_17 ew2, X9_touched_20, X9_touched_23, X9_touched_24, X9_touched_26 (ev9_noV (v := -5) (r := 5) (by decide) rfl) mH_obj, X9_touched_29, iOb_some, iClr_i, iClr_r, iClr_n, iClr_u, iClr_l, rf_s, rf_n, iB_0, iSum_nil, Option.isSome_some, Option.isSome_none, Bool.true_eq_false, if_false, if_true]
      exact m9_rf hR (by decide)
    · rw [f2] at ew2 ⊢
      simp only [X9_touched_0, X9_touched_1, X9_touched_2 et mH_obj, X9_touched_5, X9_touched_8, X9_touched_9, X9_touched_13, X9_touched_14, X9_touched_15, X9_touched_16, X9_touched_17 ew2, X9_touched_20, X9_touched_23, X9_touched_24, X9_touched_29, X9_touched_30, X9_touched_31, X9_touched_32, X9_touched_33, iOb_some, iClr_i, iClr_r, iClr_n, iClr_u, iClr_l, rf_s, rf_n, iB_0, iSum_nil, Option.isSome_some, Bool.true_eq_false, if_false]
      exact (bits9_loop (b := b) (x := x) (s := s) hj16 p1 h12 (fun i hi => p6 i 1 hi (by decide)) v (Q := m9P b x (bitE (W.1.2.2.2.1 j).2.2.2.2.2.1 (nI (30 * v)) (W.1.2.2.2.1 j).1, W)) (W.1.2.2.2.1 j).1 0 (by omega) iU).mpr (m9_same hR)
def aConflict (W : wW) (p i w : Int32) : Int32 × wW := match iIx p W.1.2.2.1 with
  | none => (-1, wRef W 1)
  | some j => match iIx i (W.1.2.2.2.1 j).2.1, iIx w 2 with
    | some q, some v => ((W.1.2.2.2.1 j).2.2.2.2.2.2 (2 * q + v), W)
    | _, _ => (-5, wRef W 5)
theorem c8_conflict (hR : cRep h o W) (hW : wOk W) (p i w : Int32) : ∃ r h1, iEv mX8_conflict [.ref o, .int p, .int i, .int w] h r h1 ∧ c8P h o (aConflict W p i w) r h1 := by
  obtain ⟨sN, im, R, sh, rf, n, k, E, C, T, P, hR⟩ := hR
  refine I8_conflict ?_
  unfold aConflict
  have hn : W.1.2.2.1 < 2 ^ 31 := by have := hW.1.2.1; omega
  rcases iIx_cases p hn with ⟨e, z⟩ | ⟨j, hj, rfl, e⟩
  · rw [e]
    simp only [X8_conflict_0, X8_conflict_1, X8_conflict_2 (c8_patchN hR z) hR.ob, X8_conflict_5, X8_conflict_5n, X8_conflict_7, X8_conflict_7n, X8_conflict_9, X8_conflict_9n, X8_conflict_12, X8_conflict_13, X8_conflict_14 (ev8_refuse hR (v := -1) (r := 1) (by decide) (by decide) rfl) hR.ob, X8_conflict_17, iOb_some, iClr_i, iClr_r, iClr_n, iClr_u, iClr_l, rf_s, rf_n, iB_0, iSum_nil]
    exact c8_end hR (by decide)
  · rw [e]
    obtain ⟨a, e1, hB⟩ := c8_patch hR hj
    obtain ⟨E', C', hP, hG, hC⟩ := hB.pt
    have h12 := hP.2.2.2.2
    dsimp only
    rcases iIx_cases i (n := (W.1.2.2.2.1 j).2.1) (by omega) with ⟨f, y⟩ | ⟨l, hl, rfl, f⟩
    · rw [f]
      by_cases c : i < 0
      · simp only [X8_conflict_0, X8_conflict_1, X8_conflict_2 e1 hR.ob, X8_conflict_5, X8_conflict_5n, X8_conflict_7, X8_conflict_7n, X8_conflict_9, X8_conflict_9n, X8_conflict_12, X8_conflict_13, X8_conflict_17, X8_conflict_18, X8_conflict_19, X8_conflict_22, X8_conflict_23, X8_conflict_23n, X8_conflict_28, X8_conflict_31, X8_conflict_32, X8_conflict_35, X8_conflict_36, X8_conflict_37, X8_conflict_40, X8_conflict_41, X8_conflict_43 (ev8_refuse hR (v := -5) (r := 5) (by decide) (by decide) rfl) hR.ob, X8_conflict_46, iOb_some, iClr_i, iClr_r, iClr_n, iClr_u, iClr_l, rf_s, rf_n, iB_0, iSum_nil, if_pos c]
        exact c8_end hR (by decide)
      · simp only [X8_conflict_0, X8_conflict_1, X8_conflict_2 e1 hR.ob, X8_conflict_5, X8_conflict_5n, X8_conflict_7, X8_conflict_7n, X8_conflict_9, X8_conflict_9n, X8_conflict_12, X8_conflict_13, X8_conflict_17, X8_conflict_18, X8_conflict_19, X8_conflict_22, X8_conflict_23, X8_conflict_23n, X8_conflict_25 (ev_pccount hP) hP.o, X8_conflict_28, X8_conflict_31, X8_conflict_32, X8_conflict_35, X8_conflict_36, X8_conflict_37, X8_conflict_40, X8_conflict_41, X8_conflict_43 (ev8_refuse hR (v := -5) (r := 5) (by decide) (by decide) rfl) hR.ob, X8_conflict_46, iOb_some, iClr_i, iClr_r, iClr_n, iClr_u, iClr_l, rf_s, rf_n, iB_0, iSum_nil, if_neg c, if_pos (y.resolve_left c)]
        exact c8_end hR (by decide)
    · rw [f]
      have d1 : ¬ nI l < 0 := nI_pos (by omega)
      have d2 : ¬ nI (W.1.2.2.2.1 j).2.1 ≤ nI l := nI_ge hl (by omega)
      rcases iIx_cases w (n := 2) (by decide) with ⟨f2, y⟩ | ⟨v, hv, rfl, f2⟩
      · rw [f2]
        by_cases c : w < 0
        · simp only [X8_conflict_0, X8_conflict_1, X8_conflict_2 e1 hR.ob, X8_conflict_5, X8_conflict_5n, X8_conflict_7, X8_conflict_7n, X8_conflict_9, X8_conflict_9n, X8_conflict_12, X8_conflict_13, X8_conflict_17, X8_conflict_18, X8_conflict_19, X8_conflict_22, X8_conflict_23, X8_conflict_23n, X8_conflict_25 (ev_pccount hP) hP.o, X8_conflict_28, X8_conflict_31, X8_conflict_32, X8_conflict_35, X8_conflict_36, X8_conflict_37, X8_conflict_40, X8_conflict_41, X8_conflict_43 (ev8_refuse hR (v := -5) (r := 5) (by decide) (by decide) rfl) hR.ob, X8_conflict_46, iOb_some, iClr_i, iClr_r, iClr_n, iClr_u, iClr_l, rf_s, rf_n, iB_0, iSum_nil, if_neg d1, if_neg d2, if_pos c]
          exact c8_end hR (by decide)
        · have c2 : ¬ w ≤ 1 := fun z => absurd (Int32.le_trans (y.resolve_left c) z) (by decide)
          simp only [X8_conflict_0, X8_conflict_1, X8_conflict_2 e1 hR.ob, X8_conflict_5, X8_conflict_5n, X8_conflict_7, X8_conflict_7n, X8_conflict_9, X8_conflict_9n, X8_conflict_12, X8_conflict_13, X8_conflict_17, X8_conflict_18, X8_conflict_19, X8_conflict_22, X8_conflict_23, X8_conflict_23n, X8_conflict_25 (ev_pccount hP) hP.o, X8_conflict_28, X8_conflict_31, X8_conflict_32, X8_conflict_35, X8_conflict_36, X8_conflict_37, X8_conflict_40, X8_conflict_41, X8_conflict_43 (ev8_refuse hR (v := -5) (r := 5) (by decide) (by decide) rfl) hR.ob, X8_conflict_46, iOb_some, iClr_i, iClr_r, iClr_n, iClr_u, iClr_l, rf_s, rf_n, iB_0, iSum_nil, if_neg d1, if_neg d2, if_neg c, if_neg c2]
          exact c8_end hR (by decide)
      · rw [f2]
        simp only [X8_conflict_0, X8_conflict_1, X8_conflict_2 e1 hR.ob, X8_conflict_5, X8_conflict_5n, X8_conflict_7, X8_conflict_7n, X8_conflict_9, X8_conflict_9n, X8_conflict_12, X8_conflict_13, X8_conflict_17, X8_conflict_18, X8_conflict_19, X8_conflict_22, X8_conflict_23, X8_conflict_23n, X8_conflict_25 (ev_pccount hP) hP.o, X8_conflict_28, X8_conflict_31, X8_conflict_32, X8_conflict_35, X8_conflict_36, X8_conflict_37, X8_conflict_40, X8_conflict_41, X8_conflict_46, X8_conflict_47, X8_conflict_47n, X8_conflict_49, X8_conflict_50, X8_conflict_51 (ev_pconf hP hl hv) hP.o, X8_conflict_54, iOb_some, iClr_i, iClr_r, iClr_n, iClr_u, iClr_l, rf_s, rf_n, iB_0, iSum_nil, if_neg d1, if_neg d2, if_neg (nI_pos (show v < 2 ^ 31 by omega)), if_pos (show nI v ≤ 1 from nI_le (a := v) (b := 1) (by omega) (by decide))]
        rw [hC _ (by omega)]
        exact c8_same hR
theorem i240 (u j : Nat) : 240 * nI u + nI j = nI (240 * u + j) := by
  rw [show (240 : Int32) = nI 240 from rfl, pk_mul, nI_add]
theorem m9_conflict (hR : mRel s W) (hW : wOk W) (p i w : Int32) : ∃ r h1, iEv mX9_conflict [.ref x, .int p, .int i, .int w] (mH b x s) r h1 ∧ m9P b x (aConflict W p i w) r h1 := by
  refine I9_conflict ?_
  unfold aConflict
  have hn : W.1.2.2.1 < 2 ^ 31 := by have := hW.1.2.1; omega
  have et := ev9_isPatch (b := b) (x := x) hR.1 hW.1.2.1 (t := p)
  rcases iIx_cases p hn with ⟨e, z⟩ | ⟨j, hj, rfl, e⟩
  · rw [e] at et ⊢
    simp only [X9_conflict_0, X9_conflict_1, X9_conflict_2 et mH_obj, X9_conflict_5, X9_conflict_8, X9_conflict_9, X9_conflict_10 (ev9_noV (v := -1) (r := 1) (by decide) rfl) mH_obj, X9_conflict_13, iOb_some, iClr_i, iClr_r, iClr_n, iClr_u, iClr_l, rf_s, rf_n, iB_0, iSum_nil, Option.isSome_none, if_true]
    exact m9_rf hR (by decide)
  · rw [e] at et ⊢
    dsimp only
    have hj16 : j < 16 := by have := hW.1.2.1; omega
    have h12 := (hW.1.2.2.2 j hj).2.1
    obtain ⟨p1, p2, p3, p4, p5, p6, p7⟩ := hR.1.2.2.2.2 j hj
    have eo := ev9_of (b := b) (x := x) (s := s) (w := 4) (by decide) hj16
    rw [show 16 * 4 + j = 64 + j by omega, p5, show nI 4 = (4 : Int32) from rfl] at eo
    have ew := ev9_wi (i := i) (n := (W.1.2.2.2.1 j).2.1) (by omega) (h := mH b x s)
    have ew2 := ev9_wiN (i := w) (n := 2) (m1 := 1) (by decide) rfl (h := mH b x s)
    rcases iIx_cases i (n := (W.1.2.2.2.1 j).2.1) (by omega) with ⟨f, y⟩ | ⟨l, hl, rfl, f⟩
    · rw [f] at ew ⊢
      simp only [X9_conflict_0, X9_conflict_1, X9_conflict_2 et mH_obj, X9_conflict_5, X9_conflict_8, X9_conflict_9, X9_conflict_13, X9_conflict_14, X9_conflict_15, X9_conflict_16, X9_conflict_17, X9_conflict_18, X9_conflict_19 eo mH_obj, X9_conflict_22, X9_conflict_23, X9_conflict_24 ew, X9_conflict_27, X9_conflict_30, X9_conflict_31, X9_conflict_32, X9_conflict_36, X9_conflict_39, X9_conflict_40, X9_conflict_43, X9_conflict_46, X9_conflict_47, X9_conflict_48, X9_conflict_49, X9_conflict_50, X9_conflict_51, X9_conflict_52, X9_conflict_53, X9_conflict_54, X9_conflict_55, X9_conflict_58, X9_conflict_59, X9_conflict_61 (ev9_noV (v := -5) (r := 5) (by decide) rfl) mH_obj, X9_conflict_64, iOb_some, iClr_i, iClr_r, iClr_n, iClr_u, iClr_l, rf_s, rf_n, iB_0, iSum_nil, Option.isSome_some, Option.isSome_none, Bool.true_eq_false, if_false, if_true, i_w1]
      exact m9_rf hR (by decide)
    · rw [f] at ew ⊢
      rcases iIx_cases w (n := 2) (by decide) with ⟨f2, y⟩ | ⟨v, hv, rfl, f2⟩
      · rw [f2] at ew2 ⊢
        simp only [X9_conflict_0, X9_conflict_1, X9_conflict_2 et mH_obj, X9_conflict_5, X9_conflict_8, X9_conflict_9, X9_conflict_13, X9_conflict_14, X9_conflict_15, X9_conflict_16, X9_conflict_17, X9_conflict_18, X9_conflict_19 eo mH_obj, X9_conflict_22, X9_conflict_23, X9_conflict_24 ew, X9_conflict_27, X9_conflict_30, X9_conflict_31, X9_conflict_32, X9_conflict_33 ew2, X9_conflict_36, X9_conflict_39, X9_conflict_40, X9_conflict_43, X9_conflict_46, X9_conflict_47, X9_conflict_48, X9_conflict_49, X9_conflict_50, X9_conflict_51, X9_conflict_52, X9_conflict_53, X9_conflict_54, X9_conflict_55, X9_conflict_58, X9_conflict_59, X9_conflict_61 (ev9_noV (v := -5) (r := 5) (by decide) rfl) mH_obj, X9_conflict_64, iOb_some, iClr_i, iClr_r, iClr_n, iClr_u, iClr_l, rf_s, rf_n, iB_0, iSum_nil, Option.isSome_some, Option.isSome_none, Bool.true_eq_false, if_false, if_true, i_w1]
        exact m9_rf hR (by decide)
      · rw [f2] at ew2 ⊢
        have e2 : 2 * nI l = nI (2 * l) := by rw [show (2 : Int32) = nI 2 from rfl, pk_mul]
        simp only [X9_conflict_0, X9_conflict_1, X9_conflict_2 et mH_obj, X9_conflict_5, X9_conflict_8, X9_conflict_9, X9_conflict_13, X9_conflict_14, X9_conflict_15, X9_conflict_16, X9_conflict_17, X9_conflict_18, X9_conflict_19 eo mH_obj, X9_conflict_22, X9_conflict_23, X9_conflict_24 ew, X9_conflict_27, X9_conflict_30, X9_conflict_31, X9_conflict_32, X9_conflict_33 ew2, X9_conflict_36, X9_conflict_39, X9_conflict_40, X9_conflict_43, X9_conflict_46, X9_conflict_47, X9_conflict_48, X9_conflict_49, X9_conflict_50, X9_conflict_51, X9_conflict_52, X9_conflict_53, X9_conflict_54, X9_conflict_55, X9_conflict_58, X9_conflict_59, X9_conflict_64, iOb_some, iClr_i, iClr_r, iClr_n, iClr_u, iClr_l, rf_s, rf_n, iB_0, iSum_nil, Option.isSome_some, Bool.true_eq_false, if_false, i_w1, mg9, e2, i240, nI_add, ml9 (show 240 * j + 2 * l + v < 3840 by omega)]
        rw [show 240 * j + 2 * l + v = 240 * j + (2 * l + v) by omega, p7 _ (by omega)]
        exact m9_same hR
end READS5

/-! calls that only read trees: node, child, above, same -/
section READS2
variable {h : iHp} {o sN n k i j x : Nat} {im : Option Nat} {R E P : Nat → Option Nat} {sh rf C : Nat → Int32} {W : wW} {b : iHp} {s : mS} {w : sT} {K B D : Nat → Int32} {d : Nat → Nat} {g pl : Nat}
theorem ev_hasX {t : Nat} (hT : trAt h t n K B D) (i : Int32) : iEv mX7_has [.ref t, .int i] h (some (.int (iB (iIx i n).isSome))) h := by
  have z := ev_has hT i
  have hn := hT.2.2.2.2
  rcases iIx_cases i (n := n) (by omega) with ⟨e, w⟩ | ⟨j, hj, rfl, e⟩
  · rw [e]
    rcases w with w | w
    · rw [decide_eq_true w] at z
      exact z
    · rw [decide_eq_true w, Bool.not_true, Bool.and_false] at z
      exact z
  · rw [e]
    rw [has_in hj hn] at z
    exact z
theorem i_sw6 {y : Int32} (h0 : ¬ y = 0) (h1 : ¬ y = 1) (h2 : ¬ y = 2) (h3 : ¬ y = 3) (h4 : ¬ y = 4) (h5 : ¬ y = 5) (h6 : ¬ y = 6) : y.toInt < 0 ∨ 6 < y.toInt := by
  by_cases c : y.toInt < 0
  · exact Or.inl c
  · refine Or.inr ?_
    have e0 : y.toInt ≠ 0 := fun z => h0 (Int32.toInt_inj.mp z)
    have e1 : y.toInt ≠ 1 := fun z => h1 (Int32.toInt_inj.mp z)
    have e2 : y.toInt ≠ 2 := fun z => h2 (Int32.toInt_inj.mp z)
    have e3 : y.toInt ≠ 3 := fun z => h3 (Int32.toInt_inj.mp z)
    have e4 : y.toInt ≠ 4 := fun z => h4 (Int32.toInt_inj.mp z)
    have e5 : y.toInt ≠ 5 := fun z => h5 (Int32.toInt_inj.mp z)
    have e6 : y.toInt ≠ 6 := fun z => h6 (Int32.toInt_inj.mp z)
    omega
/-- what is told of a node -/
def tTold (T : tT) (i : Nat) (w : Int32) : Option Int32 := if w = 0 then some (T.2.1 i) else if w = 1 then some (T.2.2.1 i) else if w = 2 then some (tPK T.2.1 T.2.2.2 i) else if w = 3 then some (nI (tPlace T.2.2.2 i)) else if w = 4 then some (nI (tKids T.2.2.2 T.1 i)) else if w = 5 then some (T.2.2.2 i) else if w = 6 then some (nI (tEnd T.2.2.2 T.1 i - i)) else none
theorem told_congr {T U : tT} (h : tEq T U) (hT : tOk T) {i : Nat} (hi : i < T.1) (w : Int32) : tTold T i w = tTold U i w := by
  obtain ⟨n, K, B, D⟩ := T
  obtain ⟨n', K', B', D'⟩ := U
  obtain ⟨h1, h2⟩ := h
  obtain ⟨h3, d, hd, h5⟩ := hT
  dsimp only at h1 h2 h3 hd h5 hi
  subst h1
  have hK : ∀ j, j < n → K j = K' j := fun j hj => (h2 j hj).1
  have hD : ∀ j, j < n → D j = D' j := fun j hj => (h2 j hj).2.2
  unfold tTold
  dsimp only
  rw [(h2 i hi).1, (h2 i hi).2.1, (h2 i hi).2.2, cPK hd hD hK hi, cPlace hd hD hi, cKids hd hD hi, cEnd hd hD hi]
def aNode (W : wW) (t i w : Int32) : Int32 × wW := match iIx t W.1.1 with
  | none => (-1, wRef W 1)
  | some j => match iIx i (W.1.2.1 j).1 with
    | none => (-5, wRef W 5)
    | some i => match tTold (W.1.2.1 j) i w with
      | none => (-5, wRef W 5)
      | some v => (v, W)
theorem c8_node (hR : cRep h o W) (hW : wOk W) (t i w : Int32) : ∃ r h1, iEv mX8_node [.ref o, .int t, .int i, .int w] h r h1 ∧ c8P h o (aNode W t i w) r h1 := by
  obtain ⟨sN, im, R, sh, rf, n, k, E, C, T, P, hR⟩ := hR
  refine I8_node ?_
  unfold aNode
  rcases iIx_cases t (n := W.1.1) (by have := hW.1.1; omega) with ⟨e, z⟩ | ⟨j, hj, rfl, e⟩
  · rw [e]
    simp only [X8_node_0, X8_node_1, X8_node_2 (c8_treeN hR z) hR.ob, X8_node_5, X8_node_5n, X8_node_7, X8_node_7n, X8_node_9, X8_node_9n, X8_node_12, X8_node_13, X8_node_14 (ev8_refuse hR (v := -1) (r := 1) (by decide) (by decide) rfl) hR.ob, X8_node_17, iOb_some, iClr_i, iClr_r, iClr_n, iClr_u, iClr_l, rf_s, rf_n, iB_0, iSum_nil]
    exact c8_end hR (by decide)
  · rw [e]
    dsimp only
    obtain ⟨a, K, B, D, e1, e2, e3, e4⟩ := c8_tree hR hj
    have hT := e3.symm.ok (hW.1.2.2.1 j hj)
    have e80 := e2.2.2.2.2
    have eh := ev_hasX e2 i
    rcases iIx_cases i (n := (W.1.2.1 j).1) (by omega) with ⟨f, z⟩ | ⟨q, hq, rfl, f⟩
    · rw [f] at eh ⊢
      simp only [X8_node_0, X8_node_1, X8_node_2 e1 hR.ob, X8_node_5, X8_node_5n, X8_node_7, X8_node_7n, X8_node_9, X8_node_9n, X8_node_12, X8_node_13, X8_node_17, X8_node_18, X8_node_18n, X8_node_20, X8_node_21 eh e2.o, X8_node_24, X8_node_27, X8_node_28, X8_node_30 (ev8_refuse hR (v := -5) (r := 5) (by decide) (by decide) rfl) hR.ob, X8_node_33, iOb_some, iClr_i, iClr_r, iClr_n, iClr_u, iClr_l, rf_s, rf_n, iB_0, iSum_nil, Option.isSome_none, if_true]
      exact c8_end hR (by decide)
    · rw [f] at eh ⊢
      dsimp only
      rw [← told_congr e3 hT hq]
      simp only [X8_node_0, X8_node_1, X8_node_2 e1 hR.ob, X8_node_5, X8_node_5n, X8_node_7, X8_node_7n, X8_node_9, X8_node_9n, X8_node_12, X8_node_13, X8_node_17, X8_node_18, X8_node_18n, X8_node_20, X8_node_21 eh e2.o, X8_node_24, X8_node_27, X8_node_28, X8_node_33, X8_node_34, iOb_some, iClr_i, iClr_r, iClr_n, iClr_u, iClr_l, rf_s, rf_n, iB_0, iSum_nil, Option.isSome_some, Bool.true_eq_false, if_false]
      unfold tTold
      dsimp only
      by_cases c0 : w = 0
      · rw [c0, if_pos rfl]
        simp only [X8_node_35_0, X8_node_35_1, X8_node_35_2, X8_node_35_3, X8_node_35_4, X8_node_35_5, X8_node_35_6, X8_node_76, X8_node_76n, X8_node_78, X8_node_79 (ev_keyAt e2 hq) e2.o, X8_node_82, X8_node_83, X8_node_83n, X8_node_85, X8_node_89, X8_node_90, X8_node_90n, X8_node_92, X8_node_96, X8_node_97, X8_node_97n, X8_node_99, X8_node_103, X8_node_104, X8_node_104n, X8_node_106, X8_node_110, X8_node_111, X8_node_111n, X8_node_113, X8_node_117, X8_node_118, X8_node_118n, X8_node_120, X8_node_124, X8_node_125, X8_node_126, iOb_some, iClr_i, iClr_r, iClr_n, iClr_u, iClr_l, rf_s, rf_n, iB_0, iSum_nil]
        exact c8_same hR
      rw [if_neg c0]
      by_cases c1 : w = 1
      · rw [c1, if_pos rfl]
        simp only [X8_node_35_0, X8_node_35_1, X8_node_35_2, X8_node_35_3, X8_node_35_4, X8_node_35_5, X8_node_35_6, X8_node_76, X8_node_76n, X8_node_78, X8_node_82, X8_node_83, X8_node_83n, X8_node_85, X8_node_86 (ev_labelAt e2 hq) e2.o, X8_node_89, X8_node_90, X8_node_90n, X8_node_92, X8_node_96, X8_node_97, X8_node_97n, X8_node_99, X8_node_103, X8_node_104, X8_node_104n, X8_node_106, X8_node_110, X8_node_111, X8_node_111n, X8_node_113, X8_node_117, X8_node_118, X8_node_118n, X8_node_120, X8_node_124, X8_node_125, X8_node_126, iOb_some, iClr_i, iClr_r, iClr_n, iClr_u, iClr_l, rf_s, rf_n, iB_0, iSum_nil]
        exact c8_same hR
      rw [if_neg c1]
      by_cases c2 : w = 2
      · rw [c2, if_pos rfl]
        simp only [X8_node_35_0, X8_node_35_1, X8_node_35_2, X8_node_35_3, X8_node_35_4, X8_node_35_5, X8_node_35_6, X8_node_76, X8_node_76n, X8_node_78, X8_node_82, X8_node_83, X8_node_83n, X8_node_85, X8_node_89, X8_node_90, X8_node_90n, X8_node_92, X8_node_93 (ev_parentKeyAt e2 hq) e2.o, X8_node_96, X8_node_97, X8_node_97n, X8_node_99, X8_node_103, X8_node_104, X8_node_104n, X8_node_106, X8_node_110, X8_node_111, X8_node_111n, X8_node_113, X8_node_117, X8_node_118, X8_node_118n, X8_node_120, X8_node_124, X8_node_125, X8_node_126, iOb_some, iClr_i, iClr_r, iClr_n, iClr_u, iClr_l, rf_s, rf_n, iB_0, iSum_nil]
        exact c8_same hR
      rw [if_neg c2]
      by_cases c3 : w = 3
      · rw [c3, if_pos rfl]
        simp only [X8_node_35_0, X8_node_35_1, X8_node_35_2, X8_node_35_3, X8_node_35_4, X8_node_35_5, X8_node_35_6, X8_node_76, X8_node_76n, X8_node_78, X8_node_82, X8_node_83, X8_node_83n, X8_node_85, X8_node_89, X8_node_90, X8_node_90n, X8_node_92, X8_node_96, X8_node_97, X8_node_97n, X8_node_99, X8_node_100 (ev_placeAt e2 hq) e2.o, X8_node_103, X8_node_104, X8_node_104n, X8_node_106, X8_node_110, X8_node_111, X8_node_111n, X8_node_113, X8_node_117, X8_node_118, X8_node_118n, X8_node_120, X8_node_124, X8_node_125, X8_node_126, iOb_some, iClr_i, iClr_r, iClr_n, iClr_u, iClr_l, rf_s, rf_n, iB_0, iSum_nil]
        exact c8_same hR
      rw [if_neg c3]
      by_cases c4 : w = 4
      · rw [c4, if_pos rfl]
        simp only [X8_node_35_0, X8_node_35_1, X8_node_35_2, X8_node_35_3, X8_node_35_4, X8_node_35_5, X8_node_35_6, X8_node_76, X8_node_76n, X8_node_78, X8_node_82, X8_node_83, X8_node_83n, X8_node_85, X8_node_89, X8_node_90, X8_node_90n, X8_node_92, X8_node_96, X8_node_97, X8_node_97n, X8_node_99, X8_node_103, X8_node_104, X8_node_104n, X8_node_106, X8_node_107 (ev_childCount e2 hq) e2.o, X8_node_110, X8_node_111, X8_node_111n, X8_node_113, X8_node_117, X8_node_118, X8_node_118n, X8_node_120, X8_node_124, X8_node_125, X8_node_126, iOb_some, iClr_i, iClr_r, iClr_n, iClr_u, iClr_l, rf_s, rf_n, iB_0, iSum_nil]
        exact c8_same hR
      rw [if_neg c4]
      by_cases c5 : w = 5
      · rw [c5, if_pos rfl]
        simp only [X8_node_35_0, X8_node_35_1, X8_node_35_2, X8_node_35_3, X8_node_35_4, X8_node_35_5, X8_node_35_6, X8_node_76, X8_node_76n, X8_node_78, X8_node_82, X8_node_83, X8_node_83n, X8_node_85, X8_node_89, X8_node_90, X8_node_90n, X8_node_92, X8_node_96, X8_node_97, X8_node_97n, X8_node_99, X8_node_103, X8_node_104, X8_node_104n, X8_node_106, X8_node_110, X8_node_111, X8_node_111n, X8_node_113, X8_node_114 (ev_depthAt e2 hq) e2.o, X8_node_117, X8_node_118, X8_node_118n, X8_node_120, X8_node_124, X8_node_125, X8_node_126, iOb_some, iClr_i, iClr_r, iClr_n, iClr_u, iClr_l, rf_s, rf_n, iB_0, iSum_nil]
        exact c8_same hR
      rw [if_neg c5]
      by_cases c6 : w = 6
      · rw [c6, if_pos rfl]
        have hE := tEnd_gt (D := D) hq
        simp only [X8_node_35_0, X8_node_35_1, X8_node_35_2, X8_node_35_3, X8_node_35_4, X8_node_35_5, X8_node_35_6, X8_node_76, X8_node_76n, X8_node_78, X8_node_82, X8_node_83, X8_node_83n, X8_node_85, X8_node_89, X8_node_90, X8_node_90n, X8_node_92, X8_node_96, X8_node_97, X8_node_97n, X8_node_99, X8_node_103, X8_node_104, X8_node_104n, X8_node_106, X8_node_110, X8_node_111, X8_node_111n, X8_node_113, X8_node_117, X8_node_118, X8_node_118n, X8_node_120, X8_node_121 (ev_endOf e2 hq) e2.o, X8_node_124, X8_node_125, X8_node_126, iOb_some, iClr_i, iClr_r, iClr_n, iClr_u, iClr_l, rf_s, rf_n, iB_0, iSum_nil, pk_sub (show q ≤ tEnd D (W.1.2.1 j).1 q by omega)]
        exact c8_same hR
      rw [if_neg c6, X8_node_35_d (i_sw6 c0 c1 c2 c3 c4 c5 c6)]
      simp only [X8_node_127, X8_node_128, X8_node_130 (ev8_refuse hR (v := -5) (r := 5) (by decide) (by decide) rfl) hR.ob, X8_node_133, iOb_some, iClr_i, iClr_r, iClr_n, iClr_u, iClr_l, rf_s, rf_n, iB_0, iSum_nil]
      exact c8_end hR (by decide)
theorem m9_node (hR : mRel s W) (hW : wOk W) (t i w : Int32) : ∃ r h1, iEv mX9_node_ [.ref x, .int t, .int i, .int w] (mH b x s) r h1 ∧ m9P b x (aNode W t i w) r h1 := by
  refine I9_node_ ?_
  unfold aNode
  have et := ev9_isTree (b := b) (x := x) hR.1 hW.1.1 (t := t)
  rcases iIx_cases t (n := W.1.1) (by have := hW.1.1; omega) with ⟨e, z⟩ | ⟨j, hj, rfl, e⟩
  · rw [e] at et ⊢
    simp only [X9_node__0, X9_node__1, X9_node__2 et mH_obj, X9_node__5, X9_node__8, X9_node__9, X9_node__10 (ev9_noV (v := -1) (r := 1) (by decide) rfl) mH_obj, X9_node__13, iOb_some, iClr_i, iClr_r, iClr_n, iClr_u, iClr_l, rf_s, rf_n, iB_0, iSum_nil, Option.isSome_none, if_true]
    exact m9_rf hR (by decide)
  · rw [e] at et ⊢
    dsimp only
    obtain ⟨T, s', e1, e2, e3, e4⟩ := ev9_loadsR (b := b) (x := x) hR.1 hW.1 hj
    have hT := e3.symm.ok (hW.1.2.2.1 j hj)
    have h60 := hT.1.le
    have hsz := (hR.1.2.2.2.1 j hj).1
    have hj16 : j < 16 := by have := hW.1.1; omega
    have ew := ev9_wi (i := i) (n := (W.1.2.1 j).1) (by have := e3.1; omega) (h := mH b x s)
    rcases iIx_cases i (n := (W.1.2.1 j).1) (by have := e3.1; omega) with ⟨f, z⟩ | ⟨q, hq, rfl, f⟩
    · rw [f] at ew ⊢
      simp only [X9_node__0, X9_node__1, X9_node__2 et mH_obj, X9_node__5, X9_node__8, X9_node__9, X9_node__13, X9_node__14, X9_node__15, X9_node__16, X9_node__17, X9_node__20, X9_node__21, X9_node__22, X9_node__23, X9_node__24 ew, X9_node__27, X9_node__30, X9_node__31, X9_node__33 (ev9_noV (v := -5) (r := 5) (by decide) rfl) mH_obj, X9_node__36, iOb_some, iClr_i, iClr_r, iClr_n, iClr_u, iClr_l, rf_s, rf_n, iB_0, iSum_nil, Option.isSome_some, Bool.true_eq_false, if_false, Option.isSome_none, if_true, mg1, ml1 hj16, hsz, i_w1]
      exact m9_rf hR (by decide)
    · rw [f] at ew ⊢
      dsimp only
      have hqT : q < T.1 := by rw [e3.1]; exact hq
      have hp : q ≠ 0 → tPar T.2.2.2 q ≠ none := by
        obtain ⟨d, hd, h5⟩ := hT.2
        exact h5.par' hd hqT
      rw [← told_congr e3 hT hqT]
      simp only [X9_node__0, X9_node__1, X9_node__2 et mH_obj, X9_node__5, X9_node__8, X9_node__9, X9_node__13, X9_node__14, X9_node__15, X9_node__16, X9_node__17, X9_node__20, X9_node__21, X9_node__22, X9_node__23, X9_node__24 ew, X9_node__27, X9_node__30, X9_node__31, X9_node__36, X9_node__37, X9_node__38, X9_node__39 e1 mH_obj, X9_node__42, iOb_some, iClr_i, iClr_r, iClr_n, iClr_u, iClr_l, rf_s, rf_n, iB_0, iSum_nil, Option.isSome_some, Bool.true_eq_false, if_false, mg1, ml1 hj16, hsz, i_w1]
      have hL := hR.ex (e4.mono LWX)
      unfold tTold
      by_cases c0 : w = 0
      · rw [c0, if_pos rfl]
        simp only [X9_node__43_0, X9_node__43_1, X9_node__43_2, X9_node__43_3, X9_node__43_4, X9_node__43_5, X9_node__43_6, X9_node__84, X9_node__85, X9_node__88, X9_node__89, X9_node__90, X9_node__91, X9_node__92, X9_node__95, X9_node__96, X9_node__97, X9_node__98, X9_node__99, X9_node__103, X9_node__104, X9_node__105, X9_node__109, X9_node__110, X9_node__111, X9_node__115, X9_node__116, X9_node__117, X9_node__120, X9_node__121, X9_node__122, X9_node__123, X9_node__124, X9_node__128, X9_node__129, X9_node__130, iOb_some, iClr_i, iClr_r, iClr_n, iClr_u, iClr_l, rf_s, rf_n, iB_0, iSum_nil, mg19, ml19 (show q < 66 by omega), e2.2.1]
        exact m9_same hL
      rw [if_neg c0]
      by_cases c1 : w = 1
      · rw [c1, if_pos rfl]
        simp only [X9_node__43_0, X9_node__43_1, X9_node__43_2, X9_node__43_3, X9_node__43_4, X9_node__43_5, X9_node__43_6, X9_node__84, X9_node__85, X9_node__88, X9_node__89, X9_node__90, X9_node__91, X9_node__92, X9_node__95, X9_node__96, X9_node__97, X9_node__98, X9_node__99, X9_node__103, X9_node__104, X9_node__105, X9_node__109, X9_node__110, X9_node__111, X9_node__115, X9_node__116, X9_node__117, X9_node__120, X9_node__121, X9_node__122, X9_node__123, X9_node__124, X9_node__128, X9_node__129, X9_node__130, iOb_some, iClr_i, iClr_r, iClr_n, iClr_u, iClr_l, rf_s, rf_n, iB_0, iSum_nil, mg20, ml20 (show q < 66 by omega), e2.2.2.1]
        exact m9_same hL
      rw [if_neg c1]
      by_cases c2 : w = 2
      · rw [c2, if_pos rfl]
        have ep := ev9_parentKey (b := b) (x := x) (s := s') (n := T.1) (by omega) hqT (by rw [e2.2.2.2]; exact hp)
        rw [e2.2.2.2, e2.2.1] at ep
        simp only [X9_node__43_0, X9_node__43_1, X9_node__43_2, X9_node__43_3, X9_node__43_4, X9_node__43_5, X9_node__43_6, X9_node__84, X9_node__85, X9_node__88, X9_node__89, X9_node__90, X9_node__91, X9_node__92, X9_node__95, X9_node__96, X9_node__97, X9_node__98, X9_node__99, X9_node__100 ep mH_obj, X9_node__103, X9_node__104, X9_node__105, X9_node__109, X9_node__110, X9_node__111, X9_node__115, X9_node__116, X9_node__117, X9_node__120, X9_node__121, X9_node__122, X9_node__123, X9_node__124, X9_node__128, X9_node__129, X9_node__130, iOb_some, iClr_i, iClr_r, iClr_n, iClr_u, iClr_l, rf_s, rf_n, iB_0, iSum_nil]
        exact m9_same hL
      rw [if_neg c2]
      by_cases c3 : w = 3
      · rw [c3, if_pos rfl]
        have ep := ev9_place (b := b) (x := x) (s := s') (n := T.1) (by omega) hqT
        rw [e2.2.2.2] at ep
        simp only [X9_node__43_0, X9_node__43_1, X9_node__43_2, X9_node__43_3, X9_node__43_4, X9_node__43_5, X9_node__43_6, X9_node__84, X9_node__85, X9_node__88, X9_node__89, X9_node__90, X9_node__91, X9_node__92, X9_node__95, X9_node__96, X9_node__97, X9_node__98, X9_node__99, X9_node__103, X9_node__104, X9_node__105, X9_node__106 ep mH_obj, X9_node__109, X9_node__110, X9_node__111, X9_node__115, X9_node__116, X9_node__117, X9_node__120, X9_node__121, X9_node__122, X9_node__123, X9_node__124, X9_node__128, X9_node__129, X9_node__130, iOb_some, iClr_i, iClr_r, iClr_n, iClr_u, iClr_l, rf_s, rf_n, iB_0, iSum_nil]
        exact m9_same hL
      rw [if_neg c3]
      by_cases c4 : w = 4
      · rw [c4, if_pos rfl]
        have ep := ev9_children (b := b) (x := x) (s := s') (n := T.1) e2.1 (by omega) hqT
        rw [e2.2.2.2] at ep
        simp only [X9_node__43_0, X9_node__43_1, X9_node__43_2, X9_node__43_3, X9_node__43_4, X9_node__43_5, X9_node__43_6, X9_node__84, X9_node__85, X9_node__88, X9_node__89, X9_node__90, X9_node__91, X9_node__92, X9_node__95, X9_node__96, X9_node__97, X9_node__98, X9_node__99, X9_node__103, X9_node__104, X9_node__105, X9_node__109, X9_node__110, X9_node__111, X9_node__112 ep mH_obj, X9_node__115, X9_node__116, X9_node__117, X9_node__120, X9_node__121, X9_node__122, X9_node__123, X9_node__124, X9_node__128, X9_node__129, X9_node__130, iOb_some, iClr_i, iClr_r, iClr_n, iClr_u, iClr_l, rf_s, rf_n, iB_0, iSum_nil]
        exact m9_same hL
      rw [if_neg c4]
      by_cases c5 : w = 5
      · rw [c5, if_pos rfl]
        simp only [X9_node__43_0, X9_node__43_1, X9_node__43_2, X9_node__43_3, X9_node__43_4, X9_node__43_5, X9_node__43_6, X9_node__84, X9_node__85, X9_node__88, X9_node__89, X9_node__90, X9_node__91, X9_node__92, X9_node__95, X9_node__96, X9_node__97, X9_node__98, X9_node__99, X9_node__103, X9_node__104, X9_node__105, X9_node__109, X9_node__110, X9_node__111, X9_node__115, X9_node__116, X9_node__117, X9_node__120, X9_node__121, X9_node__122, X9_node__123, X9_node__124, X9_node__128, X9_node__129, X9_node__130, iOb_some, iClr_i, iClr_r, iClr_n, iClr_u, iClr_l, rf_s, rf_n, iB_0, iSum_nil, mg21, ml21 (show q < 66 by omega), e2.2.2.2]
        exact m9_same hL
      rw [if_neg c5]
      by_cases c6 : w = 6
      · rw [c6, if_pos rfl]
        have ep := ev9_end (b := b) (x := x) (s := s') (n := T.1) e2.1 (by omega) hqT
        rw [e2.2.2.2] at ep
        have hE := tEnd_gt (D := T.2.2.2) hqT
        simp only [X9_node__43_0, X9_node__43_1, X9_node__43_2, X9_node__43_3, X9_node__43_4, X9_node__43_5, X9_node__43_6, X9_node__84, X9_node__85, X9_node__88, X9_node__89, X9_node__90, X9_node__91, X9_node__92, X9_node__95, X9_node__96, X9_node__97, X9_node__98, X9_node__99, X9_node__103, X9_node__104, X9_node__105, X9_node__109, X9_node__110, X9_node__111, X9_node__115, X9_node__116, X9_node__117, X9_node__120, X9_node__121, X9_node__122, X9_node__123, X9_node__124, X9_node__125 ep mH_obj, X9_node__128, X9_node__129, X9_node__130, iOb_some, iClr_i, iClr_r, iClr_n, iClr_u, iClr_l, rf_s, rf_n, iB_0, iSum_nil, pk_sub (show q ≤ tEnd T.2.2.2 T.1 q by omega)]
        exact m9_same hL
      rw [if_neg c6, X9_node__43_d (i_sw6 c0 c1 c2 c3 c4 c5 c6)]
      simp only [X9_node__131, X9_node__132, X9_node__134 (ev9_noV (v := -5) (r := 5) (by decide) rfl) mH_obj, X9_node__137, iOb_some, iClr_i, iClr_r, iClr_n, iClr_u, iClr_l, rf_s, rf_n, iB_0, iSum_nil]
      exact m9_rf hL (by decide)
end READS2

/-! judge on both sides -/
section JUDGE
variable {h h1 h' : iHp} {o sN n k i j l x m a c p q r t u : Nat} {im : Option Nat} {R E T P : Nat → Option Nat} {sh rf C C2 : Nat → Int32} {W : wW} {b : iHp} {s s0 s1 s' : mS} {f g : Nat → Int64} {K B D K' : Nat → Int32} {so : Int32}
def jW (f : Nat → Int64) (K : Nat → Int32) (m n : Nat) : Nat → Nat → Option Nat
  | 0, _ => if n < m then some n else none
  | k + 1, i => if i < m ∧ (f i).toInt32 = K i then jW f K m n k (i + 1) else some i
theorem jW_congr (h1 : ∀ i, i < n → f i = g i) (h2 : ∀ i, i < m → K i = K' i) : ∀ k i, i + k = n → jW f K m n k i = jW g K' m n k i := by
  intro k
  induction k with
  | zero => intro i _; rfl
  | succ k ih =>
    intro i hi
    unfold jW
    rw [ih (i + 1) (by omega), h1 i (by omega)]
    by_cases c : i < m
    · rw [h2 i c]
    · rw [if_neg (fun z => c z.1), if_neg (fun z => c z.1)]
theorem wrong_loop (hT : trAt h a m K B D) (hw : rwAt h q so l f) (hn : n ≤ l) (hn6 : n ≤ 60) {Q : Option Value → iHp → Prop} : ∀ k i, i + k = n → (iWp 4 mX7_firstWrong 2 [.ref a, .ref q, .int (nI n), .int (nI i)] [] h Q = Q (some (.int (oI (jW f K m n k i)))) h) := by
  have hm := hT.2.2.2.2
  intro k
  induction k with
  | zero =>
    intro i hi
    obtain rfl : i = n := by omega
    rw [X7_firstWrong_2]
    by_cases c : i < m
    · rw [show jW f K m i 0 i = some i from if_pos c]
      simp only [X7_firstWrong_3, X7_firstWrong_4, X7_firstWrong_7, X7_firstWrong_8, X7_firstWrong_12, X7_firstWrong_15, X7_firstWrong_15n, X7_firstWrong_16, X7_firstWrong_20, X7_firstWrong_21, X7_firstWrong_24, X7_firstWrong_25, X7_firstWrong_26, X7_firstWrong_29, X7_firstWrong_30, X7_firstWrong_31, X7_firstWrong_34, X7_firstWrong_37, X7_firstWrong_38, X7_firstWrong_41, X7_firstWrong_42, X7_firstWrong_45, X7_firstWrong_46, X7_firstWrong_49, X7_firstWrong_50, iOb_some, iClr_i, iClr_r, iClr_n, iClr_u, iClr_l, rf_s, rf_n, iB_0, iSum_nil, if_pos (Int32.le_refl (nI i)), hT.s, if_neg (nI_ge c (show m < 2 ^ 31 by omega)), oI_s]
    · rw [show jW f K m i 0 i = none from if_neg c]
      simp only [X7_firstWrong_3, X7_firstWrong_4, X7_firstWrong_7, X7_firstWrong_8, X7_firstWrong_12, X7_firstWrong_15, X7_firstWrong_15n, X7_firstWrong_16, X7_firstWrong_20, X7_firstWrong_21, X7_firstWrong_24, X7_firstWrong_25, X7_firstWrong_26, X7_firstWrong_29, X7_firstWrong_30, X7_firstWrong_31, X7_firstWrong_34, X7_firstWrong_37, X7_firstWrong_38, X7_firstWrong_41, X7_firstWrong_42, X7_firstWrong_45, X7_firstWrong_46, X7_firstWrong_49, X7_firstWrong_50, iOb_some, iClr_i, iClr_r, iClr_n, iClr_u, iClr_l, rf_s, rf_n, iB_0, iSum_nil, if_pos (Int32.le_refl (nI i)), hT.s, if_pos (nI_le (show m ≤ i by omega) (show i < 2 ^ 31 by omega)), oI_n]
  | succ k ih =>
    intro i hi
    have r := ih (i + 1) (by omega)
    rw [nI_succ i] at r
    rw [X7_firstWrong_2]
    by_cases c : i < m
    · by_cases c2 : (f i).toInt32 = K i
      · rw [show jW f K m n (k + 1) i = jW f K m n k (i + 1) from if_pos ⟨c, c2⟩, ← r]
        simp only [X7_firstWrong_3, X7_firstWrong_4, X7_firstWrong_7, X7_firstWrong_8, X7_firstWrong_9 (ev_hasI hT c) hT.o, X7_firstWrong_12, X7_firstWrong_15, X7_firstWrong_15n, X7_firstWrong_16, X7_firstWrong_17 (ev_rint hw (show i < l by omega)) hw.o, X7_firstWrong_20, X7_firstWrong_21, X7_firstWrong_24, X7_firstWrong_25, X7_firstWrong_26, X7_firstWrong_29, X7_firstWrong_30, X7_firstWrong_31, X7_firstWrong_34, iOb_some, iClr_i, iClr_r, iClr_n, iClr_u, iClr_l, rf_s, rf_n, iB_0, iSum_nil, if_neg (nI_ge (show i < n by omega) (show n < 2 ^ 31 by omega)), Bool.true_eq_false, if_false, hT.k, hT.lk c, if_pos c2]
      · rw [show jW f K m n (k + 1) i = some i from if_neg (fun z => c2 z.2)]
        simp only [X7_firstWrong_3, X7_firstWrong_4, X7_firstWrong_7, X7_firstWrong_8, X7_firstWrong_9 (ev_hasI hT c) hT.o, X7_firstWrong_12, X7_firstWrong_15, X7_firstWrong_15n, X7_firstWrong_16, X7_firstWrong_17 (ev_rint hw (show i < l by omega)) hw.o, X7_firstWrong_20, X7_firstWrong_21, X7_firstWrong_24, X7_firstWrong_25, X7_firstWrong_26, X7_firstWrong_29, X7_firstWrong_30, X7_firstWrong_31, X7_firstWrong_34, iOb_some, iClr_i, iClr_r, iClr_n, iClr_u, iClr_l, rf_s, rf_n, iB_0, iSum_nil, if_neg (nI_ge (show i < n by omega) (show n < 2 ^ 31 by omega)), Bool.true_eq_false, if_false, hT.k, hT.lk c, if_neg c2, oI_s]
    · rw [show jW f K m n (k + 1) i = some i from if_neg (fun z => c z.1)]
      simp only [X7_firstWrong_3, X7_firstWrong_4, X7_firstWrong_7, X7_firstWrong_8, X7_firstWrong_9 (ev_hasO hT (show m ≤ i by omega) (show i < 2 ^ 31 by omega)) hT.o, X7_firstWrong_12, X7_firstWrong_15, X7_firstWrong_15n, X7_firstWrong_16, X7_firstWrong_20, X7_firstWrong_21, X7_firstWrong_24, X7_firstWrong_25, X7_firstWrong_26, X7_firstWrong_29, X7_firstWrong_30, X7_firstWrong_31, X7_firstWrong_34, iOb_some, iClr_i, iClr_r, iClr_n, iClr_u, iClr_l, rf_s, rf_n, iB_0, iSum_nil, if_neg (nI_ge (show i < n by omega) (show n < 2 ^ 31 by omega)), if_true, oI_s]
theorem ev_firstWrong (hT : trAt h a m K B D) (hw : rwAt h q so l f) (hn : n ≤ l) (hn6 : n ≤ 60) : iEv mX7_firstWrong [.ref a, .ref q, .int (nI n)] h (some (.int (oI (jW f K m n n 0)))) h := by
  refine J7_firstWrong (cat_r q) ?_
  simp only [X7_firstWrong_0, X7_firstWrong_1, iOb_some, iClr_i, iClr_r, iClr_n, iClr_u, iClr_l, rf_s, rf_n, iB_0, iSum_nil]
  exact (wrong_loop hT hw hn hn6 (Q := fun r' h' => r' = some (.int (oI (jW f K m n n 0))) ∧ h' = h) n 0 (by omega)).mpr ⟨rfl, rfl⟩
def aJudge (W : wW) (s t n : Int32) : Int32 × wW := match iIx s 8, iIx t W.1.1 with
  | some i, some j => match (W.2.2.1 i).1 with
    | none => if (W.2.2.1 i).2 = -1 then (-13, wRef W 3) else (-12, wRef W 2)
    | some z => if n < 0 then (-14, wRef W 4) else if nI z.2.1 < n then (-15, wRef W 5) else if 60 < n then (-16, wRef W 6) else (oI (jW z.2.2 (W.1.2.1 j).2.1 (W.1.2.1 j).1 n.toNatClampNeg n.toNatClampNeg 0), W)
  | _, _ => (-11, wRef W 1)
theorem c8_judge (hR : cRep h o W) (hW : wOk W) (s t y : Int32) : ∃ r h1, iEv mX8_judge [.ref o, .int s, .int t, .int y] h r h1 ∧ c8P h o (aJudge W s t y) r h1 := by
  obtain ⟨sN, im, R, sh, rf, n, k, E, C, T, P, hR⟩ := hR
  refine I8_judge ?_
  unfold aJudge
  have hn2 : W.1.1 < 2 ^ 31 := by have := hW.1.1; omega
  have es := c8_isShelf (h := h) s
  have r1 := ev8_refuseLower hR (v := -1) (r := 1) (by decide) (by decide) rfl
  have ewhy := fun hn => c8_why hR (i := s) hn
  unfold aNoRow at ewhy
  rcases iIx_cases s (n := 8) (by decide) with ⟨e, z⟩ | ⟨i, hi, rfl, e⟩
  · rw [e] at es ⊢
    rcases iIx_cases t hn2 with ⟨f, y2⟩ | ⟨j, hj, rfl, f⟩
    · rw [f]
      simp only [X8_judge_0, X8_judge_1, X8_judge_2 (c8_treeN hR y2) hR.ob, X8_judge_5, X8_judge_5n, X8_judge_7, X8_judge_8 es, X8_judge_11, X8_judge_14, X8_judge_14n, X8_judge_16, X8_judge_16n, X8_judge_19, X8_judge_20, X8_judge_21 r1 hR.ob, X8_judge_24, iOb_some, iClr_i, iClr_r, iClr_n, iClr_u, iClr_l, rf_s, rf_n, iB_0, iSum_nil, Option.isSome_none, if_true]
      exact c8_end hR (by decide)
    · rw [f]
      obtain ⟨ta, K, B, D, f1, f2, f3, f4⟩ := c8_tree hR hj
      simp only [X8_judge_0, X8_judge_1, X8_judge_2 f1 hR.ob, X8_judge_5, X8_judge_5n, X8_judge_7, X8_judge_8 es, X8_judge_11, X8_judge_14, X8_judge_14n, X8_judge_16, X8_judge_16n, X8_judge_19, X8_judge_20, X8_judge_21 r1 hR.ob, X8_judge_24, iOb_some, iClr_i, iClr_r, iClr_n, iClr_u, iClr_l, rf_s, rf_n, iB_0, iSum_nil, Option.isSome_none, if_true]
      exact c8_end hR (by decide)
  · rw [e] at es ewhy ⊢
    rcases iIx_cases t hn2 with ⟨f, y2⟩ | ⟨j, hj, rfl, f⟩
    · rw [f]
      simp only [X8_judge_0, X8_judge_1, X8_judge_2 (c8_treeN hR y2) hR.ob, X8_judge_5, X8_judge_5n, X8_judge_7, X8_judge_8 es, X8_judge_11, X8_judge_14, X8_judge_14n, X8_judge_16, X8_judge_16n, X8_judge_19, X8_judge_20, X8_judge_21 r1 hR.ob, X8_judge_24, iOb_some, iClr_i, iClr_r, iClr_n, iClr_u, iClr_l, rf_s, rf_n, iB_0, iSum_nil, Option.isSome_some, Bool.true_eq_false, if_false]
      exact c8_end hR (by decide)
    · rw [f]
      obtain ⟨ta, K, B, D, f1, f2, f3, f4⟩ := c8_tree hR hj
      dsimp only at ewhy ⊢
      cases e2 : (W.2.2.1 i).1 with
      | none =>
        have hrow := c8_rowV hR hi e2
        rw [e2] at ewhy
        dsimp only at ewhy ⊢
        by_cases c : (W.2.2.1 i).2 = -1
        · rw [if_pos c] at ewhy ⊢
          simp only [X8_judge_0, X8_judge_1, X8_judge_2 f1 hR.ob, X8_judge_5, X8_judge_5n, X8_judge_7, X8_judge_8 es, X8_judge_11, X8_judge_14, X8_judge_14n, X8_judge_16, X8_judge_16n, X8_judge_19, X8_judge_20, X8_judge_24, X8_judge_25, X8_judge_26, X8_judge_27 hrow hR.ob, X8_judge_30, X8_judge_30n, X8_judge_32, X8_judge_32n, X8_judge_34, X8_judge_34n, X8_judge_37, X8_judge_38, X8_judge_39, X8_judge_40 (ewhy (by decide)) hR.ob, X8_judge_43 (ev8_refuseLower hR (v := -3) (r := 3) (by decide) (by decide) rfl) hR.ob, X8_judge_46, iOb_some, iClr_i, iClr_r, iClr_n, iClr_u, iClr_l, rf_s, rf_n, iB_0, iSum_nil, Option.isSome_some, Bool.true_eq_false, if_false]
          exact c8_end hR (by decide)
        · rw [if_neg c] at ewhy ⊢
          simp only [X8_judge_0, X8_judge_1, X8_judge_2 f1 hR.ob, X8_judge_5, X8_judge_5n, X8_judge_7, X8_judge_8 es, X8_judge_11, X8_judge_14, X8_judge_14n, X8_judge_16, X8_judge_16n, X8_judge_19, X8_judge_20, X8_judge_24, X8_judge_25, X8_judge_26, X8_judge_27 hrow hR.ob, X8_judge_30, X8_judge_30n, X8_judge_32, X8_judge_32n, X8_judge_34, X8_judge_34n, X8_judge_37, X8_judge_38, X8_judge_39, X8_judge_40 (ewhy (by decide)) hR.ob, X8_judge_43 (ev8_refuseLower hR (v := -2) (r := 2) (by decide) (by decide) rfl) hR.ob, X8_judge_46, iOb_some, iClr_i, iClr_r, iClr_n, iClr_u, iClr_l, rf_s, rf_n, iB_0, iSum_nil, Option.isSome_some, Bool.true_eq_false, if_false]
          exact c8_end hR (by decide)
      | some z =>
        obtain ⟨ra, g, g1, g2, g3, -⟩ := hR.rS hi e2
        have w16 := g2.2.2
        have hrow := c8_row hR hi g1
        dsimp only
        by_cases c1 : y < 0
        · rw [if_pos c1]
          simp only [X8_judge_0, X8_judge_1, X8_judge_2 f1 hR.ob, X8_judge_5, X8_judge_5n, X8_judge_7, X8_judge_8 es, X8_judge_11, X8_judge_14, X8_judge_14n, X8_judge_16, X8_judge_16n, X8_judge_19, X8_judge_20, X8_judge_24, X8_judge_25, X8_judge_26, X8_judge_27 hrow hR.ob, X8_judge_30, X8_judge_30n, X8_judge_32, X8_judge_32n, X8_judge_34, X8_judge_34n, X8_judge_37, X8_judge_38, X8_judge_39, X8_judge_46, X8_judge_47, X8_judge_48, X8_judge_51, X8_judge_52, X8_judge_54 (ev8_refuseLower hR (v := -4) (r := 4) (by decide) (by decide) rfl) hR.ob, X8_judge_57, iOb_some, iClr_i, iClr_r, iClr_n, iClr_u, iClr_l, rf_s, rf_n, iB_0, iSum_nil, Option.isSome_some, Bool.true_eq_false, if_false, if_neg (Int32.not_le.mpr c1)]
          exact c8_end hR (by decide)
        rw [if_neg c1]
        by_cases c2 : nI z.2.1 < y
        · rw [if_pos c2]
          simp only [X8_judge_0, X8_judge_1, X8_judge_2 f1 hR.ob, X8_judge_5, X8_judge_5n, X8_judge_7, X8_judge_8 es, X8_judge_11, X8_judge_14, X8_judge_14n, X8_judge_16, X8_judge_16n, X8_judge_19, X8_judge_20, X8_judge_24, X8_judge_25, X8_judge_26, X8_judge_27 hrow hR.ob, X8_judge_30, X8_judge_30n, X8_judge_32, X8_judge_32n, X8_judge_34, X8_judge_34n, X8_judge_37, X8_judge_38, X8_judge_39, X8_judge_46, X8_judge_47, X8_judge_48, X8_judge_51, X8_judge_52, X8_judge_57, X8_judge_58, X8_judge_59, X8_judge_59n, X8_judge_61 (ev_rlen g2) g2.o, X8_judge_64, X8_judge_67, X8_judge_68, X8_judge_70 (ev8_refuseLower hR (v := -5) (r := 5) (by decide) (by decide) rfl) hR.ob, X8_judge_73, iOb_some, iClr_i, iClr_r, iClr_n, iClr_u, iClr_l, rf_s, rf_n, iB_0, iSum_nil, Option.isSome_some, Bool.true_eq_false, if_false, if_pos (Int32.not_lt.mp c1), if_neg (Int32.not_le.mpr c2)]
          exact c8_end hR (by decide)
        rw [if_neg c2]
        by_cases c3 : 60 < y
        · rw [if_pos c3]
          simp only [X8_judge_0, X8_judge_1, X8_judge_2 f1 hR.ob, X8_judge_5, X8_judge_5n, X8_judge_7, X8_judge_8 es, X8_judge_11, X8_judge_14, X8_judge_14n, X8_judge_16, X8_judge_16n, X8_judge_19, X8_judge_20, X8_judge_24, X8_judge_25, X8_judge_26, X8_judge_27 hrow hR.ob, X8_judge_30, X8_judge_30n, X8_judge_32, X8_judge_32n, X8_judge_34, X8_judge_34n, X8_judge_37, X8_judge_38, X8_judge_39, X8_judge_46, X8_judge_47, X8_judge_48, X8_judge_51, X8_judge_52, X8_judge_57, X8_judge_58, X8_judge_59, X8_judge_59n, X8_judge_61 (ev_rlen g2) g2.o, X8_judge_64, X8_judge_67, X8_judge_68, X8_judge_73, X8_judge_74, X8_judge_75, X8_judge_77, X8_judge_80, X8_judge_81, X8_judge_83 (ev8_refuseLower hR (v := -6) (r := 6) (by decide) (by decide) rfl) hR.ob, X8_judge_86, iOb_some, iClr_i, iClr_r, iClr_n, iClr_u, iClr_l, rf_s, rf_n, iB_0, iSum_nil, Option.isSome_some, Bool.true_eq_false, if_false, if_pos (Int32.not_lt.mp c1), if_pos (Int32.not_lt.mp c2), if_neg (Int32.not_le.mpr c3)]
          exact c8_end hR (by decide)
        rw [if_neg c3]
        obtain ⟨q, hq, rfl⟩ := nI_of2 (M := 60) (n := 60) rfl c1 (Int32.not_lt.mp c3)
        have hql : q ≤ z.2.1 := (nI_leI (by omega) (by omega)).mp (Int32.not_lt.mp c2)
        rw [nI_clamp (by omega)]
        simp only [X8_judge_0, X8_judge_1, X8_judge_2 f1 hR.ob, X8_judge_5, X8_judge_5n, X8_judge_7, X8_judge_8 es, X8_judge_11, X8_judge_14, X8_judge_14n, X8_judge_16, X8_judge_16n, X8_judge_19, X8_judge_20, X8_judge_24, X8_judge_25, X8_judge_26, X8_judge_27 hrow hR.ob, X8_judge_30, X8_judge_30n, X8_judge_32, X8_judge_32n, X8_judge_34, X8_judge_34n, X8_judge_37, X8_judge_38, X8_judge_39, X8_judge_46, X8_judge_47, X8_judge_48, X8_judge_51, X8_judge_52, X8_judge_57, X8_judge_58, X8_judge_59, X8_judge_59n, X8_judge_61 (ev_rlen g2) g2.o, X8_judge_64, X8_judge_67, X8_judge_68, X8_judge_73, X8_judge_74, X8_judge_75, X8_judge_77, X8_judge_80, X8_judge_81, X8_judge_86, X8_judge_87, X8_judge_87n, X8_judge_89, X8_judge_89n, X8_judge_91, X8_judge_92 (ev_firstWrong f2 g2 hql hq) f2.o (cat_r ra), X8_judge_95, iOb_some, iClr_i, iClr_r, iClr_n, iClr_u, iClr_l, rf_s, rf_n, iB_0, iSum_nil, Option.isSome_some, Bool.true_eq_false, if_false, if_pos (Int32.not_lt.mp c1), if_pos (Int32.not_lt.mp c2), if_pos (Int32.not_lt.mp c3)]
        rw [jW_congr (g := z.2.2) (K' := (W.1.2.1 j).2.1) (fun i hi => g3 i (by omega)) (fun i hi => (f3.2 i hi).1) q 0 (by omega)]
        exact c8_same hR
theorem judge9_loop (hi : i < 8) (hj : j < 16) (hs : s.2.1 1 j = nI m) (hm : m ≤ 60) (hn6 : n ≤ 60) (hf : ∀ q, q < n → s.2.2 (160 * i + q) = f q) (hK : ∀ q, q < m → s.2.1 2 (64 * j + q) = K q) (a4 : Int32) {Q : Option Value → iHp → Prop} : ∀ k q, q + k = n → (iWp 3 mX9_judge 83 [.ref x, .int (nI i), .int (nI j), .int (nI n), .int a4, .int (nI q)] [] (mH b x s) Q = Q (some (.int (oI (jW f K m n k q)))) (mH b x s)) := by
  intro k
  induction k with
  | zero =>
    intro q hq
    obtain rfl : q = n := by omega
    rw [X9_judge_83]
    by_cases c : q < m
    · rw [show jW f K m q 0 q = some q from if_pos c]
      simp only [X9_judge_85, X9_judge_86, X9_judge_89, X9_judge_91, X9_judge_92, X9_judge_95, X9_judge_96, X9_judge_97, X9_judge_100, X9_judge_101, X9_judge_104, X9_judge_107, X9_judge_108, X9_judge_109, X9_judge_111, X9_judge_112, X9_judge_113, X9_judge_114, X9_judge_115, X9_judge_116, X9_judge_121, X9_judge_124, X9_judge_126, X9_judge_127, X9_judge_130, X9_judge_133, X9_judge_134, X9_judge_137, X9_judge_138, X9_judge_139, X9_judge_140, X9_judge_143, X9_judge_144, X9_judge_147, X9_judge_148, iOb_some, iClr_i, iClr_r, iClr_n, iClr_u, iClr_l, rf_s, rf_n, iB_0, iSum_nil, if_pos (Int32.le_refl (nI q)), mg1, ml1 hj, hs, if_neg (nI_ge c (show m < 2 ^ 31 by omega)), oI_s]
    · rw [show jW f K m q 0 q = none from if_neg c]
      simp only [X9_judge_85, X9_judge_86, X9_judge_89, X9_judge_91, X9_judge_92, X9_judge_95, X9_judge_96, X9_judge_97, X9_judge_100, X9_judge_101, X9_judge_104, X9_judge_107, X9_judge_108, X9_judge_109, X9_judge_111, X9_judge_112, X9_judge_113, X9_judge_114, X9_judge_115, X9_judge_116, X9_judge_121, X9_judge_124, X9_judge_126, X9_judge_127, X9_judge_130, X9_judge_133, X9_judge_134, X9_judge_137, X9_judge_138, X9_judge_139, X9_judge_140, X9_judge_143, X9_judge_144, X9_judge_147, X9_judge_148, iOb_some, iClr_i, iClr_r, iClr_n, iClr_u, iClr_l, rf_s, rf_n, iB_0, iSum_nil, if_pos (Int32.le_refl (nI q)), mg1, ml1 hj, hs, if_pos (nI_le (show m ≤ q by omega) (show q < 2 ^ 31 by omega)), oI_n]
  | succ k ih =>
    intro q hq
    have r := ih (q + 1) (by omega)
    rw [nI_succ q] at r
    rw [X9_judge_83]
    by_cases c : q < m
    · have ek : iEv mX9_keyOf [.ref x, .int (nI j), .int (nI q)] (mH b x s) (some (.int (K q))) (mH b x s) := by
        refine J9_keyOf ?_
        simp only [X9_keyOf_0, X9_keyOf_1, X9_keyOf_4, X9_keyOf_6, X9_keyOf_7, X9_keyOf_8, X9_keyOf_9, X9_keyOf_10, X9_keyOf_11, iOb_some, iClr_i, iClr_r, iClr_n, iClr_u, iClr_l, rf_s, rf_n, iB_0, iSum_nil, mg2, i64, ml2 (show 64 * j + q < 1024 by omega), hK q c, and_self]
      by_cases c2 : (f q).toInt32 = K q
      · rw [show jW f K m n (k + 1) q = jW f K m n k (q + 1) from if_pos ⟨c, c2⟩, ← r]
        simp only [X9_judge_85, X9_judge_86, X9_judge_89, X9_judge_91, X9_judge_92, X9_judge_95, X9_judge_96, X9_judge_97, X9_judge_100, X9_judge_101, X9_judge_104, X9_judge_107, X9_judge_108, X9_judge_109, X9_judge_111, X9_judge_112, X9_judge_113, X9_judge_114, X9_judge_115, X9_judge_116, X9_judge_118 ek mH_obj, X9_judge_121, X9_judge_124, X9_judge_126, X9_judge_127, X9_judge_130, iOb_some, iClr_i, iClr_r, iClr_n, iClr_u, iClr_l, rf_s, rf_n, iB_0, iSum_nil, if_neg (nI_ge (show q < n by omega) (show n < 2 ^ 31 by omega)), mg1, ml1 hj, hs, if_neg (nI_ge c (show m < 2 ^ 31 by omega)), mg13, i160, ml13 (show 160 * i + q < 1280 by omega), hf q (by omega), if_pos c2]
      · rw [show jW f K m n (k + 1) q = some q from if_neg (fun z => c2 z.2)]
        simp only [X9_judge_85, X9_judge_86, X9_judge_89, X9_judge_91, X9_judge_92, X9_judge_95, X9_judge_96, X9_judge_97, X9_judge_100, X9_judge_101, X9_judge_104, X9_judge_107, X9_judge_108, X9_judge_109, X9_judge_111, X9_judge_112, X9_judge_113, X9_judge_114, X9_judge_115, X9_judge_116, X9_judge_118 ek mH_obj, X9_judge_121, X9_judge_124, X9_judge_126, X9_judge_127, X9_judge_130, iOb_some, iClr_i, iClr_r, iClr_n, iClr_u, iClr_l, rf_s, rf_n, iB_0, iSum_nil, if_neg (nI_ge (show q < n by omega) (show n < 2 ^ 31 by omega)), mg1, ml1 hj, hs, if_neg (nI_ge c (show m < 2 ^ 31 by omega)), mg13, i160, ml13 (show 160 * i + q < 1280 by omega), hf q (by omega), if_neg c2, oI_s]
    · rw [show jW f K m n (k + 1) q = some q from if_neg (fun z => c z.1)]
      simp only [X9_judge_85, X9_judge_86, X9_judge_89, X9_judge_91, X9_judge_92, X9_judge_95, X9_judge_96, X9_judge_97, X9_judge_100, X9_judge_101, X9_judge_104, X9_judge_107, X9_judge_108, X9_judge_109, X9_judge_111, X9_judge_112, X9_judge_113, X9_judge_114, X9_judge_115, X9_judge_116, X9_judge_121, X9_judge_124, X9_judge_126, X9_judge_127, X9_judge_130, iOb_some, iClr_i, iClr_r, iClr_n, iClr_u, iClr_l, rf_s, rf_n, iB_0, iSum_nil, if_neg (nI_ge (show q < n by omega) (show n < 2 ^ 31 by omega)), mg1, ml1 hj, hs, if_pos (nI_le (show m ≤ q by omega) (show q < 2 ^ 31 by omega)), oI_s]
theorem m9_judge (hR : mRel s W) (hW : wOk W) (v t y : Int32) : ∃ r h1, iEv mX9_judge [.ref x, .int v, .int t, .int y] (mH b x s) r h1 ∧ m9P b x (aJudge W v t y) r h1 := by
  refine I9_judge ?_
  unfold aJudge
  have hn2 : W.1.1 < 2 ^ 31 := by have := hW.1.1; omega
  have en := ev9_noRow (b := b) (x := x) hR hW (i := v)
  unfold aNoRow at en
  have eu := ev9_isTree (b := b) (x := x) hR.1 hW.1.1 (t := t)
  have r1 := ev9_no10V (b := b) (x := x) (s := s) (v := -1) (r := 1) (by decide) rfl
  rcases iIx_cases v (n := 8) (by decide) with ⟨e, z⟩ | ⟨i, hi, rfl, e⟩
  · rw [e] at en ⊢
    simp only [X9_judge_0, X9_judge_1, X9_judge_2 en mH_obj, X9_judge_5, X9_judge_7, X9_judge_9, X9_judge_10, X9_judge_13, X9_judge_14, X9_judge_18, X9_judge_21, X9_judge_22, X9_judge_23 r1 mH_obj, X9_judge_26, iOb_some, iClr_i, iClr_r, iClr_n, iClr_u, iClr_l, rf_s, rf_n, iB_0, iSum_nil, if_true]
    exact m9_rf hR (by decide)
  · rw [e] at en ⊢
    have pre : ∀ y2 : Int32, y2 ≠ -1 → iEv mX9_noRow [.ref x, .int (nI i)] (mH b x s) (some (.int y2)) (mH b x s) → ∀ Q : Option Value → iHp → Prop, iWp 3 mX9_judge 0 [.ref x, .int (nI i), .int t, .int y, iU, iU] [] (mH b x s) Q = iWp 3 mX9_judge 18 [.ref x, .int (nI i), .int t, .int y, .int y2, iU] [.int (iB (iIx t W.1.1).isSome)] (mH b x s) Q := by
      intro y2 hy2 e2 Q
      simp only [X9_judge_0, X9_judge_1, X9_judge_2 e2 mH_obj, X9_judge_5, X9_judge_7, X9_judge_9, X9_judge_10, X9_judge_13, X9_judge_14, X9_judge_15 eu mH_obj, iOb_some, iClr_i, iClr_r, iClr_n, iClr_u, iClr_l, rf_s, rf_n, iB_0, iSum_nil, if_neg hy2]
    rcases iIx_cases t hn2 with ⟨f, z⟩ | ⟨j, hj, rfl, f⟩
    · rw [f] at eu ⊢
      have hy2 : ∃ y2 : Int32, y2 ≠ -1 ∧ iEv mX9_noRow [.ref x, .int (nI i)] (mH b x s) (some (.int y2)) (mH b x s) := by
        refine ⟨_, ?_, en⟩
        dsimp only
        cases (W.2.2.1 i).1 with
        | some z => exact (by decide : (0 : Int32) ≠ -1)
        | none =>
          dsimp only
          split <;> decide
      obtain ⟨y2, k1, k2⟩ := hy2
      rw [pre y2 k1 k2, f]
      simp only [X9_judge_18, X9_judge_21, X9_judge_22, X9_judge_23 r1 mH_obj, X9_judge_26, iOb_some, iClr_i, iClr_r, iClr_n, iClr_u, iClr_l, rf_s, rf_n, iB_0, iSum_nil, Option.isSome_none, if_true]
      exact m9_rf hR (by decide)
    · rw [f] at eu ⊢
      have hj16 : j < 16 := by have := hW.1.1; omega
      dsimp only at en ⊢
      cases e2 : (W.2.2.1 i).1 with
      | none =>
        rw [e2] at en
        dsimp only at en ⊢
        by_cases c : (W.2.2.1 i).2 = -1
        · rw [if_pos c] at en ⊢
          rw [pre (-3) (by decide) en, f]
          simp only [X9_judge_18, X9_judge_21, X9_judge_22, X9_judge_26, X9_judge_27, X9_judge_29, X9_judge_32, X9_judge_33, X9_judge_35 (ev9_no10V (v := -3) (r := 3) (by decide) rfl) mH_obj, X9_judge_38, iOb_some, iClr_i, iClr_r, iClr_n, iClr_u, iClr_l, rf_s, rf_n, iB_0, iSum_nil, Option.isSome_some, Bool.true_eq_false, if_false, if_neg (show ¬ (0 : Int32) ≤ -3 by decide)]
          exact m9_rf hR (by decide)
        · rw [if_neg c] at en ⊢
          rw [pre (-2) (by decide) en, f]
          simp only [X9_judge_18, X9_judge_21, X9_judge_22, X9_judge_26, X9_judge_27, X9_judge_29, X9_judge_32, X9_judge_33, X9_judge_35 (ev9_no10V (v := -2) (r := 2) (by decide) rfl) mH_obj, X9_judge_38, iOb_some, iClr_i, iClr_r, iClr_n, iClr_u, iClr_l, rf_s, rf_n, iB_0, iSum_nil, Option.isSome_some, Bool.true_eq_false, if_false, if_neg (show ¬ (0 : Int32) ≤ -2 by decide)]
          exact m9_rf hR (by decide)
      | some z =>
        rw [e2] at en
        dsimp only at en ⊢
        obtain ⟨f1, f2⟩ := (hR.2.2.1 i hi).2 z e2
        have h8 := hW.2.2 i hi
        unfold shOk at h8
        rw [e2] at h8
        have w16 := h8.2.1
        rw [pre 0 (by decide) en, f]
        by_cases c1 : y < 0
        · rw [if_pos c1]
          simp only [X9_judge_18, X9_judge_21, X9_judge_22, X9_judge_26, X9_judge_27, X9_judge_29, X9_judge_32, X9_judge_33, X9_judge_38, X9_judge_39, X9_judge_40, X9_judge_43, X9_judge_44, X9_judge_46 (ev9_no10V (v := -4) (r := 4) (by decide) rfl) mH_obj, X9_judge_49, iOb_some, iClr_i, iClr_r, iClr_n, iClr_u, iClr_l, rf_s, rf_n, iB_0, iSum_nil, Option.isSome_some, Bool.true_eq_false, if_false, if_pos (show (0 : Int32) ≤ 0 by decide), if_neg (Int32.not_le.mpr c1)]
          exact m9_rf hR (by decide)
        rw [if_neg c1]
        by_cases c2 : nI z.2.1 < y
        · rw [if_pos c2]
          simp only [X9_judge_18, X9_judge_21, X9_judge_22, X9_judge_26, X9_judge_27, X9_judge_29, X9_judge_32, X9_judge_33, X9_judge_38, X9_judge_39, X9_judge_40, X9_judge_43, X9_judge_44, X9_judge_49, X9_judge_50, X9_judge_51, X9_judge_52, X9_judge_55, X9_judge_56, X9_judge_57, X9_judge_60, X9_judge_61, X9_judge_63 (ev9_no10V (v := -5) (r := 5) (by decide) rfl) mH_obj, X9_judge_66, iOb_some, iClr_i, iClr_r, iClr_n, iClr_u, iClr_l, rf_s, rf_n, iB_0, iSum_nil, Option.isSome_some, Bool.true_eq_false, if_false, if_pos (show (0 : Int32) ≤ 0 by decide), if_pos (Int32.not_lt.mp c1), mg12, ml12 hi, f1, if_neg (Int32.not_le.mpr c2)]
          exact m9_rf hR (by decide)
        rw [if_neg c2]
        by_cases c3 : 60 < y
        · rw [if_pos c3]
          simp only [X9_judge_18, X9_judge_21, X9_judge_22, X9_judge_26, X9_judge_27, X9_judge_29, X9_judge_32, X9_judge_33, X9_judge_38, X9_judge_39, X9_judge_40, X9_judge_43, X9_judge_44, X9_judge_49, X9_judge_50, X9_judge_51, X9_judge_52, X9_judge_55, X9_judge_56, X9_judge_57, X9_judge_60, X9_judge_61, X9_judge_66, X9_judge_67, X9_judge_68, X9_judge_70, X9_judge_73, X9_judge_74, X9_judge_76 (ev9_no10V (v := -6) (r := 6) (by decide) rfl) mH_obj, X9_judge_79, iOb_some, iClr_i, iClr_r, iClr_n, iClr_u, iClr_l, rf_s, rf_n, iB_0, iSum_nil, Option.isSome_some, Bool.true_eq_false, if_false, if_pos (show (0 : Int32) ≤ 0 by decide), if_pos (Int32.not_lt.mp c1), mg12, ml12 hi, f1, if_pos (Int32.not_lt.mp c2), if_neg (Int32.not_le.mpr c3)]
          exact m9_rf hR (by decide)
        rw [if_neg c3]
        obtain ⟨q, hq, rfl⟩ := nI_of2 (M := 60) (n := 60) rfl c1 (Int32.not_lt.mp c3)
        have hql : q ≤ z.2.1 := (nI_leI (by omega) (by omega)).mp (Int32.not_lt.mp c2)
        rw [nI_clamp (by omega)]
        obtain ⟨t1, t2⟩ := hR.1.2.2.2.1 j hj
        have h60 := (hW.1.2.2.1 j hj).1.le
        simp only [X9_judge_18, X9_judge_21, X9_judge_22, X9_judge_26, X9_judge_27, X9_judge_29, X9_judge_32, X9_judge_33, X9_judge_38, X9_judge_39, X9_judge_40, X9_judge_43, X9_judge_44, X9_judge_49, X9_judge_50, X9_judge_51, X9_judge_52, X9_judge_55, X9_judge_56, X9_judge_57, X9_judge_60, X9_judge_61, X9_judge_66, X9_judge_67, X9_judge_68, X9_judge_70, X9_judge_73, X9_judge_74, X9_judge_79, X9_judge_80, X9_judge_81, iOb_some, iClr_i, iClr_r, iClr_n, iClr_u, iClr_l, rf_s, rf_n, iB_0, iSum_nil, Option.isSome_some, Bool.true_eq_false, if_false, if_pos (show (0 : Int32) ≤ 0 by decide), if_pos (Int32.not_lt.mp c1), mg12, ml12 hi, f1, if_pos (Int32.not_lt.mp c2), if_pos (Int32.not_lt.mp c3)]
        exact (judge9_loop (b := b) (x := x) (s := s) (f := z.2.2) (K := (W.1.2.1 j).2.1) hi hj16 t1 h60 hq (fun r hr => f2 r (by omega)) (fun r hr => (t2 r hr).1) 0 (Q := m9P b x (oI (jW z.2.2 (W.1.2.1 j).2.1 (W.1.2.1 j).1 q q 0), W)) q 0 (by omega)).mpr (m9_same hR)
end JUDGE

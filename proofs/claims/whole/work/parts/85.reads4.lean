/-! calls that only read: same, patchOf, edit, touched, conflict -/
section READS4
variable {h : iHp} {o sN n k i j x m t u p : Nat} {im : Option Nat} {R E P : Nat → Option Nat} {sh rf C : Nat → Int32} {W : wW} {b : iHp} {s : mS} {w : sT} {K B D K' B' D' : Nat → Int32} {d : Nat → Nat} {G : Nat → Nat → Int32}
theorem uL_congr {X Y Z X' Y' Z' : Nat → Int32} (h1 : ∀ i, i < n → K i = X i ∧ B i = Y i ∧ D i = Z i) (h2 : ∀ i, i < m → K' i = X' i ∧ B' i = Y' i ∧ D' i = Z' i) : ∀ k i, uL K B D K' B' D' n m k i = uL X Y Z X' Y' Z' n m k i := by
  intro k
  induction k with
  | zero => intro i; rfl
  | succ k ih =>
    intro i
    unfold uL
    rw [ih (i + 1)]
    by_cases c : i < n ∧ i < m
    · obtain ⟨a1, a2, a3⟩ := h1 i c.1
      obtain ⟨b1, b2, b3⟩ := h2 i c.2
      rw [a1, a2, a3, b1, b2, b3]
    · rw [if_neg (fun z => c ⟨z.1, z.2.1⟩), if_neg (fun z => c ⟨z.1, z.2.1⟩)]
def aSame (W : wW) (t u : Int32) : Int32 × wW := match iIx t W.1.1, iIx u W.1.1 with
  | some i, some j => (oI (uL (W.1.2.1 i).2.1 (W.1.2.1 i).2.2.1 (W.1.2.1 i).2.2.2 (W.1.2.1 j).2.1 (W.1.2.1 j).2.2.1 (W.1.2.1 j).2.2.2 (W.1.2.1 i).1 (W.1.2.1 j).1 (max (W.1.2.1 i).1 (W.1.2.1 j).1) 0) + 1, W)
  | _, _ => (-1, wRef W 1)
theorem c8_same_ (hR : cRep h o W) (hW : wOk W) (t u : Int32) : ∃ r h1, iEv mX8_same [.ref o, .int t, .int u] h r h1 ∧ c8P h o (aSame W t u) r h1 := by
  obtain ⟨sN, im, R, sh, rf, n, k, E, C, T, P, hR⟩ := hR
  refine I8_same ?_
  unfold aSame
  have hn : W.1.1 < 2 ^ 31 := by have := hW.1.1; omega
  rcases iIx_cases t hn with ⟨e, z⟩ | ⟨j, hj, rfl, e⟩
  · rw [e]
    rcases iIx_cases u hn with ⟨f, y⟩ | ⟨l, hl, rfl, f⟩
    · rw [f]
      simp only [X8_same_0, X8_same_1, X8_same_2 (c8_treeN hR z) hR.ob, X8_same_5, X8_same_5n, X8_same_6, X8_same_7, X8_same_8 (c8_treeN hR y) hR.ob, X8_same_11, X8_same_11n, X8_same_13, X8_same_13n, X8_same_14, X8_same_14n, X8_same_17, X8_same_17n, X8_same_19, X8_same_19n, X8_same_22, X8_same_23, X8_same_24 (ev8_refuse hR (v := -1) (r := 1) (by decide) (by decide) rfl) hR.ob, X8_same_27, iOb_some, iClr_i, iClr_r, iClr_n, iClr_u, iClr_l, rf_s, rf_n, iB_0, iSum_nil]
      exact c8_end hR (by decide)
    · rw [f]
      obtain ⟨a, K, B, D, e1, e2, e3, e4⟩ := c8_tree hR hl
      simp only [X8_same_0, X8_same_1, X8_same_2 (c8_treeN hR z) hR.ob, X8_same_5, X8_same_5n, X8_same_6, X8_same_7, X8_same_8 e1 hR.ob, X8_same_11, X8_same_11n, X8_same_13, X8_same_13n, X8_same_14, X8_same_14n, X8_same_17, X8_same_17n, X8_same_19, X8_same_19n, X8_same_22, X8_same_23, X8_same_24 (ev8_refuse hR (v := -1) (r := 1) (by decide) (by decide) rfl) hR.ob, X8_same_27, iOb_some, iClr_i, iClr_r, iClr_n, iClr_u, iClr_l, rf_s, rf_n, iB_0, iSum_nil]
      exact c8_end hR (by decide)
  · rw [e]
    obtain ⟨a, K, B, D, e1, e2, e3, e4⟩ := c8_tree hR hj
    rcases iIx_cases u hn with ⟨f, y⟩ | ⟨l, hl, rfl, f⟩
    · rw [f]
      simp only [X8_same_0, X8_same_1, X8_same_2 e1 hR.ob, X8_same_5, X8_same_5n, X8_same_6, X8_same_7, X8_same_8 (c8_treeN hR y) hR.ob, X8_same_11, X8_same_11n, X8_same_13, X8_same_13n, X8_same_14, X8_same_14n, X8_same_17, X8_same_17n, X8_same_19, X8_same_19n, X8_same_22, X8_same_23, X8_same_24 (ev8_refuse hR (v := -1) (r := 1) (by decide) (by decide) rfl) hR.ob, X8_same_27, iOb_some, iClr_i, iClr_r, iClr_n, iClr_u, iClr_l, rf_s, rf_n, iB_0, iSum_nil]
      exact c8_end hR (by decide)
    · rw [f]
      obtain ⟨a', K', B', D', f1, f2, f3, f4⟩ := c8_tree hR hl
      simp only [X8_same_0, X8_same_1, X8_same_2 e1 hR.ob, X8_same_5, X8_same_5n, X8_same_6, X8_same_7, X8_same_8 f1 hR.ob, X8_same_11, X8_same_11n, X8_same_13, X8_same_13n, X8_same_14, X8_same_14n, X8_same_17, X8_same_17n, X8_same_19, X8_same_19n, X8_same_22, X8_same_23, X8_same_27, X8_same_28, X8_same_28n, X8_same_29, X8_same_29n, X8_same_31 (ev_firstUnlike e2 f2) e2.o (cat_r a'), X8_same_34, X8_same_35, X8_same_36, iOb_some, iClr_i, iClr_r, iClr_n, iClr_u, iClr_l, rf_s, rf_n, iB_0, iSum_nil]
      rw [uL_congr (fun i hi => e3.2 i hi) (fun i hi => f3.2 i hi)]
      exact c8_same hR
theorem same9_loop (ht : t < 16) (hu : u < 16) (hn : s.2.1 1 t = nI n) (hm : s.2.1 1 u = nI m) (hn6 : n ≤ 60) (hm6 : m ≤ 60) (hK : ∀ i, i < n → s.2.1 2 (64 * t + i) = K i ∧ s.2.1 3 (64 * t + i) = B i ∧ s.2.1 4 (64 * t + i) = D i) (hK' : ∀ i, i < m → s.2.1 2 (64 * u + i) = K' i ∧ s.2.1 3 (64 * u + i) = B' i ∧ s.2.1 4 (64 * u + i) = D' i) {Q : Option Value → iHp → Prop} : ∀ k i, i + k = max n m → ∀ a4 a5, (iWp 3 mX9_same 24 [.ref x, .int (nI t), .int (nI u), .int (nI i), a4, a5] [] (mH b x s) Q = Q (some (.int (oI (uL K B D K' B' D' n m k i) + 1))) (mH b x s)) := by
  intro k
  induction k with
  | zero =>
    intro i hi a4 a5
    rw [X9_same_24]
    simp only [X9_same_25, X9_same_26, X9_same_29, X9_same_30, X9_same_31, X9_same_34, X9_same_35, X9_same_36, X9_same_39, X9_same_40, X9_same_41, X9_same_44, X9_same_46, X9_same_47, X9_same_48, X9_same_49, X9_same_50, X9_same_52, X9_same_54, X9_same_55, X9_same_56, X9_same_57, X9_same_58, X9_same_60, X9_same_61, X9_same_62, X9_same_65, X9_same_66, X9_same_67, X9_same_70, X9_same_71, X9_same_72, X9_same_75, X9_same_76, X9_same_77, X9_same_80, X9_same_81, X9_same_84, X9_same_86, X9_same_87, X9_same_88, X9_same_91, X9_same_93, X9_same_94, X9_same_97, X9_same_98, X9_same_101, X9_same_103, X9_same_104, X9_same_105, X9_same_108, X9_same_110, X9_same_111, X9_same_114, X9_same_115, X9_same_118, X9_same_120, X9_same_121, X9_same_122, X9_same_125, X9_same_127, X9_same_128, X9_same_131, X9_same_132, X9_same_133, X9_same_134, X9_same_135, X9_same_138, X9_same_141, X9_same_142, iOb_some, iClr_i, iClr_r, iClr_n, iClr_u, iClr_l, rf_s, rf_n, iB_0, iSum_nil, mg1, ml1 ht, ml1 hu, hn, hm, if_neg (nI_nlt (show n ≤ i by omega) (by omega)), if_pos (nI_le (show m ≤ i by omega) (by omega))]
    exact congrArg (fun z => Q (some (.int z)) (mH b x s)) (by decide : (0 : Int32) = -1 + 1)
  | succ k ih =>
    intro i hi a4 a5
    have hent : ∀ a4 a5, iWp 3 mX9_same 24 [.ref x, .int (nI t), .int (nI u), .int (nI i), a4, a5] [] (mH b x s) Q = iWp 3 mX9_same 60 [.ref x, .int (nI t), .int (nI u), .int (nI i), .int (nI (64 * t + i)), .int (nI (64 * u + i))] [] (mH b x s) Q := by
      intro a4 a5
      by_cases c : i < n
      · simp only [X9_same_24, X9_same_25, X9_same_26, X9_same_29, X9_same_30, X9_same_31, X9_same_34, X9_same_35, X9_same_36, X9_same_39, X9_same_40, X9_same_41, X9_same_44, X9_same_46, X9_same_47, X9_same_48, X9_same_49, X9_same_50, X9_same_52, X9_same_54, X9_same_55, X9_same_56, X9_same_57, X9_same_58, iOb_some, iClr_i, iClr_r, iClr_n, iClr_u, iClr_l, rf_s, rf_n, iB_0, iSum_nil, mg1, ml1 ht, ml1 hu, hn, hm, if_pos (nI_lt c (by omega)), i64]
      · simp only [X9_same_24, X9_same_25, X9_same_26, X9_same_29, X9_same_30, X9_same_31, X9_same_34, X9_same_35, X9_same_36, X9_same_39, X9_same_40, X9_same_41, X9_same_44, X9_same_46, X9_same_47, X9_same_48, X9_same_49, X9_same_50, X9_same_52, X9_same_54, X9_same_55, X9_same_56, X9_same_57, X9_same_58, iOb_some, iClr_i, iClr_r, iClr_n, iClr_u, iClr_l, rf_s, rf_n, iB_0, iSum_nil, mg1, ml1 ht, ml1 hu, hn, hm, if_neg (nI_nlt (show n ≤ i by omega) (by omega)), if_neg (nI_ge (show i < m by omega) (by omega)), i64]
    rw [hent]
    by_cases c0 : i < n
    · by_cases c1 : i < m
      · obtain ⟨k1, k2, k3⟩ := hK i c0
        obtain ⟨l1, l2, l3⟩ := hK' i c1
        by_cases c2 : K i = K' i
        · by_cases c3 : B i = B' i
          · by_cases c4 : D i = D' i
            · have r := ih (i + 1) (by omega) (.int (nI (64 * t + i))) (.int (nI (64 * u + i)))
              rw [nI_succ] at r
              rw [show uL K B D K' B' D' n m (k + 1) i = uL K B D K' B' D' n m k (i + 1) from if_pos ⟨c0, c1, c2, c3, c4⟩, ← r]
              simp only [X9_same_60, X9_same_61, X9_same_62, X9_same_65, X9_same_66, X9_same_67, X9_same_70, X9_same_71, X9_same_72, X9_same_75, X9_same_76, X9_same_77, X9_same_80, X9_same_81, X9_same_84, X9_same_86, X9_same_87, X9_same_88, X9_same_91, X9_same_93, X9_same_94, X9_same_97, X9_same_98, X9_same_101, X9_same_103, X9_same_104, X9_same_105, X9_same_108, X9_same_110, X9_same_111, X9_same_114, X9_same_115, X9_same_118, X9_same_120, X9_same_121, X9_same_122, X9_same_125, X9_same_127, X9_same_128, X9_same_131, X9_same_132, X9_same_133, X9_same_134, X9_same_135, X9_same_138, iOb_some, iClr_i, iClr_r, iClr_n, iClr_u, iClr_l, rf_s, rf_n, iB_0, iSum_nil, mg1, ml1 ht, ml1 hu, hn, hm, if_neg (nI_ge c0 (show n < 2 ^ 31 by omega)), if_neg (nI_ge c1 (show m < 2 ^ 31 by omega)), mg2, mg3, mg4, ml2 (show 64 * t + i < 1024 by omega), ml2 (show 64 * u + i < 1024 by omega), ml3 (show 64 * t + i < 1024 by omega), ml3 (show 64 * u + i < 1024 by omega), ml4 (show 64 * t + i < 1024 by omega), ml4 (show 64 * u + i < 1024 by omega), k1, k2, k3, l1, l2, l3, if_pos c2, if_pos c3, if_pos c4]
            · rw [show uL K B D K' B' D' n m (k + 1) i = some i from if_neg (fun z => c4 z.2.2.2.2)]
              simp only [X9_same_60, X9_same_61, X9_same_62, X9_same_65, X9_same_66, X9_same_67, X9_same_70, X9_same_71, X9_same_72, X9_same_75, X9_same_76, X9_same_77, X9_same_80, X9_same_81, X9_same_84, X9_same_86, X9_same_87, X9_same_88, X9_same_91, X9_same_93, X9_same_94, X9_same_97, X9_same_98, X9_same_101, X9_same_103, X9_same_104, X9_same_105, X9_same_108, X9_same_110, X9_same_111, X9_same_114, X9_same_115, X9_same_118, X9_same_120, X9_same_121, X9_same_122, X9_same_125, X9_same_127, X9_same_128, X9_same_131, X9_same_132, X9_same_133, X9_same_134, iOb_some, iClr_i, iClr_r, iClr_n, iClr_u, iClr_l, rf_s, rf_n, iB_0, iSum_nil, mg1, ml1 ht, ml1 hu, hn, hm, if_neg (nI_ge c0 (show n < 2 ^ 31 by omega)), if_neg (nI_ge c1 (show m < 2 ^ 31 by omega)), mg2, mg3, mg4, ml2 (show 64 * t + i < 1024 by omega), ml2 (show 64 * u + i < 1024 by omega), ml3 (show 64 * t + i < 1024 by omega), ml3 (show 64 * u + i < 1024 by omega), ml4 (show 64 * t + i < 1024 by omega), ml4 (show 64 * u + i < 1024 by omega), k1, k2, k3, l1, l2, l3, if_pos c2, if_pos c3, if_neg c4, oI_s]
          · rw [show uL K B D K' B' D' n m (k + 1) i = some i from if_neg (fun z => c3 z.2.2.2.1)]
            simp only [X9_same_60, X9_same_61, X9_same_62, X9_same_65, X9_same_66, X9_same_67, X9_same_70, X9_same_71, X9_same_72, X9_same_75, X9_same_76, X9_same_77, X9_same_80, X9_same_81, X9_same_84, X9_same_86, X9_same_87, X9_same_88, X9_same_91, X9_same_93, X9_same_94, X9_same_97, X9_same_98, X9_same_101, X9_same_103, X9_same_104, X9_same_105, X9_same_108, X9_same_110, X9_same_111, X9_same_114, X9_same_115, X9_same_118, X9_same_120, X9_same_121, X9_same_122, X9_same_125, X9_same_127, X9_same_128, X9_same_131, X9_same_132, X9_same_133, X9_same_134, iOb_some, iClr_i, iClr_r, iClr_n, iClr_u, iClr_l, rf_s, rf_n, iB_0, iSum_nil, mg1, ml1 ht, ml1 hu, hn, hm, if_neg (nI_ge c0 (show n < 2 ^ 31 by omega)), if_neg (nI_ge c1 (show m < 2 ^ 31 by omega)), mg2, mg3, ml2 (show 64 * t + i < 1024 by omega), ml2 (show 64 * u + i < 1024 by omega), ml3 (show 64 * t + i < 1024 by omega), ml3 (show 64 * u + i < 1024 by omega), k1, k2, l1, l2, if_pos c2, if_neg c3, oI_s]
        · rw [show uL K B D K' B' D' n m (k + 1) i = some i from if_neg (fun z => c2 z.2.2.1)]
          simp only [X9_same_60, X9_same_61, X9_same_62, X9_same_65, X9_same_66, X9_same_67, X9_same_70, X9_same_71, X9_same_72, X9_same_75, X9_same_76, X9_same_77, X9_same_80, X9_same_81, X9_same_84, X9_same_86, X9_same_87, X9_same_88, X9_same_91, X9_same_93, X9_same_94, X9_same_97, X9_same_98, X9_same_101, X9_same_103, X9_same_104, X9_same_105, X9_same_108, X9_same_110, X9_same_111, X9_same_114, X9_same_115, X9_same_118, X9_same_120, X9_same_121, X9_same_122, X9_same_125, X9_same_127, X9_same_128, X9_same_131, X9_same_132, X9_same_133, X9_same_134, iOb_some, iClr_i, iClr_r, iClr_n, iClr_u, iClr_l, rf_s, rf_n, iB_0, iSum_nil, mg1, ml1 ht, ml1 hu, hn, hm, if_neg (nI_ge c0 (show n < 2 ^ 31 by omega)), if_neg (nI_ge c1 (show m < 2 ^ 31 by omega)), mg2, ml2 (show 64 * t + i < 1024 by omega), ml2 (show 64 * u + i < 1024 by omega), k1, l1, if_neg c2, oI_s]
      · rw [show uL K B D K' B' D' n m (k + 1) i = some i from if_neg (fun z => c1 z.2.1)]
        simp only [X9_same_60, X9_same_61, X9_same_62, X9_same_65, X9_same_66, X9_same_67, X9_same_70, X9_same_71, X9_same_72, X9_same_75, X9_same_76, X9_same_77, X9_same_80, X9_same_81, X9_same_84, X9_same_86, X9_same_87, X9_same_88, X9_same_91, X9_same_93, X9_same_94, X9_same_97, X9_same_98, X9_same_101, X9_same_103, X9_same_104, X9_same_105, X9_same_108, X9_same_110, X9_same_111, X9_same_114, X9_same_115, X9_same_118, X9_same_120, X9_same_121, X9_same_122, X9_same_125, X9_same_127, X9_same_128, X9_same_131, X9_same_132, X9_same_133, X9_same_134, iOb_some, iClr_i, iClr_r, iClr_n, iClr_u, iClr_l, rf_s, rf_n, iB_0, iSum_nil, mg1, ml1 ht, ml1 hu, hn, hm, if_neg (nI_ge c0 (show n < 2 ^ 31 by omega)), if_pos (nI_le (show m ≤ i by omega) (show i < 2 ^ 31 by omega)), oI_s]
    · rw [show uL K B D K' B' D' n m (k + 1) i = some i from if_neg (fun z => c0 z.1)]
      simp only [X9_same_60, X9_same_61, X9_same_62, X9_same_65, X9_same_66, X9_same_67, X9_same_70, X9_same_71, X9_same_72, X9_same_75, X9_same_76, X9_same_77, X9_same_80, X9_same_81, X9_same_84, X9_same_86, X9_same_87, X9_same_88, X9_same_91, X9_same_93, X9_same_94, X9_same_97, X9_same_98, X9_same_101, X9_same_103, X9_same_104, X9_same_105, X9_same_108, X9_same_110, X9_same_111, X9_same_114, X9_same_115, X9_same_118, X9_same_120, X9_same_121, X9_same_122, X9_same_125, X9_same_127, X9_same_128, X9_same_131, X9_same_132, X9_same_133, X9_same_134, iOb_some, iClr_i, iClr_r, iClr_n, iClr_u, iClr_l, rf_s, rf_n, iB_0, iSum_nil, mg1, ml1 ht, ml1 hu, hn, hm, if_pos (nI_le (show n ≤ i by omega) (show i < 2 ^ 31 by omega)), oI_s]
theorem m9_same_ (hR : mRel s W) (hW : wOk W) (t u : Int32) : ∃ r h1, iEv mX9_same [.ref x, .int t, .int u] (mH b x s) r h1 ∧ m9P b x (aSame W t u) r h1 := by
  refine I9_same ?_
  unfold aSame
  have hn : W.1.1 < 2 ^ 31 := by have := hW.1.1; omega
  have et := ev9_isTree (b := b) (x := x) hR.1 hW.1.1 (t := t)
  have eu := ev9_isTree (b := b) (x := x) hR.1 hW.1.1 (t := u)
  rcases iIx_cases t hn with ⟨e, z⟩ | ⟨j, hj, rfl, e⟩
  · rw [e] at et ⊢
    simp only [X9_same_0, X9_same_1, X9_same_2 et mH_obj, X9_same_5, X9_same_8, X9_same_9, X9_same_13, X9_same_16, X9_same_17, X9_same_18 (ev9_noV (v := -1) (r := 1) (by decide) rfl) mH_obj, X9_same_21, iOb_some, iClr_i, iClr_r, iClr_n, iClr_u, iClr_l, rf_s, rf_n, iB_0, iSum_nil, Option.isSome_none, if_true]
    exact m9_rf hR (by decide)
  · rw [e] at et ⊢
    rcases iIx_cases u hn with ⟨f, y⟩ | ⟨l, hl, rfl, f⟩
    · rw [f] at eu ⊢
      simp only [X9_same_0, X9_same_1, X9_same_2 et mH_obj, X9_same_5, X9_same_8, X9_same_9, X9_same_10 eu mH_obj, X9_same_13, X9_same_16, X9_same_17, X9_same_18 (ev9_noV (v := -1) (r := 1) (by decide) rfl) mH_obj, X9_same_21, iOb_some, iClr_i, iClr_r, iClr_n, iClr_u, iClr_l, rf_s, rf_n, iB_0, iSum_nil, Option.isSome_none, Option.isSome_some, Bool.true_eq_false, if_false, if_true]
      exact m9_rf hR (by decide)
    · rw [f] at eu ⊢
      have hj16 : j < 16 := by have := hW.1.1; omega
      have hl16 : l < 16 := by have := hW.1.1; omega
      obtain ⟨n1, n2⟩ := hR.1.2.2.2.1 j hj
      obtain ⟨m1, m2⟩ := hR.1.2.2.2.1 l hl
      simp only [X9_same_0, X9_same_1, X9_same_2 et mH_obj, X9_same_5, X9_same_8, X9_same_9, X9_same_10 eu mH_obj, X9_same_13, X9_same_16, X9_same_17, X9_same_21, X9_same_22, X9_same_23, iOb_some, iClr_i, iClr_r, iClr_n, iClr_u, iClr_l, rf_s, rf_n, iB_0, iSum_nil, Option.isSome_some, Bool.true_eq_false, if_false]
      have lp := same9_loop (b := b) (x := x) (s := s) hj16 hl16 n1 m1 (hW.1.2.2.1 j hj).1.le (hW.1.2.2.1 l hl).1.le n2 m2 (Q := m9P b x (aSame W (nI j) (nI l))) (max (W.1.2.1 j).1 (W.1.2.1 l).1) 0 (by omega) iU iU
      unfold aSame at lp
      rw [e, f] at lp
      exact lp.mpr (m9_same hR)
-- patchOf
theorem bPt.pt {q : Nat} {Z : pP} (hB : bPt h o q p Z) : ∃ E C, ptAt h p Z.1 Z.2.1 Z.2.2.1 Z.2.2.2.1 Z.2.2.2.2.1 E C ∧ pEd h Z.1 E Z.2.2.2.2.2.1 ∧ ∀ j, j < 2 * Z.2.1 → C j = Z.2.2.2.2.2.2 j := by
  obtain ⟨⟨E, C, a, b, c⟩, -⟩ := hB
  exact ⟨E, C, a, fun j hj => by obtain ⟨x, e1, e2, -⟩ := b j hj; exact ⟨x, e1, e2⟩, c⟩
def aPatchOf (W : wW) (p w : Int32) : Int32 × wW := match iIx p W.1.2.2.1 with
  | none => (-5, wRef W 5)
  | some j => match iIx w 6 with
    | none => (-5, wRef W 5)
    | some 0 => (nI (W.1.2.2.2.1 j).1, W)
    | some 1 => ((W.1.2.2.2.1 j).2.2.1, W)
    | some (q + 2) => (nI (cntE (W.1.2.2.2.1 j).2.2.2.2.2.1 (nI q) (W.1.2.2.2.1 j).1), W)
theorem nI_s2 (q : Nat) : nI (q + 2) - 2 = nI q := pk_sub (a := q + 2) (b := 2) (by omega)
theorem c8_patchOf (hR : cRep h o W) (hW : wOk W) (p w : Int32) : ∃ r h1, iEv mX8_patchOf [.ref o, .int p, .int w] h r h1 ∧ c8P h o (aPatchOf W p w) r h1 := by
  obtain ⟨sN, im, R, sh, rf, n, k, E, C, T, P, hR⟩ := hR
  refine I8_patchOf ?_
  unfold aPatchOf
  have hn : W.1.2.2.1 < 2 ^ 31 := by have := hW.1.2.1; omega
  rcases iIx_cases p hn with ⟨e, z⟩ | ⟨j, hj, rfl, e⟩
  · rw [e]
    simp only [X8_patchOf_0, X8_patchOf_1, X8_patchOf_2 (c8_patchN hR z) hR.ob, X8_patchOf_5, X8_patchOf_5n, X8_patchOf_6, X8_patchOf_6n, X8_patchOf_7, X8_patchOf_7n, X8_patchOf_10, X8_patchOf_11, X8_patchOf_14, X8_patchOf_15, X8_patchOf_16, X8_patchOf_19, X8_patchOf_20, X8_patchOf_22 (ev8_refuse hR (v := -5) (r := 5) (by decide) (by decide) rfl) hR.ob, X8_patchOf_25, iOb_some, iClr_i, iClr_r, iClr_n, iClr_u, iClr_l, rf_s, rf_n, iB_0, iSum_nil]
    exact c8_end hR (by decide)
  · rw [e]
    obtain ⟨a, e1, hB⟩ := c8_patch hR hj
    obtain ⟨E', C', hP, hG, hC⟩ := hB.pt
    dsimp only
    rcases iIx_cases w (n := 6) (by decide) with ⟨f, y⟩ | ⟨l, hl, rfl, f⟩
    · rw [f]
      by_cases c : w < 0
      · simp only [X8_patchOf_0, X8_patchOf_1, X8_patchOf_2 e1 hR.ob, X8_patchOf_5, X8_patchOf_5n, X8_patchOf_6, X8_patchOf_6n, X8_patchOf_7, X8_patchOf_7n, X8_patchOf_10, X8_patchOf_11, X8_patchOf_14, X8_patchOf_15, X8_patchOf_16, X8_patchOf_19, X8_patchOf_20, X8_patchOf_22 (ev8_refuse hR (v := -5) (r := 5) (by decide) (by decide) rfl) hR.ob, X8_patchOf_25, iOb_some, iClr_i, iClr_r, iClr_n, iClr_u, iClr_l, rf_s, rf_n, iB_0, iSum_nil, if_pos c]
        exact c8_end hR (by decide)
      · have c2 : ¬ w ≤ 5 := fun z => absurd (Int32.le_trans (y.resolve_left c) z) (by decide)
        simp only [X8_patchOf_0, X8_patchOf_1, X8_patchOf_2 e1 hR.ob, X8_patchOf_5, X8_patchOf_5n, X8_patchOf_6, X8_patchOf_6n, X8_patchOf_7, X8_patchOf_7n, X8_patchOf_10, X8_patchOf_11, X8_patchOf_14, X8_patchOf_15, X8_patchOf_16, X8_patchOf_19, X8_patchOf_20, X8_patchOf_22 (ev8_refuse hR (v := -5) (r := 5) (by decide) (by decide) rfl) hR.ob, X8_patchOf_25, iOb_some, iClr_i, iClr_r, iClr_n, iClr_u, iClr_l, rf_s, rf_n, iB_0, iSum_nil, if_neg c, if_neg c2]
        exact c8_end hR (by decide)
    · rw [f]
      have c1 : ¬ nI l < 0 := nI_pos (by omega)
      have c2 : nI l ≤ 5 := nI_le (a := l) (b := 5) (by omega) (by decide)
      match l, hl with
      | 0, _ =>
        simp only [X8_patchOf_0, X8_patchOf_1, X8_patchOf_2 e1 hR.ob, X8_patchOf_5, X8_patchOf_5n, X8_patchOf_6, X8_patchOf_6n, X8_patchOf_7, X8_patchOf_7n, X8_patchOf_10, X8_patchOf_11, X8_patchOf_14, X8_patchOf_15, X8_patchOf_16, X8_patchOf_19, X8_patchOf_20, X8_patchOf_25, X8_patchOf_26, X8_patchOf_27, X8_patchOf_30, X8_patchOf_30n, X8_patchOf_31 (ev_psize hP) hP.o, X8_patchOf_34, iOb_some, iClr_i, iClr_r, iClr_n, iClr_u, iClr_l, rf_s, rf_n, iB_0, iSum_nil, if_neg c1, if_pos c2, show nI 0 = (0 : Int32) from rfl, if_true]
        exact c8_same hR
      | 1, _ =>
        simp only [X8_patchOf_0, X8_patchOf_1, X8_patchOf_2 e1 hR.ob, X8_patchOf_5, X8_patchOf_5n, X8_patchOf_6, X8_patchOf_6n, X8_patchOf_7, X8_patchOf_7n, X8_patchOf_10, X8_patchOf_11, X8_patchOf_14, X8_patchOf_15, X8_patchOf_16, X8_patchOf_19, X8_patchOf_20, X8_patchOf_25, X8_patchOf_26, X8_patchOf_27, X8_patchOf_30, X8_patchOf_30n, X8_patchOf_34, X8_patchOf_35, X8_patchOf_36, X8_patchOf_37, X8_patchOf_40, X8_patchOf_40n, X8_patchOf_41, X8_patchOf_44, X8_patchOf_47, X8_patchOf_47n, X8_patchOf_48, X8_patchOf_49, X8_patchOf_50, X8_patchOf_54, iOb_some, iClr_i, iClr_r, iClr_n, iClr_u, iClr_l, rf_s, rf_n, iB_0, iSum_nil, if_neg c1, if_pos c2, if_neg (show ¬ nI 1 = 0 by decide), show nI 1 = (1 : Int32) from rfl, if_true, hP.g0]
        exact c8_same hR
      | q + 2, hl =>
        have d0 : ¬ nI (q + 2) = 0 := nI_ne0 (by omega) (by omega)
        have d1 : ¬ nI (q + 2) = 1 := fun z => by
          have := (nI_eq (a := q + 2) (b := 1) (by omega) (by decide)).mp z
          omega
        simp only [X8_patchOf_0, X8_patchOf_1, X8_patchOf_2 e1 hR.ob, X8_patchOf_5, X8_patchOf_5n, X8_patchOf_6, X8_patchOf_6n, X8_patchOf_7, X8_patchOf_7n, X8_patchOf_10, X8_patchOf_11, X8_patchOf_14, X8_patchOf_15, X8_patchOf_16, X8_patchOf_19, X8_patchOf_20, X8_patchOf_25, X8_patchOf_26, X8_patchOf_27, X8_patchOf_30, X8_patchOf_30n, X8_patchOf_34, X8_patchOf_35, X8_patchOf_36, X8_patchOf_37, X8_patchOf_40, X8_patchOf_40n, X8_patchOf_41, X8_patchOf_44, X8_patchOf_47, X8_patchOf_47n, X8_patchOf_48, X8_patchOf_49, X8_patchOf_50, X8_patchOf_51 (ev_pcount hP hG (nI q)) hP.o, X8_patchOf_54, iOb_some, iClr_i, iClr_r, iClr_n, iClr_u, iClr_l, rf_s, rf_n, iB_0, iSum_nil, if_neg c1, if_pos c2, if_neg d0, if_neg d1, nI_s2]
        exact c8_same hR
theorem i840 (u j : Nat) : 840 * nI u + nI j = nI (840 * u + j) := by
  rw [show (840 : Int32) = nI 840 from rfl, pk_mul, nI_add]
theorem i7 (u : Nat) : 7 * nI u = nI (7 * u) := by rw [show (7 : Int32) = nI 7 from rfl, pk_mul]
theorem ev9_edit (hp : p < 16) (hi : i < 840) : iEv mX9_edit [.ref x, .int (nI p), .int (nI i)] (mH b x s) (some (.int (s.2.1 8 (840 * p + i)))) (mH b x s) := by
  refine J9_edit ?_
  simp only [X9_edit_0, X9_edit_1, X9_edit_4, X9_edit_7, X9_edit_8, X9_edit_9, X9_edit_10, X9_edit_11, X9_edit_12, iOb_some, iClr_i, iClr_r, iClr_n, iClr_u, iClr_l, rf_s, rf_n, iB_0, iSum_nil, mg8, i840, ml8 (show 840 * p + i < 13440 by omega), and_self]
theorem ev9_of0 (hp : p < 16) : iEv mX9_of [.ref x, .int 0, .int (nI p)] (mH b x s) (some (.int (s.2.1 7 p))) (mH b x s) := by
  have := ev9_of (b := b) (x := x) (s := s) (w := 0) (by decide) hp
  rwa [show 16 * 0 + p = p by omega] at this
theorem pcount9_loop (hp : p < 16) (hn : s.2.1 7 p = nI n) (hn12 : n ≤ 120) (hG : ∀ i, i < n → s.2.1 8 (840 * p + 7 * i) = G i 0) (q : Nat) {Q : Option Value → iHp → Prop} : ∀ k i, i + k = n → (iWp 3 mX9_patchOf 41 [.ref x, .int (nI p), .int (nI (q + 2)), .int (nI (cntE G (nI q) i)), .int (nI i)] [] (mH b x s) Q = Q (some (.int (nI (cntE G (nI q) n)))) (mH b x s)) := by
  have eo := ev9_of0 (b := b) (x := x) (s := s) hp
  rw [hn] at eo
  intro k
  induction k with
  | zero =>
    intro i hi
    obtain rfl : i = n := by omega
    rw [X9_patchOf_41]
    simp only [X9_patchOf_43, X9_patchOf_44, X9_patchOf_45, X9_patchOf_46 eo mH_obj, X9_patchOf_49, X9_patchOf_52, X9_patchOf_53, X9_patchOf_54, X9_patchOf_56, X9_patchOf_58, X9_patchOf_62, X9_patchOf_63, X9_patchOf_64, X9_patchOf_65, X9_patchOf_68, X9_patchOf_71, X9_patchOf_74, X9_patchOf_77, X9_patchOf_78, iOb_some, iClr_i, iClr_r, iClr_n, iClr_u, iClr_l, rf_s, rf_n, iB_0, iSum_nil, if_pos (Int32.le_refl (nI i))]
  | succ k ih =>
    intro i hi
    have r := ih (i + 1) (by omega)
    have ee := ev9_edit (b := b) (x := x) (s := s) hp (show 7 * i < 840 by omega)
    rw [hG i (by omega)] at ee
    rw [X9_patchOf_41]
    by_cases e : G i 0 = nI q
    · rw [show cntE G (nI q) (i + 1) = cntE G (nI q) i + 1 from if_pos e, nI_succ i, nI_succ (cntE G (nI q) i)] at r
      simp only [X9_patchOf_43, X9_patchOf_44, X9_patchOf_45, X9_patchOf_46 eo mH_obj, X9_patchOf_49, X9_patchOf_52, X9_patchOf_53, X9_patchOf_54, X9_patchOf_56, X9_patchOf_58, X9_patchOf_59 ee mH_obj, X9_patchOf_62, X9_patchOf_63, X9_patchOf_64, X9_patchOf_65, X9_patchOf_68, X9_patchOf_71, X9_patchOf_74, X9_patchOf_77, X9_patchOf_78, iOb_some, iClr_i, iClr_r, iClr_n, iClr_u, iClr_l, rf_s, rf_n, iB_0, iSum_nil, if_neg (nI_ge (show i < n by omega) (by omega)), i7, nI_s2, if_pos e, r]
    · rw [show cntE G (nI q) (i + 1) = cntE G (nI q) i from if_neg e, nI_succ i] at r
      simp only [X9_patchOf_43, X9_patchOf_44, X9_patchOf_45, X9_patchOf_46 eo mH_obj, X9_patchOf_49, X9_patchOf_52, X9_patchOf_53, X9_patchOf_54, X9_patchOf_56, X9_patchOf_58, X9_patchOf_59 ee mH_obj, X9_patchOf_62, X9_patchOf_63, X9_patchOf_64, X9_patchOf_65, X9_patchOf_68, X9_patchOf_71, X9_patchOf_74, X9_patchOf_77, X9_patchOf_78, iOb_some, iClr_i, iClr_r, iClr_n, iClr_u, iClr_l, rf_s, rf_n, iB_0, iSum_nil, if_neg (nI_ge (show i < n by omega) (by omega)), i7, nI_s2, if_neg e, r]
theorem ev9_wiN {i : Int32} {n : Nat} {m1 : Int32} (hn : n < 2 ^ 31) (hm : m1 = dI n) {h : iHp} : iEv mX9_within [.int i, .int 0, .int m1] h (some (.int (iB (iIx i n).isSome))) h := by
  subst hm
  exact ev9_wi hn
theorem m9_patchOf (hR : mRel s W) (hW : wOk W) (p w : Int32) : ∃ r h1, iEv mX9_patchOf [.ref x, .int p, .int w] (mH b x s) r h1 ∧ m9P b x (aPatchOf W p w) r h1 := by
  refine I9_patchOf ?_
  unfold aPatchOf
  have hn : W.1.2.2.1 < 2 ^ 31 := by have := hW.1.2.1; omega
  have et := ev9_isPatch (b := b) (x := x) hR.1 hW.1.2.1 (t := p)
  have ew := ev9_wiN (i := w) (n := 6) (m1 := 5) (by decide) rfl (h := mH b x s)
  rcases iIx_cases p hn with ⟨e, z⟩ | ⟨j, hj, rfl, e⟩
  · rw [e] at et ⊢
    simp only [X9_patchOf_0, X9_patchOf_1, X9_patchOf_2 et mH_obj, X9_patchOf_5, X9_patchOf_8, X9_patchOf_9, X9_patchOf_10, X9_patchOf_14, X9_patchOf_17, X9_patchOf_18, X9_patchOf_20 (ev9_noV (v := -5) (r := 5) (by decide) rfl) mH_obj, X9_patchOf_23, iOb_some, iClr_i, iClr_r, iClr_n, iClr_u, iClr_l, rf_s, rf_n, iB_0, iSum_nil, Option.isSome_none, if_true]
    exact m9_rf hR (by decide)
  · rw [e] at et ⊢
    dsimp only
    have hj16 : j < 16 := by have := hW.1.2.1; omega
    obtain ⟨p1, p2, p3, p4, p5, p6, p7⟩ := hR.1.2.2.2.2 j hj
    rcases iIx_cases w (n := 6) (by decide) with ⟨f, y⟩ | ⟨l, hl, rfl, f⟩
    · rw [f] at ew ⊢
      simp only [X9_patchOf_0, X9_patchOf_1, X9_patchOf_2 et mH_obj, X9_patchOf_5, X9_patchOf_8, X9_patchOf_9, X9_patchOf_10, X9_patchOf_11 ew, X9_patchOf_14, X9_patchOf_17, X9_patchOf_18, X9_patchOf_20 (ev9_noV (v := -5) (r := 5) (by decide) rfl) mH_obj, X9_patchOf_23, iOb_some, iClr_i, iClr_r, iClr_n, iClr_u, iClr_l, rf_s, rf_n, iB_0, iSum_nil, Option.isSome_none, Option.isSome_some, Bool.true_eq_false, if_false, if_true]
      exact m9_rf hR (by decide)
    · rw [f] at ew ⊢
      match l, hl with
      | 0, _ =>
        have eo := ev9_of (b := b) (x := x) (s := s) (w := 0) (by decide) hj16
        rw [show 16 * 0 + j = j by omega, p1] at eo
        simp only [X9_patchOf_0, X9_patchOf_1, X9_patchOf_2 et mH_obj, X9_patchOf_5, X9_patchOf_8, X9_patchOf_9, X9_patchOf_10, X9_patchOf_11 ew, X9_patchOf_14, X9_patchOf_17, X9_patchOf_18, X9_patchOf_23, X9_patchOf_24, X9_patchOf_25, X9_patchOf_26, X9_patchOf_29, X9_patchOf_30, X9_patchOf_31, X9_patchOf_32 eo mH_obj, X9_patchOf_35, iOb_some, iClr_i, iClr_r, iClr_n, iClr_u, iClr_l, rf_s, rf_n, iB_0, iSum_nil, Option.isSome_some, Bool.true_eq_false, if_false, if_neg (show ¬ (2 : Int32) ≤ nI 0 by decide)]
        exact m9_same hR
      | 1, _ =>
        have eo := ev9_of (b := b) (x := x) (s := s) (w := 1) (by decide) hj16
        rw [show 16 * 1 + j = 16 + j by omega, p2] at eo
        simp only [X9_patchOf_0, X9_patchOf_1, X9_patchOf_2 et mH_obj, X9_patchOf_5, X9_patchOf_8, X9_patchOf_9, X9_patchOf_10, X9_patchOf_11 ew, X9_patchOf_14, X9_patchOf_17, X9_patchOf_18, X9_patchOf_23, X9_patchOf_24, X9_patchOf_25, X9_patchOf_26, X9_patchOf_29, X9_patchOf_30, X9_patchOf_31, X9_patchOf_32 eo mH_obj, X9_patchOf_35, iOb_some, iClr_i, iClr_r, iClr_n, iClr_u, iClr_l, rf_s, rf_n, iB_0, iSum_nil, Option.isSome_some, Bool.true_eq_false, if_false, if_neg (show ¬ (2 : Int32) ≤ nI 1 by decide)]
        exact m9_same hR
      | q + 2, hl =>
        have c2 : (2 : Int32) ≤ nI (q + 2) := nI_le (a := 2) (b := q + 2) (by omega) (by omega)
        simp only [X9_patchOf_0, X9_patchOf_1, X9_patchOf_2 et mH_obj, X9_patchOf_5, X9_patchOf_8, X9_patchOf_9, X9_patchOf_10, X9_patchOf_11 ew, X9_patchOf_14, X9_patchOf_17, X9_patchOf_18, X9_patchOf_23, X9_patchOf_24, X9_patchOf_25, X9_patchOf_26, X9_patchOf_29, X9_patchOf_30, X9_patchOf_31, X9_patchOf_35, X9_patchOf_36, X9_patchOf_37, X9_patchOf_38, X9_patchOf_39, iOb_some, iClr_i, iClr_r, iClr_n, iClr_u, iClr_l, rf_s, rf_n, iB_0, iSum_nil, Option.isSome_some, Bool.true_eq_false, if_false, if_pos c2]
        have hP := (hW.1.2.2.2 j hj).1
        exact (pcount9_loop (b := b) (x := x) (s := s) hj16 p1 hP (fun i hi => by have := p6 i 0 hi (by decide); rw [← this]; exact congrArg _ (by omega)) q (Q := m9P b x (nI (cntE (W.1.2.2.2.1 j).2.2.2.2.2.1 (nI q) (W.1.2.2.2.1 j).1), W)) (W.1.2.2.2.1 j).1 0 (by omega)).mpr (m9_same hR)
end READS4

/-! calls that only read: status, judge -/
section STATUS
variable {h : iHp} {o sN n k i j x m t u p q : Nat} {im : Option Nat} {R E P T : Nat → Option Nat} {sh rf C : Nat → Int32} {W : wW} {b : iHp} {s : mS} {Z : Nat → Nat} {f : Nat → Int64} {K B D : Nat → Int32}
/-- how many shelves hold something -/
def fS (v : Nat → hS) : Nat → Nat
  | 0 => 0
  | j + 1 => if (v j).1 = none ∧ (v j).2 = -1 then fS v j else fS v j + 1
def aStatus (W : wW) (w : Int32) : Int32 × wW := if 11 ≤ w ∧ w ≤ 17 then (W.2.2.2.1 (w - 10).toNatClampNeg, W) else if w = 0 then (nI W.1.1, W) else if w = 1 then (nI W.1.2.2.1, W) else if w = 2 then (nI (zS (fun j => (W.1.2.1 j).1) W.1.1), W) else if w = 3 then (nI (zS (fun j => (W.1.2.2.2.1 j).1) W.1.2.2.1), W) else if w = 4 then (W.2.2.2.2.2, W) else if w = 5 then (W.1.2.2.2.2, W) else if w = 6 then (nI (fS W.2.2.1 8), W) else (-1, W)
theorem i_1117 {w : Int32} (h : 11 ≤ w ∧ w ≤ 17) : ∃ q, q < 8 ∧ w - 10 = nI q ∧ (w - 10).toNatClampNeg = q := by
  obtain ⟨q, h1, h2⟩ := nI_of2 (M := 17) (n := 17) rfl (fun z => absurd (Int32.lt_of_le_of_lt h.1 z) (by decide)) h.2
  subst h2
  have h3 := h.1
  have h4 : 11 ≤ q := (nI_leI (a := 11) (b := q) (by decide) (by omega)).mp h3
  have e : nI q - 10 = nI (q - 10) := pk_sub (a := q) (b := 10) (by omega)
  exact ⟨q - 10, by omega, e, by rw [e, nI_clamp (by omega)]⟩
theorem full_loop (hR : cRe h o sN im R sh rf n k E C T P W) {Q : Option Value → iHp → Prop} : ∀ k i, i + k = 8 → (iWp 1 mX8_fullShelves 4 [.ref o, .int (nI (fS W.2.2.1 i)), .int (nI i)] [] h Q = Q (some (.int (nI (fS W.2.2.1 8)))) h) := by
  intro k
  induction k with
  | zero =>
    intro i hi
    obtain rfl : i = 8 := by omega
    rw [X8_fullShelves_4]
    simp only [X8_fullShelves_0, X8_fullShelves_1, X8_fullShelves_2, X8_fullShelves_3, X8_fullShelves_5, X8_fullShelves_7, X8_fullShelves_10, X8_fullShelves_11, X8_fullShelves_14, X8_fullShelves_15, X8_fullShelves_16, X8_fullShelves_16n, X8_fullShelves_19, X8_fullShelves_20, X8_fullShelves_23, X8_fullShelves_24, X8_fullShelves_25, X8_fullShelves_26, X8_fullShelves_29, X8_fullShelves_32, X8_fullShelves_35, X8_fullShelves_38, X8_fullShelves_39, iOb_some, iClr_i, iClr_r, iClr_n, iClr_u, iClr_l, rf_s, rf_n, iB_0, iSum_nil, if_pos (show (8 : Int32) ≤ nI 8 by decide)]
  | succ k ih =>
    intro i hi
    have r := ih (i + 1) (by omega)
    rw [nI_succ i] at r
    have h8 : ¬ (8 : Int32) ≤ nI i := nI_ge (b := 8) (by omega) (by decide)
    rw [X8_fullShelves_4]
    cases e : (W.2.2.1 i).1 with
    | some z =>
      obtain ⟨a, f, r1, -⟩ := hR.rS (show i < 8 by omega) e
      rw [show fS W.2.2.1 (i + 1) = fS W.2.2.1 i + 1 from if_neg (fun z => by rw [e] at z; cases z.1), nI_succ (fS W.2.2.1 i)] at r
      simp only [X8_fullShelves_0, X8_fullShelves_1, X8_fullShelves_2, X8_fullShelves_3, X8_fullShelves_5, X8_fullShelves_7, X8_fullShelves_10, X8_fullShelves_11, X8_fullShelves_14, X8_fullShelves_15, X8_fullShelves_16, X8_fullShelves_16n, X8_fullShelves_19, X8_fullShelves_20, X8_fullShelves_23, X8_fullShelves_24, X8_fullShelves_25, X8_fullShelves_26, X8_fullShelves_29, X8_fullShelves_32, X8_fullShelves_35, X8_fullShelves_38, X8_fullShelves_39, iOb_some, iClr_i, iClr_r, iClr_n, iClr_u, iClr_l, rf_s, rf_n, iB_0, iSum_nil, if_neg h8, hR.g0, hR.lR (show i < 8 by omega), r1, r]
    | none =>
      have r1 := hR.rN (show i < 8 by omega) e
      by_cases c : (W.2.2.1 i).2 = -1
      · rw [show fS W.2.2.1 (i + 1) = fS W.2.2.1 i from if_pos ⟨e, c⟩] at r
        simp only [X8_fullShelves_0, X8_fullShelves_1, X8_fullShelves_2, X8_fullShelves_3, X8_fullShelves_5, X8_fullShelves_7, X8_fullShelves_10, X8_fullShelves_11, X8_fullShelves_14, X8_fullShelves_15, X8_fullShelves_16, X8_fullShelves_16n, X8_fullShelves_19, X8_fullShelves_20, X8_fullShelves_23, X8_fullShelves_24, X8_fullShelves_25, X8_fullShelves_26, X8_fullShelves_29, X8_fullShelves_32, X8_fullShelves_35, X8_fullShelves_38, X8_fullShelves_39, iOb_some, iClr_i, iClr_r, iClr_n, iClr_u, iClr_l, rf_s, rf_n, iB_0, iSum_nil, if_neg h8, hR.g0, hR.lR (show i < 8 by omega), r1, hR.g1, hR.lS (show i < 8 by omega), hR.shv (show i < 8 by omega), if_pos c, r]
      · rw [show fS W.2.2.1 (i + 1) = fS W.2.2.1 i + 1 from if_neg (fun z => c z.2), nI_succ (fS W.2.2.1 i)] at r
        simp only [X8_fullShelves_0, X8_fullShelves_1, X8_fullShelves_2, X8_fullShelves_3, X8_fullShelves_5, X8_fullShelves_7, X8_fullShelves_10, X8_fullShelves_11, X8_fullShelves_14, X8_fullShelves_15, X8_fullShelves_16, X8_fullShelves_16n, X8_fullShelves_19, X8_fullShelves_20, X8_fullShelves_23, X8_fullShelves_24, X8_fullShelves_25, X8_fullShelves_26, X8_fullShelves_29, X8_fullShelves_32, X8_fullShelves_35, X8_fullShelves_38, X8_fullShelves_39, iOb_some, iClr_i, iClr_r, iClr_n, iClr_u, iClr_l, rf_s, rf_n, iB_0, iSum_nil, if_neg h8, hR.g0, hR.lR (show i < 8 by omega), r1, hR.g1, hR.lS (show i < 8 by omega), hR.shv (show i < 8 by omega), if_neg c, r]
theorem ev8_full (hR : cRe h o sN im R sh rf n k E C T P W) : iEv mX8_fullShelves [.ref o] h (some (.int (nI (fS W.2.2.1 8)))) h := by
  refine J8_fullShelves ?_
  simp only [X8_fullShelves_0, X8_fullShelves_1, X8_fullShelves_2, X8_fullShelves_3, iOb_some, iClr_i, iClr_r, iClr_n, iClr_u, iClr_l, rf_s, rf_n, iB_0, iSum_nil]
  exact (full_loop hR (Q := fun r' h' => r' = some (.int (nI (fS W.2.2.1 8))) ∧ h' = h) 8 0 (by omega)).mpr ⟨rfl, rfl⟩
theorem c8_status (hR : cRep h o W) (hW : wOk W) (w : Int32) : ∃ r h1, iEv mX8_status [.ref o, .int w] h r h1 ∧ c8P h o (aStatus W w) r h1 := by
  obtain ⟨sN, im, R, sh, rf, n, k, E, C, T, P, hR⟩ := hR
  refine I8_status ?_
  unfold aStatus
  by_cases c : 11 ≤ w ∧ w ≤ 17
  · rw [if_pos c]
    obtain ⟨q, hq, e, e2⟩ := i_1117 c
    rw [e2]
    have c1 : ¬ w ≤ 10 := fun z => absurd (Int32.le_trans c.1 z) (by decide)
    simp only [X8_status_0, X8_status_1, X8_status_3, X8_status_6, X8_status_7, X8_status_9, X8_status_12, X8_status_13, X8_status_16, X8_status_17, X8_status_19, X8_status_20, X8_status_21, iOb_some, iClr_i, iClr_r, iClr_n, iClr_u, iClr_l, rf_s, rf_n, iB_0, iSum_nil, if_neg c1, if_neg (Int32.not_lt.mpr c.2), hR.g2, e, hR.lF hq, hR.2.2.2.2.2.2.2 q hq]
    exact c8_same hR
  · rw [if_neg c]
    have pre : ∀ Q : Option Value → iHp → Prop, iWp 3 mX8_status 0 [.ref o, .int w] [] h Q = iWp 3 mX8_status 23 [.ref o, .int w] [.int w] h Q := by
      intro Q
      by_cases c1 : w ≤ 10
      · simp only [X8_status_0, X8_status_1, X8_status_3, X8_status_6, X8_status_7, X8_status_9, X8_status_12, X8_status_13, X8_status_16, X8_status_17, X8_status_19, X8_status_20, X8_status_21, X8_status_22, iOb_some, iClr_i, iClr_r, iClr_n, iClr_u, iClr_l, rf_s, rf_n, iB_0, iSum_nil, if_pos c1]
      · by_cases c2 : 17 < w
        · simp only [X8_status_0, X8_status_1, X8_status_3, X8_status_6, X8_status_7, X8_status_9, X8_status_12, X8_status_13, X8_status_16, X8_status_17, X8_status_19, X8_status_20, X8_status_21, X8_status_22, iOb_some, iClr_i, iClr_r, iClr_n, iClr_u, iClr_l, rf_s, rf_n, iB_0, iSum_nil, if_neg c1, if_pos c2]
        · exact absurd ⟨by
            obtain ⟨q, h1, h2⟩ := nI_of2 (M := 17) (n := 17) rfl (fun z => c1 (Int32.le_of_lt (Int32.lt_of_lt_of_le z (by decide)))) (Int32.not_lt.mp c2)
            subst h2
            have : ¬ q ≤ 10 := fun z => c1 (nI_le (a := q) (b := 10) z (by decide))
            exact nI_le (a := 11) (b := q) (by omega) (by omega), Int32.not_lt.mp c2⟩ c
    rw [pre]
    have hS := hR.2.2.1
    by_cases c0 : w = 0
    · rw [if_pos c0, c0]
      simp only [X8_status_23_0, X8_status_23_1, X8_status_23_2, X8_status_23_3, X8_status_23_4, X8_status_23_5, X8_status_23_6, X8_status_64, X8_status_65, X8_status_68, X8_status_71, X8_status_72, X8_status_73, X8_status_76, X8_status_79, X8_status_80, X8_status_81, X8_status_87, X8_status_88, X8_status_89, X8_status_95, X8_status_96, X8_status_97, X8_status_100, X8_status_101, X8_status_102, X8_status_105, X8_status_108, X8_status_109, X8_status_113, X8_status_114, X8_status_115, iOb_some, iClr_i, iClr_r, iClr_n, iClr_u, iClr_l, rf_s, rf_n, iB_0, iSum_nil, hR.g4, hS.g2]
      exact c8_same hR
    rw [if_neg c0]
    by_cases c1 : w = 1
    · rw [if_pos c1, c1]
      simp only [X8_status_23_0, X8_status_23_1, X8_status_23_2, X8_status_23_3, X8_status_23_4, X8_status_23_5, X8_status_23_6, X8_status_64, X8_status_65, X8_status_68, X8_status_71, X8_status_72, X8_status_73, X8_status_76, X8_status_79, X8_status_80, X8_status_81, X8_status_87, X8_status_88, X8_status_89, X8_status_95, X8_status_96, X8_status_97, X8_status_100, X8_status_101, X8_status_102, X8_status_105, X8_status_108, X8_status_109, X8_status_113, X8_status_114, X8_status_115, iOb_some, iClr_i, iClr_r, iClr_n, iClr_u, iClr_l, rf_s, rf_n, iB_0, iSum_nil, hR.g4, hS.g3]
      exact c8_same hR
    rw [if_neg c1]
    by_cases c2 : w = 2
    · rw [if_pos c2, c2]
      have en := ev_nodeCount hS (Z := fun j => (W.1.2.1 j).1) (fun j hj => by
        obtain ⟨t, e1, ⟨K, B, D, a, -⟩, -⟩ := hR.2.2.2.2.1.1 j hj
        exact ⟨t, e1, a.s⟩)
      simp only [X8_status_23_0, X8_status_23_1, X8_status_23_2, X8_status_23_3, X8_status_23_4, X8_status_23_5, X8_status_23_6, X8_status_64, X8_status_65, X8_status_68, X8_status_71, X8_status_72, X8_status_73, X8_status_76, X8_status_79, X8_status_80, X8_status_81, X8_status_84 en hS.o, X8_status_87, X8_status_88, X8_status_89, X8_status_95, X8_status_96, X8_status_97, X8_status_100, X8_status_101, X8_status_102, X8_status_105, X8_status_108, X8_status_109, X8_status_113, X8_status_114, X8_status_115, iOb_some, iClr_i, iClr_r, iClr_n, iClr_u, iClr_l, rf_s, rf_n, iB_0, iSum_nil, hR.g4]
      exact c8_same hR
    rw [if_neg c2]
    by_cases c3 : w = 3
    · rw [if_pos c3, c3]
      have en := ev_editCount hS (Z := fun j => (W.1.2.2.2.1 j).1) (fun j hj => by
        obtain ⟨p, e1, hB⟩ := hR.2.2.2.2.1.2.1 j hj
        obtain ⟨E', C', hP, -, -⟩ := hB.pt
        exact ⟨p, e1, hP.o, ev_psize hP⟩)
      simp only [X8_status_23_0, X8_status_23_1, X8_status_23_2, X8_status_23_3, X8_status_23_4, X8_status_23_5, X8_status_23_6, X8_status_64, X8_status_65, X8_status_68, X8_status_71, X8_status_72, X8_status_73, X8_status_76, X8_status_79, X8_status_80, X8_status_81, X8_status_87, X8_status_88, X8_status_89, X8_status_92 en hS.o, X8_status_95, X8_status_96, X8_status_97, X8_status_100, X8_status_101, X8_status_102, X8_status_105, X8_status_108, X8_status_109, X8_status_113, X8_status_114, X8_status_115, iOb_some, iClr_i, iClr_r, iClr_n, iClr_u, iClr_l, rf_s, rf_n, iB_0, iSum_nil, hR.g4]
      exact c8_same hR
    rw [if_neg c3]
    by_cases c4 : w = 4
    · rw [if_pos c4, c4]
      simp only [X8_status_23_0, X8_status_23_1, X8_status_23_2, X8_status_23_3, X8_status_23_4, X8_status_23_5, X8_status_23_6, X8_status_64, X8_status_65, X8_status_68, X8_status_71, X8_status_72, X8_status_73, X8_status_76, X8_status_79, X8_status_80, X8_status_81, X8_status_87, X8_status_88, X8_status_89, X8_status_95, X8_status_96, X8_status_97, X8_status_100, X8_status_101, X8_status_102, X8_status_105, X8_status_108, X8_status_109, X8_status_113, X8_status_114, X8_status_115, iOb_some, iClr_i, iClr_r, iClr_n, iClr_u, iClr_l, rf_s, rf_n, iB_0, iSum_nil, hR.g7]
      exact c8_same hR
    rw [if_neg c4]
    by_cases c5 : w = 5
    · rw [if_pos c5, c5]
      simp only [X8_status_23_0, X8_status_23_1, X8_status_23_2, X8_status_23_3, X8_status_23_4, X8_status_23_5, X8_status_23_6, X8_status_64, X8_status_65, X8_status_68, X8_status_71, X8_status_72, X8_status_73, X8_status_76, X8_status_79, X8_status_80, X8_status_81, X8_status_87, X8_status_88, X8_status_89, X8_status_95, X8_status_96, X8_status_97, X8_status_100, X8_status_101, X8_status_102, X8_status_105, X8_status_108, X8_status_109, X8_status_113, X8_status_114, X8_status_115, iOb_some, iClr_i, iClr_r, iClr_n, iClr_u, iClr_l, rf_s, rf_n, iB_0, iSum_nil, hR.g4, hS.g4]
      exact c8_same hR
    rw [if_neg c5]
    by_cases c6 : w = 6
    · rw [if_pos c6, c6]
      simp only [X8_status_23_0, X8_status_23_1, X8_status_23_2, X8_status_23_3, X8_status_23_4, X8_status_23_5, X8_status_23_6, X8_status_64, X8_status_65, X8_status_68, X8_status_71, X8_status_72, X8_status_73, X8_status_76, X8_status_79, X8_status_80, X8_status_81, X8_status_87, X8_status_88, X8_status_89, X8_status_95, X8_status_96, X8_status_97, X8_status_100, X8_status_101, X8_status_102, X8_status_105, X8_status_108, X8_status_109, X8_status_110 (ev8_full hR) hR.ob, X8_status_113, X8_status_114, X8_status_115, iOb_some, iClr_i, iClr_r, iClr_n, iClr_u, iClr_l, rf_s, rf_n, iB_0, iSum_nil]
      exact c8_same hR
    rw [if_neg c6, X8_status_23_d (i_sw6 c0 c1 c2 c3 c4 c5 c6)]
    simp only [X8_status_114, X8_status_115, iOb_some, iClr_i, iClr_r, iClr_n, iClr_u, iClr_l, rf_s, rf_n, iB_0, iSum_nil]
    exact c8_same hR
-- the reference's loops
theorem nodes9_loop (hn : s.1 0 = nI n) (h16 : n ≤ 16) (hZ : ∀ j, j < n → s.2.1 1 j = nI (Z j)) (a : Int32) {Q : Option Value → iHp → Prop} : ∀ k i, i + k = n → (iWp 2 mX9_status 80 [.ref x, .int a, .int (nI (zS Z i)), .int (nI i)] [] (mH b x s) Q = Q (some (.int (nI (zS Z n)))) (mH b x s)) := by
  intro k
  induction k with
  | zero =>
    intro i hi
    obtain rfl : i = n := by omega
    rw [X9_status_80]
    simp only [X9_status_81, X9_status_82, X9_status_85, X9_status_88, X9_status_89, X9_status_90, X9_status_93, X9_status_94, X9_status_95, X9_status_96, X9_status_97, X9_status_100, X9_status_103, X9_status_104, iOb_some, iClr_i, iClr_r, iClr_n, iClr_u, iClr_l, rf_s, rf_n, iB_0, iSum_nil, mg0, hn, if_pos (Int32.le_refl (nI i))]
  | succ k ih =>
    intro i hi
    have r := ih (i + 1) (by omega)
    rw [show zS Z (i + 1) = zS Z i + Z i from rfl, ← nI_add, nI_succ i] at r
    rw [X9_status_80]
    simp only [X9_status_81, X9_status_82, X9_status_85, X9_status_88, X9_status_89, X9_status_90, X9_status_93, X9_status_94, X9_status_95, X9_status_96, X9_status_97, X9_status_100, X9_status_103, X9_status_104, iOb_some, iClr_i, iClr_r, iClr_n, iClr_u, iClr_l, rf_s, rf_n, iB_0, iSum_nil, mg0, hn, if_neg (nI_ge (show i < n by omega) (by omega)), mg1, ml1 (show i < 16 by omega), hZ i (by omega), r]
theorem edits9_loop (hn : s.1 5 = nI n) (h16 : n ≤ 16) (hZ : ∀ j, j < n → s.2.1 7 j = nI (Z j)) (a : Int32) {Q : Option Value → iHp → Prop} : ∀ k i, i + k = n → (iWp 2 mX9_status 107 [.ref x, .int a, .int (nI (zS Z i)), .int (nI i)] [] (mH b x s) Q = Q (some (.int (nI (zS Z n)))) (mH b x s)) := by
  intro k
  induction k with
  | zero =>
    intro i hi
    obtain rfl : i = n := by omega
    rw [X9_status_107]
    simp only [X9_status_108, X9_status_109, X9_status_112, X9_status_115, X9_status_116, X9_status_117, X9_status_118, X9_status_122, X9_status_123, X9_status_124, X9_status_127, X9_status_130, X9_status_131, iOb_some, iClr_i, iClr_r, iClr_n, iClr_u, iClr_l, rf_s, rf_n, iB_0, iSum_nil, mg5, hn, if_pos (Int32.le_refl (nI i))]
  | succ k ih =>
    intro i hi
    have r := ih (i + 1) (by omega)
    rw [show zS Z (i + 1) = zS Z i + Z i from rfl, ← nI_add, nI_succ i] at r
    have eo := ev9_of0 (b := b) (x := x) (s := s) (show i < 16 by omega)
    rw [hZ i (by omega)] at eo
    rw [X9_status_107]
    simp only [X9_status_108, X9_status_109, X9_status_112, X9_status_115, X9_status_116, X9_status_117, X9_status_118, X9_status_119 eo mH_obj, X9_status_122, X9_status_123, X9_status_124, X9_status_127, X9_status_130, X9_status_131, iOb_some, iClr_i, iClr_r, iClr_n, iClr_u, iClr_l, rf_s, rf_n, iB_0, iSum_nil, mg5, hn, if_neg (nI_ge (show i < n by omega) (by omega)), r]
theorem full9_loop (hR : mRel s W) (hW : wOk W) (a : Int32) {Q : Option Value → iHp → Prop} : ∀ k i, i + k = 8 → (iWp 2 mX9_status 144 [.ref x, .int a, .int (nI (fS W.2.2.1 i)), .int (nI i)] [] (mH b x s) Q = Q (some (.int (nI (fS W.2.2.1 8)))) (mH b x s)) := by
  intro k
  induction k with
  | zero =>
    intro i hi
    obtain rfl : i = 8 := by omega
    rw [X9_status_144]
    simp only [X9_status_145, X9_status_147, X9_status_150, X9_status_151, X9_status_154, X9_status_155, X9_status_156, X9_status_159, X9_status_162, X9_status_165, X9_status_168, X9_status_169, iOb_some, iClr_i, iClr_r, iClr_n, iClr_u, iClr_l, rf_s, rf_n, iB_0, iSum_nil, if_pos (show (8 : Int32) ≤ nI 8 by decide)]
  | succ k ih =>
    intro i hi
    have r := ih (i + 1) (by omega)
    rw [nI_succ i] at r
    have h8 : ¬ (8 : Int32) ≤ nI i := nI_ge (b := 8) (by omega) (by decide)
    have h1 := hold_row (hW.2.2 i (by omega)) hW.1.2.1
    rw [X9_status_144]
    by_cases c : (W.2.2.1 i).1 = none ∧ (W.2.2.1 i).2 = -1
    · rw [show fS W.2.2.1 (i + 1) = fS W.2.2.1 i from if_pos c] at r
      simp only [X9_status_145, X9_status_147, X9_status_150, X9_status_151, X9_status_154, X9_status_155, X9_status_156, X9_status_159, X9_status_162, X9_status_165, X9_status_168, X9_status_169, iOb_some, iClr_i, iClr_r, iClr_n, iClr_u, iClr_l, rf_s, rf_n, iB_0, iSum_nil, if_neg h8, mg11, ml11 (show i < 8 by omega), (hR.2.2.1 i (by omega)).1, if_pos (h1.2.2.mpr c), r]
    · rw [show fS W.2.2.1 (i + 1) = fS W.2.2.1 i + 1 from if_neg c, nI_succ (fS W.2.2.1 i)] at r
      simp only [X9_status_145, X9_status_147, X9_status_150, X9_status_151, X9_status_154, X9_status_155, X9_status_156, X9_status_159, X9_status_162, X9_status_165, X9_status_168, X9_status_169, iOb_some, iClr_i, iClr_r, iClr_n, iClr_u, iClr_l, rf_s, rf_n, iB_0, iSum_nil, if_neg h8, mg11, ml11 (show i < 8 by omega), (hR.2.2.1 i (by omega)).1, if_neg (fun z => c (h1.2.2.mp z)), r]
theorem m9_status (hR : mRel s W) (hW : wOk W) (w : Int32) : ∃ r h1, iEv mX9_status [.ref x, .int w] (mH b x s) r h1 ∧ m9P b x (aStatus W w) r h1 := by
  refine I9_status ?_
  unfold aStatus
  have ew := ev9_within w 11 17 (h := mH b x s)
  by_cases c : 11 ≤ w ∧ w ≤ 17
  · rw [if_pos c]
    obtain ⟨q, hq, e, e2⟩ := i_1117 c
    rw [e2]
    rw [decide_eq_true c.1, decide_eq_true c.2, Bool.and_self] at ew
    simp only [X9_status_0, X9_status_1, X9_status_3, X9_status_5 ew, X9_status_8, X9_status_11, X9_status_12, X9_status_15, X9_status_16, X9_status_18, X9_status_19, X9_status_20, iOb_some, iClr_i, iClr_r, iClr_n, iClr_u, iClr_l, rf_s, rf_n, iB_0, iSum_nil, Bool.true_eq_false, if_false, mg17, e, ml17 hq, hR.2.2.2.1 q hq]
    exact m9_same hR
  · rw [if_neg c]
    have cf : (decide (11 ≤ w) && decide (w ≤ 17)) = false := by
      cases z : (decide (11 ≤ w) && decide (w ≤ 17)) with
      | false => rfl
      | true =>
        have z := (Bool.and_eq_true _ _).mp z
        exact absurd ⟨of_decide_eq_true z.1, of_decide_eq_true z.2⟩ c
    rw [cf] at ew
    simp only [X9_status_0, X9_status_1, X9_status_3, X9_status_5 ew, X9_status_8, X9_status_11, X9_status_12, X9_status_15, X9_status_16, X9_status_18, X9_status_19, X9_status_20, X9_status_21, X9_status_22, X9_status_23, iOb_some, iClr_i, iClr_r, iClr_n, iClr_u, iClr_l, rf_s, rf_n, iB_0, iSum_nil, if_true]
    by_cases c0 : w = 0
    · rw [if_pos c0, c0]
      simp only [X9_status_24_0, X9_status_24_1, X9_status_24_2, X9_status_24_3, X9_status_24_4, X9_status_24_5, X9_status_24_6, X9_status_68, X9_status_69, X9_status_72, iOb_some, iClr_i, iClr_r, iClr_n, iClr_u, iClr_l, rf_s, rf_n, iB_0, iSum_nil, mg0, hR.1.1]
      exact m9_same hR
    rw [if_neg c0]
    by_cases c1 : w = 1
    · rw [if_pos c1, c1]
      simp only [X9_status_24_0, X9_status_24_1, X9_status_24_2, X9_status_24_3, X9_status_24_4, X9_status_24_5, X9_status_24_6, X9_status_68, X9_status_69, X9_status_72, X9_status_73, X9_status_74, X9_status_77, iOb_some, iClr_i, iClr_r, iClr_n, iClr_u, iClr_l, rf_s, rf_n, iB_0, iSum_nil, mg5, hR.1.2.1]
      exact m9_same hR
    rw [if_neg c1]
    by_cases c2 : w = 2
    · rw [if_pos c2, c2]
      simp only [X9_status_24_0, X9_status_24_1, X9_status_24_2, X9_status_24_3, X9_status_24_4, X9_status_24_5, X9_status_24_6, X9_status_68, X9_status_69, X9_status_72, X9_status_73, X9_status_74, X9_status_77, X9_status_78, X9_status_79, iOb_some, iClr_i, iClr_r, iClr_n, iClr_u, iClr_l, rf_s, rf_n, iB_0, iSum_nil]
      exact (nodes9_loop (b := b) (x := x) (s := s) (Z := fun j => (W.1.2.1 j).1) hR.1.1 hW.1.1 (fun j hj => (hR.1.2.2.2.1 j hj).1) 2 (Q := m9P b x (nI (zS (fun j => (W.1.2.1 j).1) W.1.1), W)) W.1.1 0 (by omega)).mpr (m9_same hR)
    rw [if_neg c2]
    by_cases c3 : w = 3
    · rw [if_pos c3, c3]
      simp only [X9_status_24_0, X9_status_24_1, X9_status_24_2, X9_status_24_3, X9_status_24_4, X9_status_24_5, X9_status_24_6, iOb_some, iClr_i, iClr_r, iClr_n, iClr_u, iClr_l, rf_s, rf_n, iB_0, iSum_nil]
      simp only [X9_status_105, X9_status_106, iOb_some, iClr_i, iClr_r, iClr_n, iClr_u, iClr_l, rf_s, rf_n, iB_0, iSum_nil]
      exact (edits9_loop (b := b) (x := x) (s := s) (Z := fun j => (W.1.2.2.2.1 j).1) hR.1.2.1 hW.1.2.1 (fun j hj => (hR.1.2.2.2.2 j hj).1) 3 (Q := m9P b x (nI (zS (fun j => (W.1.2.2.2.1 j).1) W.1.2.2.1), W)) W.1.2.2.1 0 (by omega)).mpr (m9_same hR)
    rw [if_neg c3]
    by_cases c4 : w = 4
    · rw [if_pos c4, c4]
      simp only [X9_status_24_0, X9_status_24_1, X9_status_24_2, X9_status_24_3, X9_status_24_4, X9_status_24_5, X9_status_24_6, iOb_some, iClr_i, iClr_r, iClr_n, iClr_u, iClr_l, rf_s, rf_n, iB_0, iSum_nil]
      simp only [X9_status_132, X9_status_133, X9_status_136, iOb_some, iClr_i, iClr_r, iClr_n, iClr_u, iClr_l, rf_s, rf_n, iB_0, iSum_nil, mg6, hR.2.2.2.2.2]
      exact m9_same hR
    rw [if_neg c4]
    by_cases c5 : w = 5
    · rw [if_pos c5, c5]
      simp only [X9_status_24_0, X9_status_24_1, X9_status_24_2, X9_status_24_3, X9_status_24_4, X9_status_24_5, X9_status_24_6, iOb_some, iClr_i, iClr_r, iClr_n, iClr_u, iClr_l, rf_s, rf_n, iB_0, iSum_nil]
      simp only [X9_status_137, X9_status_138, X9_status_141, iOb_some, iClr_i, iClr_r, iClr_n, iClr_u, iClr_l, rf_s, rf_n, iB_0, iSum_nil, mg10, hR.1.2.2.1]
      exact m9_same hR
    rw [if_neg c5]
    by_cases c6 : w = 6
    · rw [if_pos c6, c6]
      simp only [X9_status_24_0, X9_status_24_1, X9_status_24_2, X9_status_24_3, X9_status_24_4, X9_status_24_5, X9_status_24_6, iOb_some, iClr_i, iClr_r, iClr_n, iClr_u, iClr_l, rf_s, rf_n, iB_0, iSum_nil]
      simp only [X9_status_142, X9_status_143, iOb_some, iClr_i, iClr_r, iClr_n, iClr_u, iClr_l, rf_s, rf_n, iB_0, iSum_nil]
      exact (full9_loop (b := b) (x := x) hR hW 6 (Q := m9P b x (nI (fS W.2.2.1 8), W)) 8 0 (by omega)).mpr (m9_same hR)
    rw [if_neg c6, X9_status_24_d (i_sw6 c0 c1 c2 c3 c4 c5 c6)]
    simp only [X9_status_170, X9_status_171, iOb_some, iClr_i, iClr_r, iClr_n, iClr_u, iClr_l, rf_s, rf_n, iB_0, iSum_nil]
    exact m9_same hR
end STATUS

/-! difference, far, moves: the reference -/
section DIFFERS9
variable {b : iHp} {x t u i j k p q c n m w : Nat} {s s' s0 : mS} {T U : tT} {X : dfX} {Q : Option Value → iHp → Prop} {W : wW} {a1 a2 a4 : Value}
theorem nam9_loop (hT9 : rT s0 t T) (hU9 : rT s0 u U) (hT : tOk T) (hU : tOk U) : ∀ k i X s a4, i + k = T.1 → dN T U i X → rD s0 s X → (∀ s' a3 a4, rD s0 s' (dfN T U k i X) → iWp 8 mX9_differs 110 [.ref x, .int (nI t), .int (nI u), a3, a4] [] (mH b x s') Q) → iWp 8 mX9_differs 12 [.ref x, .int (nI t), .int (nI u), .int (nI i), a4] [] (mH b x s) Q := by
  have t60 := hT.1.le
  have u60 := hU.1.le
  have t16 := hT9.1
  have u16 := hU9.1
  intro k
  induction k with
  | zero =>
    intro i X s a4 hi hN hD hQ
    obtain rfl : i = T.1 := by omega
    have sz := (hD.tre hT9).2.2.1
    rw [X9_differs_12]
    simp only [X9_differs_13, X9_differs_14, X9_differs_17, X9_differs_18, X9_differs_19, iOb_some, iClr_i, iClr_r, iClr_n, iClr_u, iClr_l, rf_s, rf_n, iB_0, iSum_nil, mg1, ml1 t16, sz, if_pos (Int32.le_refl (nI T.1))]
    exact hQ s _ _ hD
  | succ k ih =>
    intro i X s a4 hi hN hD hQ
    have hi' : i < T.1 := by omega
    have hTs := hD.tre hT9
    have hUs := hD.tre hU9
    have sz := hTs.2.2.1
    have hs := dN_step hT hN hi'
    have hfit := fun v => dN_fit hT hN hi' v
    have hle := dN_le hT hN (by omega)
    have lt := (hTs.2.2.2 i hi').2.1
    have ei := ev9_indexOf (b := b) (x := x) hUs (T.2.1 i)
    have ek := ev9_keyOf (b := b) (x := x) hTs hi'
    rw [X9_differs_12]
    unfold dfN at hQ
    unfold dfN1 at hQ hs
    cases w : tWhere U.2.1 U.1 (T.2.1 i) with
    | none =>
      rw [w] at hQ hs ei
      simp only [X9_differs_13, X9_differs_14, X9_differs_17, X9_differs_18, X9_differs_19, X9_differs_22, X9_differs_23, X9_differs_24, X9_differs_25, X9_differs_26, X9_differs_27 ek mH_obj, X9_differs_30 ei mH_obj, X9_differs_33, X9_differs_35, X9_differs_37, X9_differs_38, iOb_some, iClr_i, iClr_r, iClr_n, iClr_u, iClr_l, rf_s, rf_n, iB_0, iSum_nil, mg1, ml1 t16, sz, if_neg (nI_ge hi' (show T.1 < 2 ^ 31 by omega)), oI_n, if_true]
      simp only [X9_differs_104, X9_differs_107, iOb_some, iClr_i, iClr_r, iClr_n, iClr_u, iClr_l, rf_s, rf_n, iB_0, iSum_nil, nI_1]
      exact ih (i + 1) X s _ (by omega) hs hD hQ
    | some j =>
      rw [w] at hQ hs ei
      dsimp only at hQ hs
      have hj := (tWhere_lt w).1
      have lu := (hUs.2.2.2 j hj).2.1
      by_cases c : U.2.2.1 j = T.2.2.1 i
      · rw [if_pos c] at hQ hs
        simp only [X9_differs_13, X9_differs_14, X9_differs_17, X9_differs_18, X9_differs_19, X9_differs_22, X9_differs_23, X9_differs_24, X9_differs_25, X9_differs_26, X9_differs_27 ek mH_obj, X9_differs_30 ei mH_obj, X9_differs_33, X9_differs_35, X9_differs_37, X9_differs_38, X9_differs_41, X9_differs_42, X9_differs_45, X9_differs_47, X9_differs_48, X9_differs_49, X9_differs_51, X9_differs_52, X9_differs_53, X9_differs_54, X9_differs_57, X9_differs_59, X9_differs_60, X9_differs_61, X9_differs_62, X9_differs_63, X9_differs_64, iOb_some, iClr_i, iClr_r, iClr_n, iClr_u, iClr_l, rf_s, rf_n, iB_0, iSum_nil, mg1, mg3, ml1 t16, sz, if_neg (nI_ge hi' (show T.1 < 2 ^ 31 by omega)), oI_s, if_neg (oI_ne (show j < 2 ^ 31 by omega)), i64, ml3 (show 64 * u + j < 1024 by omega), ml3 (show 64 * t + i < 1024 by omega), lu, lt, if_pos c]
        simp only [X9_differs_104, X9_differs_107, iOb_some, iClr_i, iClr_r, iClr_n, iClr_u, iClr_l, rf_s, rf_n, iB_0, iSum_nil, nI_1]
        exact ih (i + 1) X s _ (by omega) hs hD hQ
      · rw [if_neg c] at hQ hs
        obtain ⟨s3, o1, o2⟩ := hD.goes (b := b) (x := x) hN.1.1 (by omega) (hfit (U.2.2.1 j)).2
        have o1 : iEv mX9_goes [.ref x, .int 0, .int (T.2.1 i), .int (T.2.2.1 i), .int (U.2.2.1 j), .int 0, .int 0, .int 0] (mH b x s) none (mH b x s3) := o1
        simp only [X9_differs_13, X9_differs_14, X9_differs_17, X9_differs_18, X9_differs_19, X9_differs_22, X9_differs_23, X9_differs_24, X9_differs_25, X9_differs_26, X9_differs_27 ek mH_obj, X9_differs_30 ei mH_obj, X9_differs_33, X9_differs_35, X9_differs_37, X9_differs_38, X9_differs_41, X9_differs_42, X9_differs_45, X9_differs_47, X9_differs_48, X9_differs_49, X9_differs_51, X9_differs_52, X9_differs_53, X9_differs_54, X9_differs_57, X9_differs_59, X9_differs_60, X9_differs_61, X9_differs_62, X9_differs_63, X9_differs_64, X9_differs_67, X9_differs_68, X9_differs_69, X9_differs_70, X9_differs_71, X9_differs_72 ek mH_obj, X9_differs_75, X9_differs_76, X9_differs_79, X9_differs_81, X9_differs_82, X9_differs_83, X9_differs_84, X9_differs_85, X9_differs_86, X9_differs_87, X9_differs_90, X9_differs_92, X9_differs_93, X9_differs_94, X9_differs_96, X9_differs_97, X9_differs_98, X9_differs_99, X9_differs_100, X9_differs_101 o1 mH_obj, X9_differs_104, X9_differs_107, iOb_some, iClr_i, iClr_r, iClr_n, iClr_u, iClr_l, rf_s, rf_n, iB_0, iSum_nil, mg1, mg3, ml1 t16, sz, if_neg (nI_ge hi' (show T.1 < 2 ^ 31 by omega)), oI_s, if_neg (oI_ne (show j < 2 ^ 31 by omega)), i64, ml3 (show 64 * u + j < 1024 by omega), ml3 (show 64 * t + i < 1024 by omega), lu, lt, if_neg c, nI_1]
        exact ih (i + 1) _ s3 _ (by omega) hs o2 hQ
theorem ch9_loop (hT9 : rT s0 t T) (hU9 : rT s0 u U) (hT : tOk T) (hU : tOk U) : ∀ k p X s, p + k = U.1 → dC T U p (p + 1) (dfA0 T U) X → rD s0 s X → (∀ s' a3, rD s0 s' (dfP U k p X) → iWp 8 mX9_differs 135 [.ref x, .int (nI t), .int (nI u), a3, a4] [] (mH b x s') Q) → iWp 8 mX9_differs 112 [.ref x, .int (nI t), .int (nI u), .int (nI p), a4] [] (mH b x s) Q := by
  have u60 := hU.1.le
  have u16 := hU9.1
  intro k
  induction k with
  | zero =>
    intro p X s hp hC hD hQ
    obtain rfl : p = U.1 := by omega
    have sz := (hD.tre hU9).2.2.1
    rw [X9_differs_112]
    simp only [X9_differs_113, X9_differs_114, X9_differs_117, X9_differs_118, X9_differs_119, iOb_some, iClr_i, iClr_r, iClr_n, iClr_u, iClr_l, rf_s, rf_n, iB_0, iSum_nil, mg1, ml1 u16, sz, if_pos (Int32.le_refl (nI U.1))]
    exact hQ s _ hD
  | succ k ih =>
    intro p X s hp hC hD hQ
    have hp' : p < U.1 := by omega
    have sz := (hD.tre hU9).2.2.1
    obtain ⟨s3, e3, d3⟩ := ev9_ordered (b := b) (x := x) hT9 hU9 hT hU hp' hC hD
    rw [X9_differs_112]
    simp only [X9_differs_113, X9_differs_114, X9_differs_117, X9_differs_118, X9_differs_119, X9_differs_122, X9_differs_123, X9_differs_124, X9_differs_125, X9_differs_126 e3 mH_obj, X9_differs_129, X9_differs_132, iOb_some, iClr_i, iClr_r, iClr_n, iClr_u, iClr_l, rf_s, rf_n, iB_0, iSum_nil, mg1, ml1 u16, sz, if_neg (nI_ge hp' (show U.1 < 2 ^ 31 by omega)), nI_1]
    exact ih (p + 1) _ s3 (by omega) (dP_step hU hp' hC) d3 hQ
theorem tak9_loop (hT9 : rT s0 t T) (hU9 : rT s0 u U) (hT : tOk T) (hU : tOk U) : ∀ k X s a4, k ≤ T.1 → dK T U k (dfA1 T U) X → rD s0 s X → (∀ s', rD s0 s' (dfK T U k X) → Q none (mH b x s')) → iWp 8 mX9_differs 144 [.ref x, .int (nI t), .int (nI u), .int (dI k), a4] [] (mH b x s) Q := by
  have t60 := hT.1.le
  have u60 := hU.1.le
  intro k
  induction k with
  | zero =>
    intro X s a4 hk hN hD hQ
    rw [X9_differs_144]
    simp only [X9_differs_145, iOb_some, iClr_i, iClr_r, iClr_n, iClr_u, iClr_l, rf_s, rf_n, iB_0, iSum_nil, dI_0, if_pos (by decide : (-1 : Int32) < 0)]
    simp only [X9_differs_216, iOb_some, iClr_i, iClr_r, iClr_n, iClr_u, iClr_l, rf_s, rf_n, iB_0, iSum_nil]
    exact hQ s hD
  | succ k ih =>
    intro X s a4 hk hN hD hQ
    have hi' : k < T.1 := by omega
    have hTs := hD.tre hT9
    have hUs := hD.tre hU9
    have hX := hN.1.1
    have w60 := hX.1.le
    have hs := dK_step hT hU hN hi'
    have hfit := fun hn j hj => dK_fit hT hU hN hi' hn (j := j) hj
    have hat := fun hn => dK_at hT hN hi' hn
    have ei := ev9_indexOf (b := b) (x := x) hUs (T.2.1 k)
    have ek := ev9_keyOf (b := b) (x := x) hTs hi'
    rw [X9_differs_144]
    unfold dfK at hQ
    unfold dfK1 at hQ hs
    cases w : tWhere U.2.1 U.1 (T.2.1 k) with
    | some a =>
      rw [w] at hQ hs ei
      have ha := (tWhere_lt w).1
      simp only [X9_differs_145, X9_differs_148, X9_differs_149, X9_differs_150, X9_differs_151, X9_differs_152, X9_differs_153 ek mH_obj, X9_differs_156 ei mH_obj, X9_differs_159, X9_differs_160, X9_differs_163, iOb_some, iClr_i, iClr_r, iClr_n, iClr_u, iClr_l, rf_s, rf_n, iB_0, iSum_nil, dI_c, if_neg (nI_pos (show k < 2 ^ 31 by omega)), oI_s, if_neg (oI_ne (show a < 2 ^ 31 by omega))]
      simp only [X9_differs_210, X9_differs_213, iOb_some, iClr_i, iClr_r, iClr_n, iClr_u, iClr_l, rf_s, rf_n, iB_0, iSum_nil, dI_m]
      exact ih X s _ (by omega) hs hD hQ
    | none =>
      rw [w] at hQ hs ei
      dsimp only at hQ hs
      have hn : ¬ inT U (T.2.1 k) := by
        rintro ⟨a, a1, a2⟩
        exact tWhere_none w a1 a2
      obtain ⟨j, hj⟩ := hat hn
      have ef := hD.2.1.find (b := b) (x := x) hX (T.2.1 k)
      rw [hj] at hQ hs ef
      dsimp only at hQ hs
      have hjl := (tWhere_lt hj).1
      have hle : X.2.1 + 1 ≤ 120 := dK_le hT hU hs (by omega)
      obtain ⟨s3, o1, o2⟩ := hD.goes (b := b) (x := x) (e := dfT T X.1 k j) hX (by omega) (hfit hn j hj).2.1
      have o1 : iEv mX9_goes [.ref x, .int 1, .int (T.2.1 k), .int (X.1.2.2.1 j), .int (tPK X.1.2.1 X.1.2.2.2 j), .int (nI (tPlace X.1.2.2.2 j)), .int 0, .int 0] (mH b x s) none (mH b x s3) := o1
      have hlb := hD.2.1.lab hjl
      simp only [X9_differs_145, X9_differs_148, X9_differs_149, X9_differs_150, X9_differs_151, X9_differs_152, X9_differs_153 ek mH_obj, X9_differs_156 ei mH_obj, X9_differs_159, X9_differs_160, iOb_some, iClr_i, iClr_r, iClr_n, iClr_u, iClr_l, rf_s, rf_n, iB_0, iSum_nil, dI_c, if_neg (nI_pos (show k < 2 ^ 31 by omega)), oI_n, if_true]
      simp only [X9_differs_166, X9_differs_167, X9_differs_168, X9_differs_169, X9_differs_170 ek mH_obj, X9_differs_173 ef mH_obj, X9_differs_176, X9_differs_178, X9_differs_179, X9_differs_180, X9_differs_181, X9_differs_182, X9_differs_183 ek mH_obj, X9_differs_186, X9_differs_187, X9_differs_190, X9_differs_192, X9_differs_193, X9_differs_194, X9_differs_196 (hD.2.1.parentKey hX hjl) mH_obj, X9_differs_199, X9_differs_200, X9_differs_202 (hD.2.1.place hX hjl) mH_obj, X9_differs_205, X9_differs_206, X9_differs_207 o1 mH_obj, X9_differs_210, X9_differs_213, iOb_some, iClr_i, iClr_r, iClr_n, iClr_u, iClr_l, rf_s, rf_n, iB_0, iSum_nil, oI_s, mg20, ml20 (show j < 66 by omega), hlb, dI_m]
      exact ih _ s3 _ (by omega) hs o2 hQ
/-- what is behind the differing -/
theorem ev9_differs (hR : mRel s W) (hW : wOk W) (ht : t < W.1.1) (hu : u < W.1.1) (hr : (W.1.2.1 t).2.1 0 = (W.1.2.1 u).2.1 0) : ∃ s', iEv mX9_differs [.ref x, .int (nI t), .int (nI u)] (mH b x s) none (mH b x s') ∧ sEx LX s s' ∧ mMd s' (dfR (W.1.2.1 t) (W.1.2.1 u)).2.1 (dfR (W.1.2.1 t) (W.1.2.1 u)).2.2 := by
  have hT := hW.1.2.2.1 t ht
  have hU := hW.1.2.2.1 u hu
  have w16 := hW.1.1
  obtain ⟨V, s1, l1, l2, l3, l4⟩ := ev9_loadsR (b := b) (x := x) hR.1 hW.1 ht
  have T9 : rT s t (W.1.2.1 t) := ⟨by omega, hT.1.le, (hR.1.2.2.2.1 t ht).1, (hR.1.2.2.2.1 t ht).2⟩
  have U9 : rT s u (W.1.2.1 u) := ⟨by omega, hU.1.le, (hR.1.2.2.2.1 u hu).1, (hR.1.2.2.2.1 u hu).2⟩
  generalize W.1.2.1 t = T at hT l3 hr T9 ⊢
  generalize W.1.2.1 u = U at hU hr U9 ⊢
  have u60 := hU.1.le
  have t60 := hT.1.le
  have D0 : rD s (mSet s1 25 0) (dfX0 T) := ⟨(l4.mono (by decide)).trans (mSet_ex (by decide)), ⟨V, ⟨l2.1, l2.2.1, l2.2.2.1, l2.2.2.2⟩, l3⟩, mMd_0⟩
  have h1d := dN_run (U := U) hT T.1 0 _ (Nat.zero_add _) (dN_0 hT)
  have h2d := dP_0 hU (dC_0 hT hU hr h1d)
  have h3d := dP_run hU U.1 0 _ (Nat.zero_add _) h2d
  have z : iWp 8 mX9_differs 0 [.ref x, .int (nI t), .int (nI u), iU, iU] [] (mH b x s) (fun v h1 => v = none ∧ ∃ s', h1 = mH b x s' ∧ rD s s' (dfR T U)) := by
    simp only [X9_differs_0, X9_differs_1, X9_differs_2 l1 mH_obj, X9_differs_5, X9_differs_6, X9_differs_7, X9_differs_10, X9_differs_11, iOb_some, iClr_i, iClr_r, iClr_n, iClr_u, iClr_l, rf_s, rf_n, iB_0, iSum_nil, mp25]
    refine nam9_loop (s0 := s) T9 U9 hT hU T.1 0 _ _ _ (Nat.zero_add _) (dN_0 hT) D0 (fun s2 a3 a4 D2 => ?_)
    simp only [X9_differs_110, X9_differs_111, iOb_some, iClr_i, iClr_r, iClr_n, iClr_u, iClr_l, rf_s, rf_n, iB_0, iSum_nil]
    refine ch9_loop (s0 := s) T9 U9 hT hU U.1 0 _ s2 (Nat.zero_add _) h2d D2 (fun s3 a3 D3 => ?_)
    have sz := (D3.tre T9).2.2.1
    simp only [X9_differs_135, X9_differs_136, X9_differs_139, X9_differs_140, X9_differs_141, X9_differs_142, X9_differs_143, iOb_some, iClr_i, iClr_r, iClr_n, iClr_u, iClr_l, rf_s, rf_n, iB_0, iSum_nil, mg1, ml1 T9.1, sz, dI_s]
    exact tak9_loop (s0 := s) T9 U9 hT hU T.1 _ s3 _ (Nat.le_refl _) (dK_0 hU h3d) D3 (fun s4 D4 => ⟨rfl, s4, rfl, D4⟩)
  obtain ⟨v, h1, ev, rfl, s', rfl, g⟩ := I9_differs z
  exact ⟨s', ev, g.1.mono (by decide), g.2.2⟩
theorem ev9_isUnlike (hT : rT s t T) (hU : rT s u U) (hT0 : 0 < T.1) (hU0 : 0 < U.1) : iEv mX9_isUnlike [.ref x, .int (nI t), .int (nI u)] (mH b x s) (some (.int (iB (decide (T.2.1 0 ≠ U.2.1 0))))) (mH b x s) := by
  have e1 := ev9_keyOf (b := b) (x := x) hT hT0
  have e2 := ev9_keyOf (b := b) (x := x) hU hU0
  rw [nI_0] at e1 e2
  refine J9_isUnlike ?_
  by_cases c : T.2.1 0 = U.2.1 0
  · rw [decide_eq_false (fun z => z c)]
    simp only [X9_isUnlike_0, X9_isUnlike_1, X9_isUnlike_2, X9_isUnlike_3 e1 mH_obj, X9_isUnlike_6, X9_isUnlike_7, X9_isUnlike_8, X9_isUnlike_9 e2 mH_obj, X9_isUnlike_12, X9_isUnlike_15, X9_isUnlike_16, X9_isUnlike_19, X9_isUnlike_20, X9_isUnlike_20z, X9_isUnlike_20o, iOb_some, iClr_i, iClr_r, iClr_n, iClr_u, iClr_l, rf_s, rf_n, iB_0, iSum_nil, if_pos c]
    exact ⟨trivial, trivial⟩
  · rw [decide_eq_true (show T.2.1 0 ≠ U.2.1 0 from c)]
    simp only [X9_isUnlike_0, X9_isUnlike_1, X9_isUnlike_2, X9_isUnlike_3 e1 mH_obj, X9_isUnlike_6, X9_isUnlike_7, X9_isUnlike_8, X9_isUnlike_9 e2 mH_obj, X9_isUnlike_12, X9_isUnlike_15, X9_isUnlike_16, X9_isUnlike_19, X9_isUnlike_20, X9_isUnlike_20z, X9_isUnlike_20o, iOb_some, iClr_i, iClr_r, iClr_n, iClr_u, iClr_l, rf_s, rf_n, iB_0, iSum_nil, if_neg c]
    exact ⟨trivial, trivial⟩
/-- how the three begin -/
theorem m9_dcases (hR : mRel s W) (hW : wOk W) (v z : Int32) : (iEv mX9_isTree [.ref x, .int v] (mH b x s) (some (.int 0)) (mH b x s) ∧ ∀ f, aDf W v z f = (-1, wRef W 1)) ∨ (iEv mX9_isTree [.ref x, .int v] (mH b x s) (some (.int 1)) (mH b x s) ∧ iEv mX9_isTree [.ref x, .int z] (mH b x s) (some (.int 0)) (mH b x s) ∧ ∀ f, aDf W v z f = (-1, wRef W 1)) ∨ (iEv mX9_isTree [.ref x, .int v] (mH b x s) (some (.int 1)) (mH b x s) ∧ iEv mX9_isTree [.ref x, .int z] (mH b x s) (some (.int 1)) (mH b x s) ∧ ((iEv mX9_isUnlike [.ref x, .int v, .int z] (mH b x s) (some (.int 1)) (mH b x s) ∧ ∀ f, aDf W v z f = (-6, wRef W 6)) ∨ (iEv mX9_isUnlike [.ref x, .int v, .int z] (mH b x s) (some (.int 0)) (mH b x s) ∧ ∃ X s', (∀ f, aDf W v z f = f X) ∧ iEv mX9_differs [.ref x, .int v, .int z] (mH b x s) none (mH b x s') ∧ sEx LX s s' ∧ mMd s' X.2.1 X.2.2 ∧ X.2.1 ≤ 120))) := by
  have hm : W.1.1 < 2 ^ 31 := by have := hW.1.1; omega
  have w16 := hW.1.1
  have et := ev9_isTree (b := b) (x := x) hR.1 hW.1.1 (t := v)
  have eu := ev9_isTree (b := b) (x := x) hR.1 hW.1.1 (t := z)
  rcases iIx_cases v hm with ⟨e, -⟩ | ⟨i, hi, rfl, e⟩
  · rw [e] at et
    exact Or.inl ⟨et, fun f => by unfold aDf; rw [e]⟩
  · rw [e] at et
    rcases iIx_cases z hm with ⟨f, -⟩ | ⟨j, hj, rfl, f⟩
    · rw [f] at eu
      exact Or.inr (Or.inl ⟨et, eu, fun g => by unfold aDf; rw [e, f]⟩)
    · rw [f] at eu
      have hT := hW.1.2.2.1 i hi
      have hU := hW.1.2.2.1 j hj
      have T9 : rT s i (W.1.2.1 i) := ⟨by omega, hT.1.le, (hR.1.2.2.2.1 i hi).1, (hR.1.2.2.2.1 i hi).2⟩
      have U9 : rT s j (W.1.2.1 j) := ⟨by omega, hU.1.le, (hR.1.2.2.2.1 j hj).1, (hR.1.2.2.2.1 j hj).2⟩
      have ek := ev9_isUnlike (b := b) (x := x) T9 U9 hT.2.choose_spec.2.1 hU.2.choose_spec.2.1
      refine Or.inr (Or.inr ⟨et, eu, ?_⟩)
      by_cases c : (W.1.2.1 i).2.1 0 = (W.1.2.1 j).2.1 0
      · rw [decide_eq_false (fun y => y c)] at ek
        obtain ⟨s', g1, g2, g3⟩ := ev9_differs (b := b) (x := x) hR hW hi hj c
        refine Or.inr ⟨ek, _, s', fun F => ?_, g1, g2, g3, (dfR_ok hT hU c).2⟩
        unfold aDf
        rw [e, f]
        exact if_pos c
      · rw [decide_eq_true (show (W.1.2.1 i).2.1 0 ≠ (W.1.2.1 j).2.1 0 from c)] at ek
        refine Or.inl ⟨ek, fun F => ?_⟩
        unfold aDf
        rw [e, f]
        exact if_neg c
theorem m9_diff (hR : mRel s W) (hW : wOk W) (v z : Int32) : ∃ r h1, iEv mX9_difference [.ref x, .int v, .int z] (mH b x s) r h1 ∧ m9P b x (aDiff W v z) r h1 := by
  refine I9_difference ?_
  unfold aDiff
  rcases m9_dcases (b := b) (x := x) hR hW v z with ⟨et, ea⟩ | ⟨et, eu, ea⟩ | ⟨et, eu, ⟨ek, ea⟩ | ⟨ek, X, s', ea, g1, g2, g3, g4⟩⟩
  · rw [ea]
    simp only [X9_difference_0, X9_difference_1, X9_difference_2 et mH_obj, X9_difference_5, X9_difference_8, X9_difference_9, X9_difference_13, X9_difference_16, X9_difference_17, X9_difference_18 (ev9_noV (v := -1) (r := 1) (by decide) rfl) mH_obj, X9_difference_21, iOb_some, iClr_i, iClr_r, iClr_n, iClr_u, iClr_l, rf_s, rf_n, iB_0, iSum_nil, if_true]
    exact m9_rf hR (by decide)
  · rw [ea]
    simp only [X9_difference_0, X9_difference_1, X9_difference_2 et mH_obj, X9_difference_5, X9_difference_8, X9_difference_9, X9_difference_10 eu mH_obj, X9_difference_13, X9_difference_16, X9_difference_17, X9_difference_18 (ev9_noV (v := -1) (r := 1) (by decide) rfl) mH_obj, X9_difference_21, iOb_some, iClr_i, iClr_r, iClr_n, iClr_u, iClr_l, rf_s, rf_n, iB_0, iSum_nil, if_true, if_neg (by decide : ¬ (1 : Int32) = 0)]
    exact m9_rf hR (by decide)
  · rw [ea]
    simp only [X9_difference_0, X9_difference_1, X9_difference_2 et mH_obj, X9_difference_5, X9_difference_8, X9_difference_9, X9_difference_10 eu mH_obj, X9_difference_13, X9_difference_16, X9_difference_17, X9_difference_21, X9_difference_22, X9_difference_23, X9_difference_24, X9_difference_25 ek mH_obj, X9_difference_28, X9_difference_31, X9_difference_32, X9_difference_34 (ev9_noV (v := -6) (r := 6) (by decide) rfl) mH_obj, X9_difference_37, iOb_some, iClr_i, iClr_r, iClr_n, iClr_u, iClr_l, rf_s, rf_n, iB_0, iSum_nil, if_true, if_neg (by decide : ¬ (1 : Int32) = 0)]
    exact m9_rf hR (by decide)
  · rw [ea]
    obtain ⟨h4, k4, s4, rfl, k5⟩ := ev9_newPatch (b := b) (x := x) (c := 0) (C := fun _ => 0) (so := 1) (sr := -1) (hR.ex g2) hW g3 (by omega) (by omega) (fun y => absurd y (by decide)) (fun _ => rfl)
    simp only [X9_difference_0, X9_difference_1, X9_difference_2 et mH_obj, X9_difference_5, X9_difference_8, X9_difference_9, X9_difference_10 eu mH_obj, X9_difference_13, X9_difference_16, X9_difference_17, X9_difference_21, X9_difference_22, X9_difference_23, X9_difference_24, X9_difference_25 ek mH_obj, X9_difference_28, X9_difference_31, X9_difference_32, X9_difference_37, X9_difference_38, X9_difference_39, X9_difference_40, X9_difference_41 g1 mH_obj, X9_difference_44, X9_difference_45, X9_difference_46, X9_difference_47 k4 mH_obj, X9_difference_50, iOb_some, iClr_i, iClr_r, iClr_n, iClr_u, iClr_l, rf_s, rf_n, iB_0, iSum_nil, if_true, if_neg (by decide : ¬ (1 : Int32) = 0)]
    exact ⟨rfl, s4, rfl, k5⟩
theorem m9_far (hR : mRel s W) (hW : wOk W) (v z : Int32) : ∃ r h1, iEv mX9_far [.ref x, .int v, .int z] (mH b x s) r h1 ∧ m9P b x (aFar W v z) r h1 := by
  refine I9_far ?_
  unfold aFar
  rcases m9_dcases (b := b) (x := x) hR hW v z with ⟨et, ea⟩ | ⟨et, eu, ea⟩ | ⟨et, eu, ⟨ek, ea⟩ | ⟨ek, X, s', ea, g1, g2, g3, g4⟩⟩
  · rw [ea]
    simp only [X9_far_0, X9_far_1, X9_far_2 et mH_obj, X9_far_5, X9_far_8, X9_far_9, X9_far_13, X9_far_16, X9_far_17, X9_far_18 (ev9_noV (v := -1) (r := 1) (by decide) rfl) mH_obj, X9_far_21, iOb_some, iClr_i, iClr_r, iClr_n, iClr_u, iClr_l, rf_s, rf_n, iB_0, iSum_nil, if_true]
    exact m9_rf hR (by decide)
  · rw [ea]
    simp only [X9_far_0, X9_far_1, X9_far_2 et mH_obj, X9_far_5, X9_far_8, X9_far_9, X9_far_10 eu mH_obj, X9_far_13, X9_far_16, X9_far_17, X9_far_18 (ev9_noV (v := -1) (r := 1) (by decide) rfl) mH_obj, X9_far_21, iOb_some, iClr_i, iClr_r, iClr_n, iClr_u, iClr_l, rf_s, rf_n, iB_0, iSum_nil, if_true, if_neg (by decide : ¬ (1 : Int32) = 0)]
    exact m9_rf hR (by decide)
  · rw [ea]
    simp only [X9_far_0, X9_far_1, X9_far_2 et mH_obj, X9_far_5, X9_far_8, X9_far_9, X9_far_10 eu mH_obj, X9_far_13, X9_far_16, X9_far_17, X9_far_21, X9_far_22, X9_far_23, X9_far_24, X9_far_25 ek mH_obj, X9_far_28, X9_far_31, X9_far_32, X9_far_34 (ev9_noV (v := -6) (r := 6) (by decide) rfl) mH_obj, X9_far_37, iOb_some, iClr_i, iClr_r, iClr_n, iClr_u, iClr_l, rf_s, rf_n, iB_0, iSum_nil, if_true, if_neg (by decide : ¬ (1 : Int32) = 0)]
    exact m9_rf hR (by decide)
  · rw [ea]
    simp only [X9_far_0, X9_far_1, X9_far_2 et mH_obj, X9_far_5, X9_far_8, X9_far_9, X9_far_10 eu mH_obj, X9_far_13, X9_far_16, X9_far_17, X9_far_21, X9_far_22, X9_far_23, X9_far_24, X9_far_25 ek mH_obj, X9_far_28, X9_far_31, X9_far_32, X9_far_37, X9_far_38, X9_far_39, X9_far_40, X9_far_41 g1 mH_obj, X9_far_44, X9_far_45, X9_far_48, iOb_some, iClr_i, iClr_r, iClr_n, iClr_u, iClr_l, rf_s, rf_n, iB_0, iSum_nil, if_true, if_neg (by decide : ¬ (1 : Int32) = 0), mg25, g3.1]
    exact ⟨rfl, s', rfl, hR.ex g2⟩
theorem cnt9_loop {G : Nat → Nat → Int32} {y2 : Int32} (hM : mMd s n G) (hn : n ≤ 120) : ∀ k i, i + k = n → mMd s n G → iWp 9 mX9_moves_ 49 [.ref x, a1, .int y2, .int (nI (cntE G 3 i)), .int (nI i)] [] (mH b x s) Q = Q (some (.int (nI (cntE G 3 n)))) (mH b x s) := by
  intro k
  induction k with
  | zero =>
    intro i hi hG
    obtain rfl : i = n := by omega
    rw [X9_moves__49]
    simp only [X9_moves__51, X9_moves__52, X9_moves__55, X9_moves__58, X9_moves__59, X9_moves__62, X9_moves__64, X9_moves__66, X9_moves__67, X9_moves__68, X9_moves__69, X9_moves__72, X9_moves__75, X9_moves__78, X9_moves__81, X9_moves__82, iOb_some, iClr_i, iClr_r, iClr_n, iClr_u, iClr_l, rf_s, rf_n, iB_0, iSum_nil, mg25, hG.1, if_pos (Int32.le_refl (nI i))]
  | succ k ih =>
    intro i hi hG
    have hg := hG.2 i 0 (by omega) (by decide)
    rw [Nat.add_zero] at hg
    have r := ih (i + 1) (by omega) hG
    rw [X9_moves__49]
    by_cases c : G i 0 = 3
    · rw [show cntE G 3 (i + 1) = cntE G 3 i + 1 from if_pos c] at r
      simp only [X9_moves__51, X9_moves__52, X9_moves__55, X9_moves__58, X9_moves__59, X9_moves__62, X9_moves__64, X9_moves__66, X9_moves__67, X9_moves__68, X9_moves__69, X9_moves__72, X9_moves__75, X9_moves__78, iOb_some, iClr_i, iClr_r, iClr_n, iClr_u, iClr_l, rf_s, rf_n, iB_0, iSum_nil, mg25, mg26, hG.1, if_neg (nI_ge (show i < n by omega) (show n < 2 ^ 31 by omega)), i7, ml26 (show 7 * i < 1400 by omega), hg, if_pos c, nI_1]
      exact r
    · rw [show cntE G 3 (i + 1) = cntE G 3 i from if_neg c] at r
      simp only [X9_moves__51, X9_moves__52, X9_moves__55, X9_moves__58, X9_moves__59, X9_moves__62, X9_moves__64, X9_moves__66, X9_moves__67, X9_moves__68, X9_moves__69, X9_moves__72, X9_moves__75, X9_moves__78, iOb_some, iClr_i, iClr_r, iClr_n, iClr_u, iClr_l, rf_s, rf_n, iB_0, iSum_nil, mg25, mg26, hG.1, if_neg (nI_ge (show i < n by omega) (show n < 2 ^ 31 by omega)), i7, ml26 (show 7 * i < 1400 by omega), hg, if_neg c, nI_1]
      exact r
theorem m9_moves (hR : mRel s W) (hW : wOk W) (v z : Int32) : ∃ r h1, iEv mX9_moves_ [.ref x, .int v, .int z] (mH b x s) r h1 ∧ m9P b x (aMoves W v z) r h1 := by
  refine I9_moves_ ?_
  unfold aMoves
  rcases m9_dcases (b := b) (x := x) hR hW v z with ⟨et, ea⟩ | ⟨et, eu, ea⟩ | ⟨et, eu, ⟨ek, ea⟩ | ⟨ek, X, s', ea, g1, g2, g3, g4⟩⟩
  · rw [ea]
    simp only [X9_moves__0, X9_moves__1, X9_moves__2 et mH_obj, X9_moves__5, X9_moves__8, X9_moves__9, X9_moves__13, X9_moves__16, X9_moves__17, X9_moves__18 (ev9_noV (v := -1) (r := 1) (by decide) rfl) mH_obj, X9_moves__21, iOb_some, iClr_i, iClr_r, iClr_n, iClr_u, iClr_l, rf_s, rf_n, iB_0, iSum_nil, if_true]
    exact m9_rf hR (by decide)
  · rw [ea]
    simp only [X9_moves__0, X9_moves__1, X9_moves__2 et mH_obj, X9_moves__5, X9_moves__8, X9_moves__9, X9_moves__10 eu mH_obj, X9_moves__13, X9_moves__16, X9_moves__17, X9_moves__18 (ev9_noV (v := -1) (r := 1) (by decide) rfl) mH_obj, X9_moves__21, iOb_some, iClr_i, iClr_r, iClr_n, iClr_u, iClr_l, rf_s, rf_n, iB_0, iSum_nil, if_true, if_neg (by decide : ¬ (1 : Int32) = 0)]
    exact m9_rf hR (by decide)
  · rw [ea]
    simp only [X9_moves__0, X9_moves__1, X9_moves__2 et mH_obj, X9_moves__5, X9_moves__8, X9_moves__9, X9_moves__10 eu mH_obj, X9_moves__13, X9_moves__16, X9_moves__17, X9_moves__21, X9_moves__22, X9_moves__23, X9_moves__24, X9_moves__25 ek mH_obj, X9_moves__28, X9_moves__31, X9_moves__32, X9_moves__34 (ev9_noV (v := -6) (r := 6) (by decide) rfl) mH_obj, X9_moves__37, iOb_some, iClr_i, iClr_r, iClr_n, iClr_u, iClr_l, rf_s, rf_n, iB_0, iSum_nil, if_true, if_neg (by decide : ¬ (1 : Int32) = 0)]
    exact m9_rf hR (by decide)
  · rw [ea]
    simp only [X9_moves__0, X9_moves__1, X9_moves__2 et mH_obj, X9_moves__5, X9_moves__8, X9_moves__9, X9_moves__10 eu mH_obj, X9_moves__13, X9_moves__16, X9_moves__17, X9_moves__21, X9_moves__22, X9_moves__23, X9_moves__24, X9_moves__25 ek mH_obj, X9_moves__28, X9_moves__31, X9_moves__32, X9_moves__37, X9_moves__38, X9_moves__39, X9_moves__40, X9_moves__41 g1 mH_obj, X9_moves__44, X9_moves__45, X9_moves__46, X9_moves__47, iOb_some, iClr_i, iClr_r, iClr_n, iClr_u, iClr_l, rf_s, rf_n, iB_0, iSum_nil, if_true, if_neg (by decide : ¬ (1 : Int32) = 0)]
    exact (cnt9_loop (Q := m9P b x (nI (cntE X.2.2 3 X.2.1), W)) g3 g4 X.2.1 0 (Nat.zero_add _) g3).mpr ⟨rfl, s', rfl, hR.ex g2⟩
end DIFFERS9

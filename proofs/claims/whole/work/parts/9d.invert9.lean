/-! invert, behind: the reference -/
section INVERT9
variable {h : iHp} {i j k l x m a c p q r n n0 : Nat} {W : wW} {G G0 : Nat → Nat → Int32} {so sr : Int32} {e : Nat → Int32} {b : iHp} {s s0 s1 s' : mS} {w : sT} {Z Y : pP}
theorem inAt.raw (hin : inAt b x s r a e) {j : Nat} (hj : j < 7) : iLdI (mH b x s) r (nI (a + j)) = some (e j) := by
  obtain ⟨n, hn⟩ := i_any (s.1 18)
  have := hin n (s.2.1 19) (s.2.1 20) (s.2.1 21) (s.2.1 22) (s.2.1 23) (s.2.1 24) j hj
  rwa [wS_self hn] at this
theorem ev9_turns (hin : inAt b x s r a e) (he : e 0 = 0 ∨ e 0 = 1 ∨ e 0 = 2 ∨ e 0 = 3) (hM : mMd s n G) (hn : n < 199) : ∃ s', iEv mX9_turns [.ref x, .ref r, .int (nI a)] (mH b x s) none (mH b x s') ∧ mMd s' (n + 1) (va_up G n (eTurn e)) ∧ sEx [25, 26] s s' := by
  obtain ⟨s', k1, k2, k3⟩ := ev9_makes (b := b) (x := x) hM hn (eTurn e)
  refine ⟨s', ?_, k2, k3⟩
  have g0 : iLdI (mH b x s) r (nI a) = some (e 0) := hin.raw (j := 0) (by decide)
  have g1 : iLdI (mH b x s) r (nI a + 1) = some (e 1) := by rw [show nI a + 1 = nI (a + 1) from nI_1 a]; exact hin.raw (by decide)
  have g2 : iLdI (mH b x s) r (nI a + 2) = some (e 2) := by rw [show nI a + 2 = nI (a + 2) from nI_add a 2]; exact hin.raw (by decide)
  have g3 : iLdI (mH b x s) r (nI a + 3) = some (e 3) := by rw [show nI a + 3 = nI (a + 3) from nI_add a 3]; exact hin.raw (by decide)
  have g4 : iLdI (mH b x s) r (nI a + 4) = some (e 4) := by rw [show nI a + 4 = nI (a + 4) from nI_add a 4]; exact hin.raw (by decide)
  have g5 : iLdI (mH b x s) r (nI a + 5) = some (e 5) := by rw [show nI a + 5 = nI (a + 5) from nI_add a 5]; exact hin.raw (by decide)
  have g6 : iLdI (mH b x s) r (nI a + 6) = some (e 6) := by rw [show nI a + 6 = nI (a + 6) from nI_add a 6]; exact hin.raw (by decide)
  refine J9_turns (cat_r r) ?_
  unfold eTurn at k1
  rcases he with c | c | c | c
  · rw [if_pos c] at k1
    have k1 : iEv mX9_makes [.ref x, .int 0, .int (e 1), .int (e 3), .int (e 2), .int 0, .int 0, .int 0] (mH b x s) none (mH b x s') := k1
    simp only [X9_turns_0, X9_turns_0n, X9_turns_1, X9_turns_2, X9_turns_3_0, X9_turns_3_3, X9_turns_28, X9_turns_29, X9_turns_30, X9_turns_30n, X9_turns_31, X9_turns_32, X9_turns_33, X9_turns_34, X9_turns_35, X9_turns_35n, X9_turns_36, X9_turns_37, X9_turns_38, X9_turns_39, X9_turns_40, X9_turns_40n, X9_turns_41, X9_turns_42, X9_turns_43, X9_turns_44, X9_turns_45, X9_turns_46, X9_turns_47, X9_turns_48 k1 mH_obj, X9_turns_51, X9_turns_54, X9_turns_55, X9_turns_56, X9_turns_56n, X9_turns_57, X9_turns_58, X9_turns_59, X9_turns_60, X9_turns_61, X9_turns_62, X9_turns_62n, X9_turns_63, X9_turns_64, X9_turns_65, X9_turns_66, X9_turns_67, X9_turns_67n, X9_turns_68, X9_turns_69, X9_turns_71, X9_turns_72, X9_turns_73, X9_turns_73n, X9_turns_74, X9_turns_75, X9_turns_76, X9_turns_77, X9_turns_78, X9_turns_78n, X9_turns_79, X9_turns_80, X9_turns_81, X9_turns_82, X9_turns_86, X9_turns_89, X9_turns_90, X9_turns_90n, X9_turns_91, X9_turns_92, X9_turns_93, X9_turns_94, X9_turns_97, X9_turns_98, X9_turns_101, X9_turns_102, X9_turns_102n, X9_turns_103, X9_turns_104, X9_turns_105, X9_turns_106, X9_turns_107, X9_turns_107n, X9_turns_108, X9_turns_109, X9_turns_110, X9_turns_111, X9_turns_112, X9_turns_112n, X9_turns_113, X9_turns_114, X9_turns_115, X9_turns_116, X9_turns_117, X9_turns_117n, X9_turns_118, X9_turns_119, X9_turns_120, X9_turns_121, X9_turns_122, X9_turns_123, X9_turns_127, iOb_some, iClr_i, iClr_r, iClr_n, iClr_u, iClr_l, rf_s, rf_n, iB_0, iSum_nil, g0, c, g1, g2, g3, and_self]
  · rw [if_neg (by rw [c]; decide), if_pos c] at k1
    have k1 : iEv mX9_makes [.ref x, .int 2, .int (e 1), .int (e 2), .int (e 3), .int (e 4), .int 0, .int 0] (mH b x s) none (mH b x s') := k1
    simp only [X9_turns_0, X9_turns_0n, X9_turns_1, X9_turns_2, iOb_some, iClr_i, iClr_r, iClr_n, iClr_u, iClr_l, rf_s, rf_n, iB_0, iSum_nil, g0]
    rw [c] at g0 ⊢
    rw [X9_turns_3_d (by decide)]
    simp only [X9_turns_89, X9_turns_90, X9_turns_90n, X9_turns_91, X9_turns_92, X9_turns_93, X9_turns_94, X9_turns_97, X9_turns_98, X9_turns_101, X9_turns_102, X9_turns_102n, X9_turns_103, X9_turns_104, X9_turns_105, X9_turns_106, X9_turns_107, X9_turns_107n, X9_turns_108, X9_turns_109, X9_turns_110, X9_turns_111, X9_turns_112, X9_turns_112n, X9_turns_113, X9_turns_114, X9_turns_115, X9_turns_116, X9_turns_117, X9_turns_117n, X9_turns_118, X9_turns_119, X9_turns_120, X9_turns_121, X9_turns_122, X9_turns_123, X9_turns_124 k1 mH_obj, X9_turns_127, iOb_some, iClr_i, iClr_r, iClr_n, iClr_u, iClr_l, rf_s, rf_n, iB_0, iSum_nil, g0, g1, g2, g3, g4, if_true, and_self]
  · rw [if_neg (by rw [c]; decide), if_neg (by rw [c]; decide), if_pos c] at k1
    have k1 : iEv mX9_makes [.ref x, .int 1, .int (e 1), .int (e 2), .int (e 3), .int (e 4), .int 0, .int 0] (mH b x s) none (mH b x s') := k1
    simp only [X9_turns_0, X9_turns_0n, X9_turns_1, X9_turns_2, iOb_some, iClr_i, iClr_r, iClr_n, iClr_u, iClr_l, rf_s, rf_n, iB_0, iSum_nil, g0]
    rw [c] at g0 ⊢
    rw [X9_turns_3_d (by decide)]
    simp only [X9_turns_89, X9_turns_90, X9_turns_90n, X9_turns_91, X9_turns_92, X9_turns_93, X9_turns_94, X9_turns_97, X9_turns_98, X9_turns_101, X9_turns_102, X9_turns_102n, X9_turns_103, X9_turns_104, X9_turns_105, X9_turns_106, X9_turns_107, X9_turns_107n, X9_turns_108, X9_turns_109, X9_turns_110, X9_turns_111, X9_turns_112, X9_turns_112n, X9_turns_113, X9_turns_114, X9_turns_115, X9_turns_116, X9_turns_117, X9_turns_117n, X9_turns_118, X9_turns_119, X9_turns_120, X9_turns_121, X9_turns_122, X9_turns_123, X9_turns_124 k1 mH_obj, X9_turns_127, iOb_some, iClr_i, iClr_r, iClr_n, iClr_u, iClr_l, rf_s, rf_n, iB_0, iSum_nil, g0, g1, g2, g3, g4, if_neg (show ¬ (2 : Int32) = 1 by decide), and_self]
  · rw [if_neg (by rw [c]; decide), if_neg (by rw [c]; decide), if_neg (by rw [c]; decide)] at k1
    have k1 : iEv mX9_makes [.ref x, .int 3, .int (e 1), .int 0, .int (e 5), .int (e 6), .int (e 3), .int (e 4)] (mH b x s) none (mH b x s') := k1
    simp only [X9_turns_0, X9_turns_0n, X9_turns_1, X9_turns_2, X9_turns_3_0, X9_turns_3_3, X9_turns_28, X9_turns_29, X9_turns_30, X9_turns_30n, X9_turns_31, X9_turns_32, X9_turns_33, X9_turns_34, X9_turns_35, X9_turns_35n, X9_turns_36, X9_turns_37, X9_turns_38, X9_turns_39, X9_turns_40, X9_turns_40n, X9_turns_41, X9_turns_42, X9_turns_43, X9_turns_44, X9_turns_45, X9_turns_46, X9_turns_47, X9_turns_51, X9_turns_54, X9_turns_55, X9_turns_56, X9_turns_56n, X9_turns_57, X9_turns_58, X9_turns_59, X9_turns_60, X9_turns_61, X9_turns_62, X9_turns_62n, X9_turns_63, X9_turns_64, X9_turns_65, X9_turns_66, X9_turns_67, X9_turns_67n, X9_turns_68, X9_turns_69, X9_turns_71, X9_turns_72, X9_turns_73, X9_turns_73n, X9_turns_74, X9_turns_75, X9_turns_76, X9_turns_77, X9_turns_78, X9_turns_78n, X9_turns_79, X9_turns_80, X9_turns_81, X9_turns_82, X9_turns_83 k1 mH_obj, X9_turns_86, X9_turns_89, X9_turns_90, X9_turns_90n, X9_turns_91, X9_turns_92, X9_turns_93, X9_turns_94, X9_turns_97, X9_turns_98, X9_turns_101, X9_turns_102, X9_turns_102n, X9_turns_103, X9_turns_104, X9_turns_105, X9_turns_106, X9_turns_107, X9_turns_107n, X9_turns_108, X9_turns_109, X9_turns_110, X9_turns_111, X9_turns_112, X9_turns_112n, X9_turns_113, X9_turns_114, X9_turns_115, X9_turns_116, X9_turns_117, X9_turns_117n, X9_turns_118, X9_turns_119, X9_turns_120, X9_turns_121, X9_turns_122, X9_turns_123, X9_turns_127, iOb_some, iClr_i, iClr_r, iClr_n, iClr_u, iClr_l, rf_s, rf_n, iB_0, iSum_nil, g0, c, g1, g3, g4, g5, g6, and_self]
theorem mPt.ex {L : List Nat} (h : mPt (s.2.1 7) (s.2.1 8) (s.2.1 9) p Z) (hx : sEx L s s') (h7 : 7 ∉ L) (h8 : 8 ∉ L) (h9 : 9 ∉ L) : mPt (s'.2.1 7) (s'.2.1 8) (s'.2.1 9) p Z := by
  rw [hx.2.1 7 h7, hx.2.1 8 h8, hx.2.1 9 h9]
  exact h
theorem invert9_loop (hp : p < 16) (hZ : mPt (s0.2.1 7) (s0.2.1 8) (s0.2.1 9) p Z) (h12 : Z.1 ≤ 120) (he : ∀ i, i < Z.1 → eOk (Z.2.2.2.2.2.1 i)) {Q : Option Value → iHp → Prop} (hQ : ∀ s1, sEx [25, 26] s0 s1 → mMd s1 Z.1 (fun i => eTurn (Z.2.2.2.2.2.1 (Z.1 - 1 - i))) → iWp 3 mX9_invert 56 [.ref x, .int (nI p), .int (dI 0)] [] (mH b x s1) Q) : ∀ r s1, r ≤ Z.1 → sEx [25, 26] s0 s1 → mMd s1 (Z.1 - r) (fun i => eTurn (Z.2.2.2.2.2.1 (Z.1 - 1 - i))) → iWp 3 mX9_invert 28 [.ref x, .int (nI p), .int (dI r)] [] (mH b x s1) Q := by
  intro r
  induction r with
  | zero =>
    intro s1 hr hx hM
    rw [X9_invert_28]
    simp only [X9_invert_29, iOb_some, iClr_i, iClr_r, iClr_n, iClr_u, iClr_l, rf_s, rf_n, iB_0, iSum_nil, dI_0, if_pos (show (-1 : Int32) < 0 by decide)]
    exact hQ s1 hx hM
  | succ r ih =>
    intro s1 hr hx hM
    have hin := inAt_edits (b := b) (x := x) (s := s1) (i := r) hp (hZ.ex hx (by decide) (by decide) (by decide)) (by omega) h12
    obtain ⟨s2, t1, t2, t3⟩ := ev9_turns hin (he r (by omega)).2.1 hM (by omega)
    rw [X9_invert_28]
    simp only [X9_invert_29, X9_invert_32, X9_invert_33, X9_invert_34, X9_invert_37, X9_invert_40, X9_invert_41, X9_invert_42, X9_invert_44, X9_invert_45, X9_invert_46, X9_invert_47 t1 mH_obj (cat_r (x + 6)), X9_invert_50, X9_invert_53, iOb_some, iClr_i, iClr_r, iClr_n, iClr_u, iClr_l, rf_s, rf_n, iB_0, iSum_nil, dI_c, if_neg (nI_pos (show r < 2 ^ 31 by omega)), mg8, i7, i840, dI_m]
    refine ih s2 (by omega) (hx.trans t3) ⟨?_, fun i k hi hk => ?_⟩
    · rw [t2.1]
      exact congrArg nI (by omega)
    · rw [t2.2 i k (by omega) hk]
      unfold va_up
      by_cases ci : i = Z.1 - (r + 1)
      · rw [if_pos ci]
        dsimp only
        rw [show Z.1 - 1 - i = r by omega]
      · rw [if_neg ci]
theorem m9_invert (hR : mRel s W) (hW : wOk W) (v : Int32) : ∃ r h1, iEv mX9_invert [.ref x, .int v] (mH b x s) r h1 ∧ m9P b x (aInvert W v) r h1 := by
  refine I9_invert ?_
  unfold aInvert
  have hn : W.1.2.2.1 < 2 ^ 31 := by have := hW.1.2.1; omega
  have et := ev9_isPatch (b := b) (x := x) hR.1 hW.1.2.1 (t := v)
  rcases iIx_cases v hn with ⟨e, z⟩ | ⟨j, hj, rfl, e⟩
  · rw [e] at et ⊢
    simp only [X9_invert_0, X9_invert_1, X9_invert_2 et mH_obj, X9_invert_5, X9_invert_8, X9_invert_9, X9_invert_10 (ev9_noV (v := -1) (r := 1) (by decide) rfl) mH_obj, X9_invert_13, iOb_some, iClr_i, iClr_r, iClr_n, iClr_u, iClr_l, rf_s, rf_n, iB_0, iSum_nil, Option.isSome_none, if_true]
    exact m9_rf hR (by decide)
  · rw [e] at et ⊢
    dsimp only
    have hj16 : j < 16 := by have := hW.1.2.1; omega
    have hO := hW.1.2.2.2 j hj
    have hZ := hR.1.2.2.2.2 j hj
    generalize hZZ : W.1.2.2.2.1 j = Z at hO hZ ⊢
    have eo := ev9_of0 (b := b) (x := x) (s := mSet s 25 0) hj16
    have eo : iEv mX9_of [.ref x, .int 0, .int (nI j)] (mH b x (mSet s 25 0)) (some (.int (nI Z.1))) (mH b x (mSet s 25 0)) := by
      rw [← hZ.1]
      exact eo
    simp only [X9_invert_0, X9_invert_1, X9_invert_2 et mH_obj, X9_invert_5, X9_invert_8, X9_invert_9, X9_invert_13, X9_invert_14, X9_invert_15, X9_invert_16, X9_invert_19, X9_invert_20, X9_invert_21, X9_invert_22 eo mH_obj, X9_invert_25, X9_invert_26, X9_invert_27, iOb_some, iClr_i, iClr_r, iClr_n, iClr_u, iClr_l, rf_s, rf_n, iB_0, iSum_nil, Option.isSome_some, Bool.true_eq_false, if_false, mp25, dI_s]
    have x0 : sEx LX s (mSet s 25 0) := mSet_ex (by decide)
    refine invert9_loop (s0 := mSet s 25 0) (Z := Z) hj16 hZ hO.1 hO.2.2.1 (fun s1 y1 y2 => ?_) Z.1 _ (Nat.le_refl _) sEx.refl ?_
    · obtain ⟨h4, k4, s4, rfl, k5⟩ := ev9_newPatch (b := b) (x := x) (c := 0) (C := fun _ => 0) (so := 2) (sr := nI j) (hR.ex (x0.trans (y1.mono LMX))) hW y2 (by have := hO.1; omega) (by omega) (fun z => absurd z (by decide)) (fun _ => rfl)
      simp only [X9_invert_56, X9_invert_57, X9_invert_58, X9_invert_59 k4 mH_obj, X9_invert_62, iOb_some, iClr_i, iClr_r, iClr_n, iClr_u, iClr_l, rf_s, rf_n, iB_0, iSum_nil]
      exact ⟨rfl, s4, rfl, k5⟩
    · rw [Nat.sub_self]
      exact mMd_0
-- behind
def aInv (s0 s1 : mS) (base p r : Nat) : Prop := sEx [26] s0 s1 ∧ (∀ q, ¬ (base ≤ q ∧ q < base + r) → s1.2.1 26 q = s0.2.1 26 q) ∧ ∀ j, j < r → s1.2.1 26 (base + j) = s0.2.1 8 (840 * p + j)
theorem all9_loop (hp : p < 16) (hn : s0.2.1 7 p = nI n) (hm : s0.1 25 = nI m) (h14 : 7 * (m + n) ≤ 1400) (hn12 : n ≤ 120) {Q : Option Value → iHp → Prop} (hQ : ∀ s1, aInv s0 s1 (7 * m) p (7 * n) → Q none (mH b x (mSet s1 25 (nI (m + n))))) : ∀ k r s1, r + k = 7 * n → aInv s0 s1 (7 * m) p r → iWp 2 mX9_all 2 [.ref x, .int (nI p), .int (nI r)] [] (mH b x s1) Q := by
  intro k
  induction k with
  | zero =>
    intro r s1 hr hI
    obtain rfl : r = 7 * n := by omega
    have eo := ev9_of0 (b := b) (x := x) (s := s1) hp
    rw [(congrFun (hI.1.2.1 7 (by decide)) p).trans hn] at eo
    have em : s1.1 25 = nI m := (hI.1.1 25 (by decide)).trans hm
    rw [X9_all_2]
    simp only [X9_all_3, X9_all_5, X9_all_6, X9_all_7, X9_all_8 eo mH_obj, X9_all_11, X9_all_12, X9_all_15, X9_all_16, X9_all_19, X9_all_21, X9_all_22, X9_all_25, X9_all_26, X9_all_27, X9_all_28, X9_all_29, X9_all_30, X9_all_34, X9_all_35, X9_all_38, X9_all_41, X9_all_42, X9_all_43, X9_all_46, X9_all_47, X9_all_48, X9_all_49 eo mH_obj, X9_all_52, X9_all_53, X9_all_56, iOb_some, iClr_i, iClr_r, iClr_n, iClr_u, iClr_l, rf_s, rf_n, iB_0, iSum_nil, i7, if_pos (Int32.le_refl (nI (7 * n))), mg25, em, nI_add, mp25]
    exact hQ s1 hI
  | succ k ih =>
    intro r s1 hr hI
    have eo := ev9_of0 (b := b) (x := x) (s := s1) hp
    rw [(congrFun (hI.1.2.1 7 (by decide)) p).trans hn] at eo
    have em : s1.1 25 = nI m := (hI.1.1 25 (by decide)).trans hm
    have ee := ev9_edit (b := b) (x := x) (s := s1) hp (show r < 840 by omega)
    have e8 : s1.2.1 8 (840 * p + r) = s0.2.1 8 (840 * p + r) := congrFun (hI.1.2.1 8 (by decide)) _
    rw [e8] at ee
    rw [X9_all_2]
    simp only [X9_all_3, X9_all_5, X9_all_6, X9_all_7, X9_all_8 eo mH_obj, X9_all_11, X9_all_12, X9_all_15, X9_all_16, X9_all_19, X9_all_21, X9_all_22, X9_all_25, X9_all_26, X9_all_27, X9_all_28, X9_all_29, X9_all_30, X9_all_31 ee mH_obj, X9_all_34, X9_all_35, X9_all_38, iOb_some, iClr_i, iClr_r, iClr_n, iClr_u, iClr_l, rf_s, rf_n, iB_0, iSum_nil, i7, if_neg (nI_ge (show r < 7 * n by omega) (show 7 * n < 2 ^ 31 by omega)), mg26, mg25, em, nI_add, ms26 (show 7 * m + r < 1400 by omega), nI_1]
    refine ih (r + 1) _ (by omega) ⟨hI.1.trans (mPut_ex (by decide)), fun q hq => ?_, fun j hj => ?_⟩
    · rw [mPut_at, if_pos rfl, if_neg (by omega)]
      exact hI.2.1 q (by omega)
    · rw [mPut_at, if_pos rfl]
      by_cases cj : j = r
      · rw [if_pos (by omega), cj]
      · rw [if_neg (by omega)]
        exact hI.2.2 j (by omega)
theorem ev9_all (hp : p < 16) (hZ : mPt (s.2.1 7) (s.2.1 8) (s.2.1 9) p Z) (h12 : Z.1 ≤ 120) (hM : mMd s n G) (h14 : 7 * (n + Z.1) ≤ 1400) : ∃ s', iEv mX9_all [.ref x, .int (nI p)] (mH b x s) none (mH b x s') ∧ mMd s' (n + Z.1) (gApp G n Z.2.2.2.2.2.1) ∧ sEx [25, 26] s s' := by
  have z : iWp 2 mX9_all 0 [.ref x, .int (nI p), iU] [] (mH b x s) (fun r h1 => r = none ∧ ∃ s', h1 = mH b x s' ∧ mMd s' (n + Z.1) (gApp G n Z.2.2.2.2.2.1) ∧ sEx [25, 26] s s') := by
    simp only [X9_all_0, X9_all_1, iOb_some, iClr_i, iClr_r, iClr_n, iClr_u, iClr_l, rf_s, rf_n, iB_0, iSum_nil]
    refine all9_loop (s0 := s) (n := Z.1) (m := n) hp hZ.1 hM.1 h14 h12 (fun s1 hI => ?_) (7 * Z.1) 0 s (by omega) ⟨sEx.refl, fun _ _ => rfl, fun j hj => by omega⟩
    refine ⟨rfl, _, rfl, ⟨rfl, fun i k hi hk => ?_⟩, (hI.1.mono (by decide)).trans (mSet_ex (by decide))⟩
    show s1.2.1 26 (7 * i + k) = gApp G n Z.2.2.2.2.2.1 i k
    unfold gApp
    by_cases c : i < n
    · rw [if_pos c, hI.2.1 _ (by omega)]
      exact hM.2 i k c hk
    · rw [if_neg c, show 7 * i + k = 7 * n + (7 * (i - n) + k) by omega, hI.2.2 _ (by omega)]
      exact hZ.2.2.2.2.2.1 (i - n) k (by omega) hk
  obtain ⟨r, h1, ev, rfl, s', rfl, g⟩ := I9_all z
  exact ⟨s', ev, g⟩
theorem m9_behind (hR : mRel s W) (hW : wOk W) (v u : Int32) : ∃ r h1, iEv mX9_behind [.ref x, .int v, .int u] (mH b x s) r h1 ∧ m9P b x (aBehind W v u) r h1 := by
  refine I9_behind ?_
  unfold aBehind
  have hn : W.1.2.2.1 < 2 ^ 31 := by have := hW.1.2.1; omega
  have et := ev9_isPatch (b := b) (x := x) hR.1 hW.1.2.1 (t := v)
  have eu := ev9_isPatch (b := b) (x := x) hR.1 hW.1.2.1 (t := u)
  rcases iIx_cases v hn with ⟨e, z⟩ | ⟨i, hi, rfl, e⟩
  · rw [e] at et ⊢
    simp only [X9_behind_0, X9_behind_1, X9_behind_2 et mH_obj, X9_behind_5, X9_behind_8, X9_behind_9, X9_behind_13, X9_behind_16, X9_behind_17, X9_behind_18 (ev9_noV (v := -1) (r := 1) (by decide) rfl) mH_obj, X9_behind_21, iOb_some, iClr_i, iClr_r, iClr_n, iClr_u, iClr_l, rf_s, rf_n, iB_0, iSum_nil, Option.isSome_none, if_true]
    exact m9_rf hR (by decide)
  · rw [e] at et ⊢
    rcases iIx_cases u hn with ⟨f, y⟩ | ⟨j, hj, rfl, f⟩
    · rw [f] at eu ⊢
      simp only [X9_behind_0, X9_behind_1, X9_behind_2 et mH_obj, X9_behind_5, X9_behind_8, X9_behind_9, X9_behind_10 eu mH_obj, X9_behind_13, X9_behind_16, X9_behind_17, X9_behind_18 (ev9_noV (v := -1) (r := 1) (by decide) rfl) mH_obj, X9_behind_21, iOb_some, iClr_i, iClr_r, iClr_n, iClr_u, iClr_l, rf_s, rf_n, iB_0, iSum_nil, Option.isSome_none, Option.isSome_some, Bool.true_eq_false, if_false, if_true]
      exact m9_rf hR (by decide)
    · rw [f] at eu ⊢
      dsimp only
      have hi16 : i < 16 := by have := hW.1.2.1; omega
      have hj16 : j < 16 := by have := hW.1.2.1; omega
      have hO := hW.1.2.2.2 i hi
      have hO' := hW.1.2.2.2 j hj
      have hZ := hR.1.2.2.2.2 i hi
      have hZ' := hR.1.2.2.2.2 j hj
      generalize W.1.2.2.2.1 i = Z at hO hZ ⊢
      generalize W.1.2.2.2.1 j = Y at hO' hZ' ⊢
      have h12 := hO.1
      have h12' := hO'.1
      have x0 : sEx LX s (mSet s 25 0) := mSet_ex (by decide)
      obtain ⟨s1, a1, a2, a3⟩ := ev9_all (b := b) (x := x) (s := mSet s 25 0) hi16 hZ h12 (mMd_0 (G := fun _ _ => 0)) (by omega)
      have x1 : sEx LX s s1 := x0.trans (a3.mono LMX)
      have eo1 := ev9_of0 (b := b) (x := x) (s := s1) hi16
      rw [(congrFun (x1.2.1 7 (by decide)) i).trans hZ.1] at eo1
      have eo2 := ev9_of0 (b := b) (x := x) (s := s1) hj16
      rw [(congrFun (x1.2.1 7 (by decide)) j).trans hZ'.1] at eo2
      simp only [X9_behind_0, X9_behind_1, X9_behind_2 et mH_obj, X9_behind_5, X9_behind_8, X9_behind_9, X9_behind_10 eu mH_obj, X9_behind_13, X9_behind_16, X9_behind_17, X9_behind_21, X9_behind_22, X9_behind_23, X9_behind_24, X9_behind_27, X9_behind_28, X9_behind_29 a1 mH_obj, X9_behind_32, X9_behind_33, X9_behind_34, X9_behind_35 eo1 mH_obj, X9_behind_38, X9_behind_39, X9_behind_40, X9_behind_41 eo2 mH_obj, X9_behind_44, iOb_some, iClr_i, iClr_r, iClr_n, iClr_u, iClr_l, rf_s, rf_n, iB_0, iSum_nil, Option.isSome_some, Bool.true_eq_false, if_false, mp25, nI_add]
      by_cases c : 120 < Z.1 + Y.1
      · have : aNew W (Z.1 + Y.1) 0 0 (-1) (gApp Z.2.2.2.2.2.1 Z.1 Y.2.2.2.2.2.1) (fun _ => 0) = (-7, wRef W 7) := if_pos (Or.inl c)
        rw [this]
        simp only [X9_behind_45, X9_behind_47, X9_behind_50, X9_behind_51, X9_behind_53 (ev9_noV (v := -7) (r := 7) (by decide) rfl) mH_obj, X9_behind_56, iOb_some, iClr_i, iClr_r, iClr_n, iClr_u, iClr_l, rf_s, rf_n, iB_0, iSum_nil, if_neg (show ¬ nI (Z.1 + Y.1) ≤ 120 from nI_ge (a := 120) (b := Z.1 + Y.1) c (by omega))]
        exact m9_rf (hR.ex x1) (by decide)
      · rw [Nat.zero_add] at a2
        obtain ⟨s2, b1, b2, b3⟩ := ev9_all (b := b) (x := x) (s := s1) hj16 (hZ'.ex x1 (by decide) (by decide) (by decide)) h12' a2 (by omega)
        have x2 : sEx LX s s2 := x1.trans (b3.mono LMX)
        have b2' : mMd s2 (Z.1 + Y.1) (gApp Z.2.2.2.2.2.1 Z.1 Y.2.2.2.2.2.1) := ⟨b2.1, fun q k hq hk => by
          rw [b2.2 q k hq hk]
          unfold gApp
          split
          · rw [if_neg (by omega), Nat.sub_zero]
          · rfl⟩
        obtain ⟨h4, k4, s4, rfl, k5⟩ := ev9_newPatch (b := b) (x := x) (c := 0) (C := fun _ => 0) (so := 0) (sr := -1) (hR.ex x2) hW b2' (by omega) (by omega) (fun z => absurd z (by decide)) (fun _ => rfl)
        simp only [X9_behind_45, X9_behind_47, X9_behind_50, X9_behind_51, X9_behind_56, X9_behind_57, X9_behind_58, X9_behind_59 b1 mH_obj, X9_behind_62, X9_behind_63, X9_behind_64, X9_behind_65 k4 mH_obj, X9_behind_68, iOb_some, iClr_i, iClr_r, iClr_n, iClr_u, iClr_l, rf_s, rf_n, iB_0, iSum_nil, if_pos (show nI (Z.1 + Y.1) ≤ 120 from nI_le (a := Z.1 + Y.1) (b := 120) (by omega) (by decide))]
        exact ⟨rfl, s4, rfl, k5⟩
end INVERT9

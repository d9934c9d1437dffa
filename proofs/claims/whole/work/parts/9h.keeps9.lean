/-! rebase: the reference -/
section KEEPS9
variable {h : iHp} {i j k l x m a c p q r t n : Nat} {W : wW} {G H : Nat → Nat → Int32} {e f : Nat → Int32} {b : iHp} {s s0 s1 s' : mS} {Z : pP} {U V T : tT} {K B D C : Nat → Int32} {d : Nat → Nat}
abbrev LG : List Nat := [18, 19, 20, 21, 22, 23, 24, 25, 26]
theorem inAt.a1 (hin : inAt b x s r a e) : iLdI (mH b x s) r (nI a + 1) = some (e 1) := by rw [show nI a + 1 = nI (a + 1) from nI_1 a]; exact hin.raw (by decide)
theorem inAt.a2 (hin : inAt b x s r a e) : iLdI (mH b x s) r (nI a + 2) = some (e 2) := by rw [show nI a + 2 = nI (a + 2) from nI_add a 2]; exact hin.raw (by decide)
theorem inAt.a3 (hin : inAt b x s r a e) : iLdI (mH b x s) r (nI a + 3) = some (e 3) := by rw [show nI a + 3 = nI (a + 3) from nI_add a 3]; exact hin.raw (by decide)
theorem inAt.a4 (hin : inAt b x s r a e) : iLdI (mH b x s) r (nI a + 4) = some (e 4) := by rw [show nI a + 4 = nI (a + 4) from nI_add a 4]; exact hin.raw (by decide)
theorem inAt.a5 (hin : inAt b x s r a e) : iLdI (mH b x s) r (nI a + 5) = some (e 5) := by rw [show nI a + 5 = nI (a + 5) from nI_add a 5]; exact hin.raw (by decide)
theorem inAt.a6 (hin : inAt b x s r a e) : iLdI (mH b x s) r (nI a + 6) = some (e 6) := by rw [show nI a + 6 = nI (a + 6) from nI_add a 6]; exact hin.raw (by decide)
theorem inAt.a0 (hin : inAt b x s r a e) : iLdI (mH b x s) r (nI a) = some (e 0) := hin.raw (j := 0) (by decide)
/-- what keeps answers and leaves -/
def kpP (b : iHp) (x : Nat) (s : mS) (U : tT) (n : Nat) (H : Nat → Nat → Int32) (e : Nat → Int32) (r : Option Value) (h1 : iHp) : Prop := r = some (.int (rbW (fateT e U))) ∧ ∃ s' U', h1 = mH b x s' ∧ wIs s' U' ∧ sEx LG s s' ∧ ((fateT e U = 0 ∧ tEq U' (ePerf (oFit e U) U) ∧ mMd s' (n + 1) (va_up H n (oFit e U))) ∨ (fateT e U ≠ 0 ∧ U' = U ∧ s' = s))
theorem kp_no (hw : wIs s U) {v : Int32} (hf : fateT e U = v) (h0 : v ≠ 0) : kpP b x s U n H e (some (.int (rbW v))) (mH b x s) := ⟨by rw [hf], s, U, rfl, hw, sEx.refl, Or.inr ⟨by rw [hf]; exact h0, rfl, rfl⟩⟩
theorem kp_yes (hf : fateT e U = 0) (hU : tOk U) (he : eOk e) {U' : tT} (hw : wIs s' U') (hE : tEq U' (doT (oFit e U) U)) (hM : mMd s' (n + 1) (va_up H n (oFit e U))) (hx : sEx LG s s') : kpP b x s U n H e (some (.int 0)) (mH b x s') := by
  have := (oFit_ok hU he hf).2
  rw [doT_t this] at hE
  exact ⟨by rw [hf]; rfl, s', U', rfl, hw, hx, Or.inl ⟨hf, hE, hM⟩⟩
theorem ev9_keeps (hw : wIs s U) (hU : tOk U) (hM : mMd s n H) (hn : n < 199) (hin : inAt b x s (x + 6) a e) (he : eOk e) : ∃ r h1, iEv mX9_keeps [.ref x, .int (nI a)] (mH b x s) r h1 ∧ kpP b x s U n H e r h1 := by
  have goes := fun f => ev9_goes (b := b) (x := x) hw hU hM hn f
  have no := fun {v : Int32} => kp_no (b := b) (x := x) (n := n) (H := H) (e := e) (v := v) hw
  obtain ⟨n1, K, B, D⟩ := U
  obtain ⟨hK, d, hd, h5⟩ := id hU
  obtain ⟨w1, w2, w3, w4⟩ := id hw
  dsimp only at hK hd h5 w1 w2 w3 w4
  have h60 := hK.le
  have e5 := ev9_find (b := b) (x := x) w1 (by omega) (e 1)
  rw [w2] at e5
  obtain ⟨k1, k2, k3, k5, k4, k6, z0, z1, z3⟩ := id he
  refine I9_keeps ?_
  simp only [X9_keeps_0, X9_keeps_1, X9_keeps_4, X9_keeps_5, X9_keeps_6, X9_keeps_7, X9_keeps_8, X9_keeps_9, X9_keeps_10, X9_keeps_11 e5 mH_obj, X9_keeps_14, X9_keeps_15, X9_keeps_16, X9_keeps_19, X9_keeps_20, iOb_some, iClr_i, iClr_r, iClr_n, iClr_u, iClr_l, rf_s, rf_n, iB_0, iSum_nil, mg8, hin.a1, hin.a0]
  by_cases c0 : e 0 = 0
  · have hf : fateT e (n1, K, B, D) = oName e B (tWhere K n1 (e 1)) := if_pos c0
    rw [c0]
    cases hwh : tWhere K n1 (e 1) with
    | none =>
      rw [hwh] at hf
      simp only [X9_keeps_21_0, X9_keeps_21_1, X9_keeps_21_2, X9_keeps_48, X9_keeps_49, X9_keeps_50, X9_keeps_53, X9_keeps_54, iOb_some, iClr_i, iClr_r, iClr_n, iClr_u, iClr_l, rf_s, rf_n, iB_0, iSum_nil, oI_n, if_true]
      exact no (v := 1) hf (by decide)
    | some i =>
      rw [hwh] at hf
      have hi := (tWhere_lt hwh).1
      unfold oName at hf
      dsimp only at hf
      by_cases c1 : B i = e 3
      · rw [if_pos c1] at hf
        simp only [X9_keeps_21_0, X9_keeps_21_1, X9_keeps_21_2, X9_keeps_48, X9_keeps_49, X9_keeps_50, X9_keeps_53, X9_keeps_54, X9_keeps_55, X9_keeps_56, X9_keeps_59, X9_keeps_60, X9_keeps_61, X9_keeps_62, X9_keeps_65, X9_keeps_66, X9_keeps_67, X9_keeps_68, X9_keeps_69, X9_keeps_72, X9_keeps_73, iOb_some, iClr_i, iClr_r, iClr_n, iClr_u, iClr_l, rf_s, rf_n, iB_0, iSum_nil, oI_s, if_neg (oI_ne (show i < 2 ^ 31 by omega)), mg20, ml20 (show i < 66 by omega), w3, mg8, hin.a3, if_pos c1]
        exact no (v := -1) hf (by decide)
      · rw [if_neg c1] at hf
        by_cases c2 : B i = e 2
        · rw [if_pos c2] at hf
          have hof : oFit e (n1, K, B, D) = e := if_pos c0
          obtain ⟨s', U', g1, g2, g3, g4, g5⟩ := goes e
          rw [c0, (z0 c0).1, (z0 c0).2.1, (z0 c0).2.2] at g1
          simp only [X9_keeps_21_0, X9_keeps_21_1, X9_keeps_21_2, X9_keeps_48, X9_keeps_49, X9_keeps_50, X9_keeps_53, X9_keeps_54, X9_keeps_55, X9_keeps_56, X9_keeps_59, X9_keeps_60, X9_keeps_61, X9_keeps_62, X9_keeps_65, X9_keeps_66, X9_keeps_67, X9_keeps_68, X9_keeps_69, X9_keeps_72, X9_keeps_73, X9_keeps_74, X9_keeps_75, X9_keeps_78, X9_keeps_79, X9_keeps_80, X9_keeps_81, X9_keeps_84, X9_keeps_85, X9_keeps_86, X9_keeps_87, X9_keeps_88, X9_keeps_91, X9_keeps_92, X9_keeps_93, X9_keeps_94, X9_keeps_95, X9_keeps_96, X9_keeps_97, X9_keeps_100, X9_keeps_101, X9_keeps_102, X9_keeps_103, X9_keeps_104, X9_keeps_105, X9_keeps_108, X9_keeps_109, X9_keeps_110, X9_keeps_111, X9_keeps_112, X9_keeps_113, X9_keeps_114, X9_keeps_115 g1 mH_obj, X9_keeps_118, X9_keeps_119, iOb_some, iClr_i, iClr_r, iClr_n, iClr_u, iClr_l, rf_s, rf_n, iB_0, iSum_nil, oI_s, if_neg (oI_ne (show i < 2 ^ 31 by omega)), mg20, ml20 (show i < 66 by omega), w3, mg8, hin.a3, hin.a2, if_neg c1, if_pos c2]
          exact kp_yes (b := b) (x := x) hf hU he g2 (by rw [hof]; exact g3) (by rw [hof]; exact g4) g5
        · rw [if_neg c2] at hf
          simp only [X9_keeps_21_0, X9_keeps_21_1, X9_keeps_21_2, X9_keeps_48, X9_keeps_49, X9_keeps_50, X9_keeps_53, X9_keeps_54, X9_keeps_55, X9_keeps_56, X9_keeps_59, X9_keeps_60, X9_keeps_61, X9_keeps_62, X9_keeps_65, X9_keeps_66, X9_keeps_67, X9_keeps_68, X9_keeps_69, X9_keeps_72, X9_keeps_73, X9_keeps_74, X9_keeps_75, X9_keeps_78, X9_keeps_79, X9_keeps_80, X9_keeps_81, X9_keeps_84, X9_keeps_85, X9_keeps_86, X9_keeps_87, X9_keeps_88, X9_keeps_91, X9_keeps_92, iOb_some, iClr_i, iClr_r, iClr_n, iClr_u, iClr_l, rf_s, rf_n, iB_0, iSum_nil, oI_s, if_neg (oI_ne (show i < 2 ^ 31 by omega)), mg20, ml20 (show i < 66 by omega), w3, mg8, hin.a3, hin.a2, if_neg c1, if_neg c2]
          exact no (v := 2) hf (by decide)
  · by_cases c1 : e 0 = 1
    · have hf : fateT e (n1, K, B, D) = oTake e n1 B D (tWhere K n1 (e 1)) := (if_neg c0).trans (if_pos c1)
      rw [c1]
      cases hwh : tWhere K n1 (e 1) with
      | none =>
        rw [hwh] at hf
        simp only [X9_keeps_21_0, X9_keeps_21_1, X9_keeps_21_2, iOb_some, iClr_i, iClr_r, iClr_n, iClr_u, iClr_l, rf_s, rf_n, iB_0, iSum_nil]
        simp only [X9_keeps_120, X9_keeps_121, X9_keeps_122, X9_keeps_125, X9_keeps_126, iOb_some, iClr_i, iClr_r, iClr_n, iClr_u, iClr_l, rf_s, rf_n, iB_0, iSum_nil, oI_n, if_true]
        exact no (v := -1) hf (by decide)
      | some i =>
        rw [hwh] at hf
        have hi := (tWhere_lt hwh).1
        have hkl := tKids_le (D := D) (n := n1) (i := i)
        have ec := ev9_children (b := b) (x := x) w1 (by omega) hi
        rw [w4] at ec
        unfold oTake at hf
        dsimp only at hf
        by_cases c2 : i = 0 ∨ 0 < tKids D n1 i
        · rw [if_pos c2] at hf
          simp only [X9_keeps_21_0, X9_keeps_21_1, X9_keeps_21_2, iOb_some, iClr_i, iClr_r, iClr_n, iClr_u, iClr_l, rf_s, rf_n, iB_0, iSum_nil]
          by_cases c3 : i = 0
          · subst c3
            simp only [X9_keeps_120, X9_keeps_121, X9_keeps_122, X9_keeps_125, X9_keeps_126, X9_keeps_127, X9_keeps_128, X9_keeps_131, X9_keeps_132, X9_keeps_136, X9_keeps_139, X9_keeps_140, iOb_some, iClr_i, iClr_r, iClr_n, iClr_u, iClr_l, rf_s, rf_n, iB_0, iSum_nil, oI_s, if_neg (oI_ne (show 0 < 2 ^ 31 by decide)), if_pos (show nI 0 = 0 from rfl)]
            exact no (v := 3) hf (by decide)
          · simp only [X9_keeps_120, X9_keeps_121, X9_keeps_122, X9_keeps_125, X9_keeps_126, X9_keeps_127, X9_keeps_128, X9_keeps_131, X9_keeps_132, X9_keeps_133 ec mH_obj, X9_keeps_136, X9_keeps_139, X9_keeps_140, iOb_some, iClr_i, iClr_r, iClr_n, iClr_u, iClr_l, rf_s, rf_n, iB_0, iSum_nil, oI_s, if_neg (oI_ne (show i < 2 ^ 31 by omega)), if_neg (nI_ne0 (show 0 < i by omega) (show i < 2 ^ 31 by omega)), if_neg (nI_nle (c2.resolve_left c3) (show tKids D n1 i < 2 ^ 31 by omega))]
            exact no (v := 3) hf (by decide)
        · rw [if_neg c2] at hf
          have c3 : i ≠ 0 := fun z => c2 (Or.inl z)
          have c4 : tKids D n1 i = 0 := by omega
          rw [c4] at ec
          simp only [X9_keeps_21_0, X9_keeps_21_1, X9_keeps_21_2, iOb_some, iClr_i, iClr_r, iClr_n, iClr_u, iClr_l, rf_s, rf_n, iB_0, iSum_nil]
          simp only [X9_keeps_120, X9_keeps_121, X9_keeps_122, X9_keeps_125, X9_keeps_126, X9_keeps_127, X9_keeps_128, X9_keeps_131, X9_keeps_132, X9_keeps_133 ec mH_obj, X9_keeps_136, iOb_some, iClr_i, iClr_r, iClr_n, iClr_u, iClr_l, rf_s, rf_n, iB_0, iSum_nil, oI_s, if_neg (oI_ne (show i < 2 ^ 31 by omega)), if_neg (nI_ne0 (show 0 < i by omega) (show i < 2 ^ 31 by omega)), if_pos (show nI 0 ≤ 0 by decide)]
          by_cases c5 : B i = e 2
          · rw [if_pos c5] at hf
            have hof : oFit e (n1, K, B, D) = e7 1 (e 1) (e 2) (tPK K D i) (nI (tPlace D i)) 0 0 := by
              unfold oFit
              rw [if_neg c0, if_pos c1]
              dsimp only
              rw [hwh]
            obtain ⟨s', U', g1, g2, g3, g4, g5⟩ := goes (e7 1 (e 1) (e 2) (tPK K D i) (nI (tPlace D i)) 0 0)
            have g1 : iEv mX9_goes [.ref x, .int 1, .int (e 1), .int (e 2), .int (tPK K D i), .int (nI (tPlace D i)), .int 0, .int 0] (mH b x s) none (mH b x s') := g1
            rw [← c5] at g1
            have epk := ev9_parentKey (b := b) (x := x) (s := s) (n := n1) (by omega) hi (by rw [w4]; exact h5.par' hd hi)
            rw [w2, w4] at epk
            have epl := ev9_place (b := b) (x := x) (s := s) (n := n1) (by omega) hi
            rw [w4] at epl
            simp only [X9_keeps_141, X9_keeps_142, X9_keeps_145, X9_keeps_146, X9_keeps_147, X9_keeps_148, X9_keeps_151, X9_keeps_152, X9_keeps_153, X9_keeps_154, X9_keeps_155, X9_keeps_158, X9_keeps_159, X9_keeps_160, X9_keeps_161, X9_keeps_162, X9_keeps_163, X9_keeps_164, X9_keeps_167, X9_keeps_168, X9_keeps_169, X9_keeps_170, X9_keeps_171 epk mH_obj, X9_keeps_174, X9_keeps_175, X9_keeps_176 epl mH_obj, X9_keeps_179, X9_keeps_180, X9_keeps_181 g1 mH_obj, X9_keeps_184, X9_keeps_185, iOb_some, iClr_i, iClr_r, iClr_n, iClr_u, iClr_l, rf_s, rf_n, iB_0, iSum_nil, mg20, ml20 (show i < 66 by omega), w3, mg8, hin.a2, if_pos c5]
            exact kp_yes (b := b) (x := x) hf hU he g2 (by rw [hof]; exact g3) (by rw [hof]; exact g4) g5
          · rw [if_neg c5] at hf
            simp only [X9_keeps_141, X9_keeps_142, X9_keeps_145, X9_keeps_146, X9_keeps_147, X9_keeps_148, X9_keeps_151, X9_keeps_152, X9_keeps_153, X9_keeps_154, X9_keeps_155, X9_keeps_158, X9_keeps_159, iOb_some, iClr_i, iClr_r, iClr_n, iClr_u, iClr_l, rf_s, rf_n, iB_0, iSum_nil, mg20, ml20 (show i < 66 by omega), w3, mg8, hin.a2, if_neg c5]
            exact no (v := 2) hf (by decide)
    · by_cases c2 : e 0 = 2
      · have hf : fateT e (n1, K, B, D) = oGive e n1 K B D (tWhere K n1 (e 1)) (tWhere K n1 (e 3)) := (if_neg c0).trans ((if_neg c1).trans (if_pos c2))
        rw [c2]
        have ent : ∀ (v : Int32) h1, iEv mX9_gives [.ref x, .int (nI a), .int (e 1), .int (oI (tWhere K n1 (e 1)))] (mH b x s) (some (.int v)) h1 → kpP b x s (n1, K, B, D) n H e (some (.int v)) h1 → iWp 8 mX9_keeps 21 [.ref x, .int (nI a), .int (e 1), .int (oI (tWhere K n1 (e 1)))] [.int 2] (mH b x s) (kpP b x s (n1, K, B, D) n H e) := by
          intro v h1 ev hk
          simp only [X9_keeps_21_0, X9_keeps_21_1, X9_keeps_21_2, iOb_some, iClr_i, iClr_r, iClr_n, iClr_u, iClr_l, rf_s, rf_n, iB_0, iSum_nil]
          simp only [X9_keeps_186, X9_keeps_187, X9_keeps_188, X9_keeps_189, X9_keeps_190 ev mH_obj, X9_keeps_193, iOb_some, iClr_i, iClr_r, iClr_n, iClr_u, iClr_l, rf_s, rf_n, iB_0, iSum_nil]
          exact hk
        cases hwh : tWhere K n1 (e 1) with
        | some i =>
          rw [hwh] at hf ent
          have hi := (tWhere_lt hwh).1
          have epk := ev9_parentKey (b := b) (x := x) (s := s) (n := n1) (by omega) hi (by rw [w4]; exact h5.par' hd hi)
          rw [w2, w4] at epk
          unfold oGive at hf
          dsimp only at hf
          by_cases c3 : B i = e 2
          · by_cases c4 : tPK K D i = e 3
            · rw [if_pos ⟨c3, c4⟩] at hf
              refine ent 0 (mH b x s) (J9_gives ?_) (no (v := -1) hf (by decide))
              simp only [X9_gives_0, X9_gives_1, X9_gives_2, X9_gives_5, X9_gives_6, X9_gives_9, X9_gives_10, X9_gives_11, X9_gives_12, X9_gives_15, X9_gives_16, X9_gives_17, X9_gives_18, X9_gives_19, X9_gives_22, X9_gives_23, X9_gives_24 epk mH_obj, X9_gives_27, X9_gives_28, X9_gives_31, X9_gives_32, X9_gives_33, X9_gives_34, X9_gives_35, X9_gives_38, X9_gives_39, X9_gives_42, X9_gives_43, X9_gives_44, X9_gives_45, X9_gives_46, X9_gives_49, X9_gives_50, X9_gives_51, X9_gives_52, X9_gives_56, X9_gives_58, X9_gives_60, X9_gives_61, X9_gives_64, X9_gives_65, X9_gives_66, X9_gives_67, X9_gives_68, X9_gives_69, X9_gives_70, X9_gives_73, X9_gives_74, X9_gives_75, X9_gives_76, X9_gives_77, X9_gives_78, X9_gives_81, X9_gives_82, X9_gives_83, X9_gives_84, X9_gives_85, X9_gives_86, X9_gives_89, X9_gives_90, X9_gives_91, X9_gives_92, X9_gives_93, X9_gives_94, X9_gives_99, X9_gives_102, X9_gives_103, X9_gives_107, X9_gives_108, iOb_some, iClr_i, iClr_r, iClr_n, iClr_u, iClr_l, rf_s, rf_n, iB_0, iSum_nil, oI_s, if_neg (oI_ne (show i < 2 ^ 31 by omega)), mg20, ml20 (show i < 66 by omega), w3, mg8, hin.a2, hin.a3, if_pos c3, if_pos c4, and_self]
            · rw [if_neg (fun z => c4 z.2)] at hf
              refine ent 4 (mH b x s) (J9_gives ?_) (no (v := 4) hf (by decide))
              simp only [X9_gives_0, X9_gives_1, X9_gives_2, X9_gives_5, X9_gives_6, X9_gives_9, X9_gives_10, X9_gives_11, X9_gives_12, X9_gives_15, X9_gives_16, X9_gives_17, X9_gives_18, X9_gives_19, X9_gives_22, X9_gives_23, X9_gives_24 epk mH_obj, X9_gives_27, X9_gives_28, X9_gives_31, X9_gives_32, X9_gives_33, X9_gives_34, X9_gives_35, X9_gives_38, X9_gives_39, X9_gives_42, X9_gives_43, X9_gives_44, X9_gives_45, X9_gives_46, X9_gives_49, X9_gives_50, X9_gives_51, X9_gives_52, X9_gives_56, X9_gives_58, X9_gives_60, X9_gives_61, X9_gives_64, X9_gives_65, X9_gives_66, X9_gives_67, X9_gives_68, X9_gives_69, X9_gives_70, X9_gives_73, X9_gives_74, X9_gives_75, X9_gives_76, X9_gives_77, X9_gives_78, X9_gives_81, X9_gives_82, X9_gives_83, X9_gives_84, X9_gives_85, X9_gives_86, X9_gives_89, X9_gives_90, X9_gives_91, X9_gives_92, X9_gives_93, X9_gives_94, X9_gives_99, X9_gives_102, X9_gives_103, X9_gives_107, X9_gives_108, iOb_some, iClr_i, iClr_r, iClr_n, iClr_u, iClr_l, rf_s, rf_n, iB_0, iSum_nil, oI_s, if_neg (oI_ne (show i < 2 ^ 31 by omega)), mg20, ml20 (show i < 66 by omega), w3, mg8, hin.a2, hin.a3, if_pos c3, if_neg c4, and_self]
          · rw [if_neg (fun z => c3 z.1)] at hf
            refine ent 4 (mH b x s) (J9_gives ?_) (no (v := 4) hf (by decide))
            simp only [X9_gives_0, X9_gives_1, X9_gives_2, X9_gives_5, X9_gives_6, X9_gives_9, X9_gives_10, X9_gives_11, X9_gives_12, X9_gives_15, X9_gives_16, X9_gives_17, X9_gives_18, X9_gives_19, X9_gives_22, X9_gives_23, X9_gives_27, X9_gives_28, X9_gives_31, X9_gives_32, X9_gives_33, X9_gives_34, X9_gives_35, X9_gives_38, X9_gives_39, X9_gives_42, X9_gives_43, X9_gives_44, X9_gives_45, X9_gives_46, X9_gives_49, X9_gives_50, X9_gives_51, X9_gives_52, X9_gives_56, X9_gives_58, X9_gives_60, X9_gives_61, X9_gives_64, X9_gives_65, X9_gives_66, X9_gives_67, X9_gives_68, X9_gives_69, X9_gives_70, X9_gives_73, X9_gives_74, X9_gives_75, X9_gives_76, X9_gives_77, X9_gives_78, X9_gives_81, X9_gives_82, X9_gives_83, X9_gives_84, X9_gives_85, X9_gives_86, X9_gives_89, X9_gives_90, X9_gives_91, X9_gives_92, X9_gives_93, X9_gives_94, X9_gives_99, X9_gives_102, X9_gives_103, X9_gives_107, X9_gives_108, iOb_some, iClr_i, iClr_r, iClr_n, iClr_u, iClr_l, rf_s, rf_n, iB_0, iSum_nil, oI_s, if_neg (oI_ne (show i < 2 ^ 31 by omega)), mg20, ml20 (show i < 66 by omega), w3, mg8, hin.a2, hin.a3, if_neg c3, and_self]
        | none =>
          rw [hwh] at hf ent
          have e6 := ev9_find (b := b) (x := x) w1 (by omega) (e 3)
          rw [w2] at e6
          cases hg : tWhere K n1 (e 3) with
          | none =>
            rw [hg] at hf e6
            refine ent 1 (mH b x s) (J9_gives ?_) (no (v := 1) hf (by decide))
            simp only [X9_gives_0, X9_gives_1, X9_gives_2, X9_gives_5, X9_gives_6, X9_gives_9, X9_gives_10, X9_gives_11, X9_gives_12, X9_gives_15, X9_gives_16, X9_gives_17, X9_gives_18, X9_gives_19, X9_gives_22, X9_gives_23, X9_gives_27, X9_gives_28, X9_gives_31, X9_gives_32, X9_gives_33, X9_gives_34, X9_gives_35, X9_gives_38, X9_gives_39, X9_gives_42, X9_gives_43, X9_gives_44, X9_gives_45, X9_gives_46, X9_gives_49, X9_gives_50, X9_gives_51, X9_gives_52, X9_gives_53 e6 mH_obj, X9_gives_56, X9_gives_58, X9_gives_60, X9_gives_61, X9_gives_64, X9_gives_65, X9_gives_66, X9_gives_67, X9_gives_68, X9_gives_69, X9_gives_70, X9_gives_73, X9_gives_74, X9_gives_75, X9_gives_76, X9_gives_77, X9_gives_78, X9_gives_81, X9_gives_82, X9_gives_83, X9_gives_84, X9_gives_85, X9_gives_86, X9_gives_89, X9_gives_90, X9_gives_91, X9_gives_92, X9_gives_93, X9_gives_94, X9_gives_99, X9_gives_102, X9_gives_103, X9_gives_107, X9_gives_108, iOb_some, iClr_i, iClr_r, iClr_n, iClr_u, iClr_l, rf_s, rf_n, iB_0, iSum_nil, oI_n, if_true, mg8, hin.a3, and_self]
          | some g =>
            rw [hg] at hf e6
            have hgn := (tWhere_lt hg).1
            have hf : fateT e (n1, K, B, D) = 0 := hf.trans (if_pos (show n1 < 80 by omega))
            have hof : oFit e (n1, K, B, D) = e7 2 (e 1) (e 2) (e 3) (iMn (e 4) (nI (tKids D n1 g))) 0 0 := by
              unfold oFit
              rw [if_neg c0, if_neg c1, if_pos c2]
              dsimp only
              rw [hg]
            obtain ⟨s', U', g1, g2, g3, g4, g5⟩ := goes (e7 2 (e 1) (e 2) (e 3) (iMn (e 4) (nI (tKids D n1 g))) 0 0)
            have g1 : iEv mX9_goes [.ref x, .int 2, .int (e 1), .int (e 2), .int (e 3), .int (if nI (tKids D n1 g) < e 4 then nI (tKids D n1 g) else e 4), .int 0, .int 0] (mH b x s) none (mH b x s') := g1
            have ec := ev9_children (b := b) (x := x) w1 (by omega) hgn
            rw [w4] at ec
            refine ent 0 (mH b x s') (J9_gives ?_) (kp_yes (b := b) (x := x) hf hU he g2 (by rw [hof]; exact g3) (by rw [hof]; exact g4) g5)
            simp only [X9_gives_0, X9_gives_1, X9_gives_2, X9_gives_5, X9_gives_6, X9_gives_9, X9_gives_10, X9_gives_11, X9_gives_12, X9_gives_15, X9_gives_16, X9_gives_17, X9_gives_18, X9_gives_19, X9_gives_22, X9_gives_23, X9_gives_27, X9_gives_28, X9_gives_31, X9_gives_32, X9_gives_33, X9_gives_34, X9_gives_35, X9_gives_38, X9_gives_39, X9_gives_42, X9_gives_43, X9_gives_44, X9_gives_45, X9_gives_46, X9_gives_49, X9_gives_50, X9_gives_51, X9_gives_52, X9_gives_53 e6 mH_obj, X9_gives_56, X9_gives_58, X9_gives_60, X9_gives_61, X9_gives_64, X9_gives_65, X9_gives_66, X9_gives_67, X9_gives_68, X9_gives_69, X9_gives_70, X9_gives_73, X9_gives_74, X9_gives_75, X9_gives_76, X9_gives_77, X9_gives_78, X9_gives_81, X9_gives_82, X9_gives_83, X9_gives_84, X9_gives_85, X9_gives_86, X9_gives_89, X9_gives_90, X9_gives_91, X9_gives_92, X9_gives_93, X9_gives_94, X9_gives_96 ec mH_obj, iOb_some, iClr_i, iClr_r, iClr_n, iClr_u, iClr_l, rf_s, rf_n, iB_0, iSum_nil, oI_n, oI_s, if_true, mg8, hin.a2, hin.a3, hin.a4, if_neg (oI_ne (show g < 2 ^ 31 by omega))]
            simp only [X9_gives_99, X9_gives_102, X9_gives_103, X9_gives_104 g1 mH_obj, X9_gives_107, X9_gives_108, iOb_some, iClr_i, iClr_r, iClr_n, iClr_u, iClr_l, rf_s, rf_n, iB_0, iSum_nil, show iSum [.int (e 3), .int (e 2), .int (e 1), .int 2, .ref x] ≤ 8 from Nat.le_of_ble_eq_true rfl, and_self]
      · have c3 : e 0 = 3 := by
          rcases k2 with z | z | z | z
          · exact absurd z c0
          · exact absurd z c1
          · exact absurd z c2
          · exact z
        have hf : fateT e (n1, K, B, D) = oMove e n1 K D (tWhere K n1 (e 1)) (tWhere K n1 (e 5)) := (if_neg c0).trans ((if_neg c1).trans (if_neg c2))
        have ent : ∀ (v : Int32) h1, iEv mX9_keepsMove [.ref x, .int (nI a), .int (e 1), .int (oI (tWhere K n1 (e 1)))] (mH b x s) (some (.int v)) h1 → kpP b x s (n1, K, B, D) n H e (some (.int v)) h1 → iWp 8 mX9_keeps 21 [.ref x, .int (nI a), .int (e 1), .int (oI (tWhere K n1 (e 1)))] [.int (e 0)] (mH b x s) (kpP b x s (n1, K, B, D) n H e) := by
          intro v h1 ev hk
          rw [X9_keeps_21_d (i_sw3 c0 c1 c2)]
          simp only [X9_keeps_194, X9_keeps_195, X9_keeps_196, X9_keeps_197, X9_keeps_198 ev mH_obj, X9_keeps_201, iOb_some, iClr_i, iClr_r, iClr_n, iClr_u, iClr_l, rf_s, rf_n, iB_0, iSum_nil]
          exact hk
        have e6 := ev9_find (b := b) (x := x) w1 (by omega) (e 5)
        rw [w2] at e6
        cases hwh : tWhere K n1 (e 1) with
        | none =>
          rw [hwh] at hf ent
          refine ent 1 (mH b x s) (J9_keepsMove ?_) (no (v := 1) (hf.trans (by cases tWhere K n1 (e 5) <;> rfl)) (by decide))
          simp only [X9_keepsMove_0, X9_keepsMove_1, X9_keepsMove_2, X9_keepsMove_5, X9_keepsMove_6, X9_keepsMove_7, X9_keepsMove_8, X9_keepsMove_9 e6 mH_obj, X9_keepsMove_12, X9_keepsMove_14, X9_keepsMove_15, X9_keepsMove_16, X9_keepsMove_19, X9_keepsMove_21, X9_keepsMove_22, X9_keepsMove_25, X9_keepsMove_26, X9_keepsMove_27, X9_keepsMove_28, X9_keepsMove_31, X9_keepsMove_32, X9_keepsMove_34, X9_keepsMove_38, X9_keepsMove_41, X9_keepsMove_42, X9_keepsMove_43, X9_keepsMove_44, X9_keepsMove_48, X9_keepsMove_50, X9_keepsMove_52, X9_keepsMove_53, X9_keepsMove_56, X9_keepsMove_57, X9_keepsMove_58, X9_keepsMove_59, X9_keepsMove_60, X9_keepsMove_63, X9_keepsMove_65, X9_keepsMove_66, X9_keepsMove_69, X9_keepsMove_70, X9_keepsMove_71, X9_keepsMove_72, X9_keepsMove_73, X9_keepsMove_76, X9_keepsMove_77, X9_keepsMove_80, X9_keepsMove_82, X9_keepsMove_83, X9_keepsMove_84, X9_keepsMove_89, X9_keepsMove_90, X9_keepsMove_94, X9_keepsMove_96, X9_keepsMove_99, X9_keepsMove_100, X9_keepsMove_103, X9_keepsMove_104, X9_keepsMove_105, X9_keepsMove_107, X9_keepsMove_108, X9_keepsMove_109, X9_keepsMove_110, X9_keepsMove_111, X9_keepsMove_113, X9_keepsMove_114, X9_keepsMove_118, X9_keepsMove_119, X9_keepsMove_122, X9_keepsMove_123, X9_keepsMove_124, X9_keepsMove_125, X9_keepsMove_126, X9_keepsMove_127, X9_keepsMove_130, X9_keepsMove_131, X9_keepsMove_133, X9_keepsMove_134, X9_keepsMove_135, X9_keepsMove_143, X9_keepsMove_144, iOb_some, iClr_i, iClr_r, iClr_n, iClr_u, iClr_l, rf_s, rf_n, iB_0, iSum_nil, oI_n, if_true, mg8, hin.a5, and_self]
        | some i =>
          rw [hwh] at hf ent
          have hi := (tWhere_lt hwh).1
          cases hg : tWhere K n1 (e 5) with
          | none =>
            rw [hg] at hf e6
            refine ent 1 (mH b x s) (J9_keepsMove ?_) (no (v := 1) hf (by decide))
            simp only [X9_keepsMove_0, X9_keepsMove_1, X9_keepsMove_2, X9_keepsMove_5, X9_keepsMove_6, X9_keepsMove_7, X9_keepsMove_8, X9_keepsMove_9 e6 mH_obj, X9_keepsMove_12, X9_keepsMove_14, X9_keepsMove_15, X9_keepsMove_16, X9_keepsMove_19, X9_keepsMove_21, X9_keepsMove_22, X9_keepsMove_25, X9_keepsMove_26, X9_keepsMove_27, X9_keepsMove_28, X9_keepsMove_31, X9_keepsMove_32, X9_keepsMove_34, X9_keepsMove_38, X9_keepsMove_41, X9_keepsMove_42, X9_keepsMove_43, X9_keepsMove_44, X9_keepsMove_48, X9_keepsMove_50, X9_keepsMove_52, X9_keepsMove_53, X9_keepsMove_56, X9_keepsMove_57, X9_keepsMove_58, X9_keepsMove_59, X9_keepsMove_60, X9_keepsMove_63, X9_keepsMove_65, X9_keepsMove_66, X9_keepsMove_69, X9_keepsMove_70, X9_keepsMove_71, X9_keepsMove_72, X9_keepsMove_73, X9_keepsMove_76, X9_keepsMove_77, X9_keepsMove_80, X9_keepsMove_82, X9_keepsMove_83, X9_keepsMove_84, X9_keepsMove_89, X9_keepsMove_90, X9_keepsMove_94, X9_keepsMove_96, X9_keepsMove_99, X9_keepsMove_100, X9_keepsMove_103, X9_keepsMove_104, X9_keepsMove_105, X9_keepsMove_107, X9_keepsMove_108, X9_keepsMove_109, X9_keepsMove_110, X9_keepsMove_111, X9_keepsMove_113, X9_keepsMove_114, X9_keepsMove_118, X9_keepsMove_119, X9_keepsMove_122, X9_keepsMove_123, X9_keepsMove_124, X9_keepsMove_125, X9_keepsMove_126, X9_keepsMove_127, X9_keepsMove_130, X9_keepsMove_131, X9_keepsMove_133, X9_keepsMove_134, X9_keepsMove_135, X9_keepsMove_143, X9_keepsMove_144, iOb_some, iClr_i, iClr_r, iClr_n, iClr_u, iClr_l, rf_s, rf_n, iB_0, iSum_nil, oI_n, oI_s, if_neg (oI_ne (show i < 2 ^ 31 by omega)), if_true, mg8, hin.a5, and_self]
          | some g =>
            rw [hg] at hf e6
            have hgn := (tWhere_lt hg).1
            have eb := ev9_isBelow (b := b) (x := x) w1 (by omega) hgn hi
            rw [w4] at eb
            unfold oMove at hf
            dsimp only at hf
            by_cases c4 : i = 0 ∨ (i ≤ g ∧ g < tEnd D n1 i)
            · rw [if_pos c4] at hf
              refine ent 5 (mH b x s) (J9_keepsMove ?_) (no (v := 5) hf (by decide))
              by_cases c5 : i = 0
              · subst c5
                simp only [X9_keepsMove_0, X9_keepsMove_1, X9_keepsMove_2, X9_keepsMove_5, X9_keepsMove_6, X9_keepsMove_7, X9_keepsMove_8, X9_keepsMove_9 e6 mH_obj, X9_keepsMove_12, X9_keepsMove_14, X9_keepsMove_15, X9_keepsMove_16, X9_keepsMove_19, X9_keepsMove_21, X9_keepsMove_22, X9_keepsMove_25, X9_keepsMove_26, X9_keepsMove_27, X9_keepsMove_28, X9_keepsMove_31, X9_keepsMove_32, X9_keepsMove_34, X9_keepsMove_38, X9_keepsMove_41, X9_keepsMove_42, X9_keepsMove_43, X9_keepsMove_44, X9_keepsMove_48, X9_keepsMove_50, X9_keepsMove_52, X9_keepsMove_53, X9_keepsMove_56, X9_keepsMove_57, X9_keepsMove_58, X9_keepsMove_59, X9_keepsMove_60, X9_keepsMove_63, X9_keepsMove_65, X9_keepsMove_66, X9_keepsMove_69, X9_keepsMove_70, X9_keepsMove_71, X9_keepsMove_72, X9_keepsMove_73, X9_keepsMove_76, X9_keepsMove_77, X9_keepsMove_80, X9_keepsMove_82, X9_keepsMove_83, X9_keepsMove_84, X9_keepsMove_89, X9_keepsMove_90, X9_keepsMove_94, X9_keepsMove_96, X9_keepsMove_99, X9_keepsMove_100, X9_keepsMove_103, X9_keepsMove_104, X9_keepsMove_105, X9_keepsMove_107, X9_keepsMove_108, X9_keepsMove_109, X9_keepsMove_110, X9_keepsMove_111, X9_keepsMove_113, X9_keepsMove_114, X9_keepsMove_118, X9_keepsMove_119, X9_keepsMove_122, X9_keepsMove_123, X9_keepsMove_124, X9_keepsMove_125, X9_keepsMove_126, X9_keepsMove_127, X9_keepsMove_130, X9_keepsMove_131, X9_keepsMove_133, X9_keepsMove_134, X9_keepsMove_135, X9_keepsMove_143, X9_keepsMove_144, iOb_some, iClr_i, iClr_r, iClr_n, iClr_u, iClr_l, rf_s, rf_n, iB_0, iSum_nil, oI_s, if_neg (oI_ne (show 0 < 2 ^ 31 by decide)), if_neg (oI_ne (show g < 2 ^ 31 by omega)), if_pos (show nI 0 = 0 from rfl), mg8, hin.a5, and_self]
              · have c6 := c4.resolve_left c5
                rw [show (decide (i ≤ g) && decide (g < tEnd D n1 i)) = true from by rw [decide_eq_true c6.1, decide_eq_true c6.2]; rfl, show iB true = 1 from rfl] at eb
                simp only [X9_keepsMove_0, X9_keepsMove_1, X9_keepsMove_2, X9_keepsMove_5, X9_keepsMove_6, X9_keepsMove_7, X9_keepsMove_8, X9_keepsMove_9 e6 mH_obj, X9_keepsMove_12, X9_keepsMove_14, X9_keepsMove_15, X9_keepsMove_16, X9_keepsMove_19, X9_keepsMove_21, X9_keepsMove_22, X9_keepsMove_25, X9_keepsMove_26, X9_keepsMove_27, X9_keepsMove_28, X9_keepsMove_31, X9_keepsMove_32, X9_keepsMove_34, X9_keepsMove_35 eb mH_obj, X9_keepsMove_38, X9_keepsMove_41, X9_keepsMove_42, X9_keepsMove_43, X9_keepsMove_44, X9_keepsMove_48, X9_keepsMove_50, X9_keepsMove_52, X9_keepsMove_53, X9_keepsMove_56, X9_keepsMove_57, X9_keepsMove_58, X9_keepsMove_59, X9_keepsMove_60, X9_keepsMove_63, X9_keepsMove_65, X9_keepsMove_66, X9_keepsMove_69, X9_keepsMove_70, X9_keepsMove_71, X9_keepsMove_72, X9_keepsMove_73, X9_keepsMove_76, X9_keepsMove_77, X9_keepsMove_80, X9_keepsMove_82, X9_keepsMove_83, X9_keepsMove_84, X9_keepsMove_89, X9_keepsMove_90, X9_keepsMove_94, X9_keepsMove_96, X9_keepsMove_99, X9_keepsMove_100, X9_keepsMove_103, X9_keepsMove_104, X9_keepsMove_105, X9_keepsMove_107, X9_keepsMove_108, X9_keepsMove_109, X9_keepsMove_110, X9_keepsMove_111, X9_keepsMove_113, X9_keepsMove_114, X9_keepsMove_118, X9_keepsMove_119, X9_keepsMove_122, X9_keepsMove_123, X9_keepsMove_124, X9_keepsMove_125, X9_keepsMove_126, X9_keepsMove_127, X9_keepsMove_130, X9_keepsMove_131, X9_keepsMove_133, X9_keepsMove_134, X9_keepsMove_135, X9_keepsMove_143, X9_keepsMove_144, iOb_some, iClr_i, iClr_r, iClr_n, iClr_u, iClr_l, rf_s, rf_n, iB_0, iSum_nil, if_neg (by decide : ¬ (1 : Int32) = 0), oI_s, if_neg (oI_ne (show i < 2 ^ 31 by omega)), if_neg (oI_ne (show g < 2 ^ 31 by omega)), if_neg (nI_ne0 (show 0 < i by omega) (show i < 2 ^ 31 by omega)), mg8, hin.a5, and_self]
            · rw [if_neg c4] at hf
              have c5 : i ≠ 0 := fun z => c4 (Or.inl z)
              have c6 : ¬ (i ≤ g ∧ g < tEnd D n1 i) := fun z => c4 (Or.inr z)
              have epk := ev9_parentKey (b := b) (x := x) (s := s) (n := n1) (by omega) hi (by rw [w4]; exact h5.par' hd hi)
              rw [w2, w4] at epk
              rw [show (decide (i ≤ g) && decide (g < tEnd D n1 i)) = false from by rw [← Bool.decide_and]; exact decide_eq_false c6, show iB false = 0 from rfl] at eb
              by_cases c7 : tPK K D i = e 3
              · rw [if_pos c7] at hf
                have hof : oFit e (n1, K, B, D) = e7 3 (e 1) 0 (e 3) (nI (tPlace D i)) (e 5) (iMn (e 6) (eLast n1 D i g)) := by
                  unfold oFit
                  rw [if_neg c0, if_neg c1, if_neg c2]
                  dsimp only
                  rw [hwh, hg]
                obtain ⟨s', U', g1, g2, g3, g4, g5⟩ := goes (e7 3 (e 1) 0 (e 3) (nI (tPlace D i)) (e 5) (iMn (e 6) (eLast n1 D i g)))
                have g1 : iEv mX9_goes [.ref x, .int 3, .int (e 1), .int 0, .int (e 3), .int (nI (tPlace D i)), .int (e 5), .int (if eLast n1 D i g < e 6 then eLast n1 D i g else e 6)] (mH b x s) none (mH b x s') := g1
                rw [← c7] at g1
                have ec := ev9_children (b := b) (x := x) w1 (by omega) hgn
                rw [w4] at ec
                have epa := ev9_parent (b := b) (x := x) (s := s) (n := n1) (by omega) hi
                rw [w4] at epa
                have epl := ev9_place (b := b) (x := x) (s := s) (n := n1) (by omega) hi
                rw [w4] at epl
                refine ent 0 (mH b x s') (J9_keepsMove ?_) (kp_yes (b := b) (x := x) hf hU he g2 (by rw [hof]; exact g3) (by rw [hof]; exact g4) g5)
                have hm : iSum [.int (e 5), .int (nI (tPlace D i)), .int (tPK K D i), .int 0, .int (e 1), .int 3, .ref x] ≤ 8 := Nat.le_of_ble_eq_true rfl
                by_cases c8 : oI (tPar D i) = nI g
                · have hl : eLast n1 D i g = nI (tKids D n1 g) - 1 := if_pos c8
                  rw [hl] at g1
                  simp only [X9_keepsMove_0, X9_keepsMove_1, X9_keepsMove_2, X9_keepsMove_5, X9_keepsMove_6, X9_keepsMove_7, X9_keepsMove_8, X9_keepsMove_9 e6 mH_obj, X9_keepsMove_12, X9_keepsMove_14, X9_keepsMove_15, X9_keepsMove_16, X9_keepsMove_19, X9_keepsMove_21, X9_keepsMove_22, X9_keepsMove_25, X9_keepsMove_26, X9_keepsMove_27, X9_keepsMove_28, X9_keepsMove_31, X9_keepsMove_32, X9_keepsMove_34, X9_keepsMove_35 eb mH_obj, X9_keepsMove_38, X9_keepsMove_41, X9_keepsMove_42, X9_keepsMove_43, X9_keepsMove_44, X9_keepsMove_45 epk mH_obj, X9_keepsMove_48, X9_keepsMove_50, X9_keepsMove_52, X9_keepsMove_53, X9_keepsMove_56, X9_keepsMove_57, X9_keepsMove_58, X9_keepsMove_59, X9_keepsMove_60, X9_keepsMove_63, X9_keepsMove_65, X9_keepsMove_66, X9_keepsMove_69, X9_keepsMove_70, X9_keepsMove_71, X9_keepsMove_72, X9_keepsMove_73, X9_keepsMove_76, X9_keepsMove_77, X9_keepsMove_80, X9_keepsMove_82, X9_keepsMove_83, X9_keepsMove_84, X9_keepsMove_86 ec mH_obj, X9_keepsMove_89, X9_keepsMove_90, X9_keepsMove_91 epa mH_obj, X9_keepsMove_94, X9_keepsMove_96, X9_keepsMove_99, X9_keepsMove_100, X9_keepsMove_103, X9_keepsMove_104, X9_keepsMove_105, X9_keepsMove_107, X9_keepsMove_108, X9_keepsMove_109, X9_keepsMove_110, X9_keepsMove_111, X9_keepsMove_113, X9_keepsMove_114, X9_keepsMove_115 epl mH_obj, X9_keepsMove_118, X9_keepsMove_119, X9_keepsMove_122, X9_keepsMove_123, X9_keepsMove_124, X9_keepsMove_125, X9_keepsMove_126, X9_keepsMove_127, X9_keepsMove_130, X9_keepsMove_131, X9_keepsMove_133, X9_keepsMove_134, X9_keepsMove_135, X9_keepsMove_137, X9_keepsMove_140 g1 mH_obj, X9_keepsMove_143, X9_keepsMove_144, iOb_some, iClr_i, iClr_r, iClr_n, iClr_u, iClr_l, rf_s, rf_n, iB_0, iSum_nil, hm, hin.a6, i_sub0, oI_s, if_neg (oI_ne (show i < 2 ^ 31 by omega)), if_neg (oI_ne (show g < 2 ^ 31 by omega)), if_neg (nI_ne0 (show 0 < i by omega) (show i < 2 ^ 31 by omega)), if_pos c7, if_true, if_pos c8, mg8, hin.a5, hin.a3, and_self]
                · have hl : eLast n1 D i g = nI (tKids D n1 g) := if_neg c8
                  rw [hl] at g1
                  simp only [X9_keepsMove_0, X9_keepsMove_1, X9_keepsMove_2, X9_keepsMove_5, X9_keepsMove_6, X9_keepsMove_7, X9_keepsMove_8, X9_keepsMove_9 e6 mH_obj, X9_keepsMove_12, X9_keepsMove_14, X9_keepsMove_15, X9_keepsMove_16, X9_keepsMove_19, X9_keepsMove_21, X9_keepsMove_22, X9_keepsMove_25, X9_keepsMove_26, X9_keepsMove_27, X9_keepsMove_28, X9_keepsMove_31, X9_keepsMove_32, X9_keepsMove_34, X9_keepsMove_35 eb mH_obj, X9_keepsMove_38, X9_keepsMove_41, X9_keepsMove_42, X9_keepsMove_43, X9_keepsMove_44, X9_keepsMove_45 epk mH_obj, X9_keepsMove_48, X9_keepsMove_50, X9_keepsMove_52, X9_keepsMove_53, X9_keepsMove_56, X9_keepsMove_57, X9_keepsMove_58, X9_keepsMove_59, X9_keepsMove_60, X9_keepsMove_63, X9_keepsMove_65, X9_keepsMove_66, X9_keepsMove_69, X9_keepsMove_70, X9_keepsMove_71, X9_keepsMove_72, X9_keepsMove_73, X9_keepsMove_76, X9_keepsMove_77, X9_keepsMove_80, X9_keepsMove_82, X9_keepsMove_83, X9_keepsMove_84, X9_keepsMove_86 ec mH_obj, X9_keepsMove_89, X9_keepsMove_90, X9_keepsMove_91 epa mH_obj, X9_keepsMove_94, X9_keepsMove_96, X9_keepsMove_99, X9_keepsMove_100, X9_keepsMove_103, X9_keepsMove_104, X9_keepsMove_105, X9_keepsMove_107, X9_keepsMove_108, X9_keepsMove_109, X9_keepsMove_110, X9_keepsMove_111, X9_keepsMove_113, X9_keepsMove_114, X9_keepsMove_115 epl mH_obj, X9_keepsMove_118, X9_keepsMove_119, X9_keepsMove_122, X9_keepsMove_123, X9_keepsMove_124, X9_keepsMove_125, X9_keepsMove_126, X9_keepsMove_127, X9_keepsMove_130, X9_keepsMove_131, X9_keepsMove_133, X9_keepsMove_134, X9_keepsMove_135, X9_keepsMove_137, X9_keepsMove_140 g1 mH_obj, X9_keepsMove_143, X9_keepsMove_144, iOb_some, iClr_i, iClr_r, iClr_n, iClr_u, iClr_l, rf_s, rf_n, iB_0, iSum_nil, hm, hin.a6, i_sub0, oI_s, if_neg (oI_ne (show i < 2 ^ 31 by omega)), if_neg (oI_ne (show g < 2 ^ 31 by omega)), if_neg (nI_ne0 (show 0 < i by omega) (show i < 2 ^ 31 by omega)), if_pos c7, if_true, if_neg c8, mg8, hin.a5, hin.a3, and_self]
              · rw [if_neg c7] at hf
                by_cases c8 : tPK K D i = e 5
                · rw [if_pos c8] at hf
                  refine ent 0 (mH b x s) (J9_keepsMove ?_) (no (v := -1) hf (by decide))
                  simp only [X9_keepsMove_0, X9_keepsMove_1, X9_keepsMove_2, X9_keepsMove_5, X9_keepsMove_6, X9_keepsMove_7, X9_keepsMove_8, X9_keepsMove_9 e6 mH_obj, X9_keepsMove_12, X9_keepsMove_14, X9_keepsMove_15, X9_keepsMove_16, X9_keepsMove_19, X9_keepsMove_21, X9_keepsMove_22, X9_keepsMove_25, X9_keepsMove_26, X9_keepsMove_27, X9_keepsMove_28, X9_keepsMove_31, X9_keepsMove_32, X9_keepsMove_34, X9_keepsMove_35 eb mH_obj, X9_keepsMove_38, X9_keepsMove_41, X9_keepsMove_42, X9_keepsMove_43, X9_keepsMove_44, X9_keepsMove_45 epk mH_obj, X9_keepsMove_48, X9_keepsMove_50, X9_keepsMove_52, X9_keepsMove_53, X9_keepsMove_56, X9_keepsMove_57, X9_keepsMove_58, X9_keepsMove_59, X9_keepsMove_60, X9_keepsMove_63, X9_keepsMove_65, X9_keepsMove_66, X9_keepsMove_69, X9_keepsMove_70, X9_keepsMove_71, X9_keepsMove_72, X9_keepsMove_73, X9_keepsMove_76, X9_keepsMove_77, X9_keepsMove_80, X9_keepsMove_82, X9_keepsMove_83, X9_keepsMove_84, X9_keepsMove_89, X9_keepsMove_90, X9_keepsMove_94, X9_keepsMove_96, X9_keepsMove_99, X9_keepsMove_100, X9_keepsMove_103, X9_keepsMove_104, X9_keepsMove_105, X9_keepsMove_107, X9_keepsMove_108, X9_keepsMove_109, X9_keepsMove_110, X9_keepsMove_111, X9_keepsMove_113, X9_keepsMove_114, X9_keepsMove_118, X9_keepsMove_119, X9_keepsMove_122, X9_keepsMove_123, X9_keepsMove_124, X9_keepsMove_125, X9_keepsMove_126, X9_keepsMove_127, X9_keepsMove_130, X9_keepsMove_131, X9_keepsMove_133, X9_keepsMove_134, X9_keepsMove_135, X9_keepsMove_143, X9_keepsMove_144, iOb_some, iClr_i, iClr_r, iClr_n, iClr_u, iClr_l, rf_s, rf_n, iB_0, iSum_nil, if_true, oI_s, if_neg (oI_ne (show i < 2 ^ 31 by omega)), if_neg (oI_ne (show g < 2 ^ 31 by omega)), if_neg (nI_ne0 (show 0 < i by omega) (show i < 2 ^ 31 by omega)), mg8, hin.a5, hin.a3, if_neg c7, if_pos c8, and_self]
                · rw [if_neg c8] at hf
                  refine ent 6 (mH b x s) (J9_keepsMove ?_) (no (v := 6) hf (by decide))
                  simp only [X9_keepsMove_0, X9_keepsMove_1, X9_keepsMove_2, X9_keepsMove_5, X9_keepsMove_6, X9_keepsMove_7, X9_keepsMove_8, X9_keepsMove_9 e6 mH_obj, X9_keepsMove_12, X9_keepsMove_14, X9_keepsMove_15, X9_keepsMove_16, X9_keepsMove_19, X9_keepsMove_21, X9_keepsMove_22, X9_keepsMove_25, X9_keepsMove_26, X9_keepsMove_27, X9_keepsMove_28, X9_keepsMove_31, X9_keepsMove_32, X9_keepsMove_34, X9_keepsMove_35 eb mH_obj, X9_keepsMove_38, X9_keepsMove_41, X9_keepsMove_42, X9_keepsMove_43, X9_keepsMove_44, X9_keepsMove_45 epk mH_obj, X9_keepsMove_48, X9_keepsMove_50, X9_keepsMove_52, X9_keepsMove_53, X9_keepsMove_56, X9_keepsMove_57, X9_keepsMove_58, X9_keepsMove_59, X9_keepsMove_60, X9_keepsMove_63, X9_keepsMove_65, X9_keepsMove_66, X9_keepsMove_69, X9_keepsMove_70, X9_keepsMove_71, X9_keepsMove_72, X9_keepsMove_73, X9_keepsMove_76, X9_keepsMove_77, X9_keepsMove_80, X9_keepsMove_82, X9_keepsMove_83, X9_keepsMove_84, X9_keepsMove_89, X9_keepsMove_90, X9_keepsMove_94, X9_keepsMove_96, X9_keepsMove_99, X9_keepsMove_100, X9_keepsMove_103, X9_keepsMove_104, X9_keepsMove_105, X9_keepsMove_107, X9_keepsMove_108, X9_keepsMove_109, X9_keepsMove_110, X9_keepsMove_111, X9_keepsMove_113, X9_keepsMove_114, X9_keepsMove_118, X9_keepsMove_119, X9_keepsMove_122, X9_keepsMove_123, X9_keepsMove_124, X9_keepsMove_125, X9_keepsMove_126, X9_keepsMove_127, X9_keepsMove_130, X9_keepsMove_131, X9_keepsMove_133, X9_keepsMove_134, X9_keepsMove_135, X9_keepsMove_143, X9_keepsMove_144, iOb_some, iClr_i, iClr_r, iClr_n, iClr_u, iClr_l, rf_s, rf_n, iB_0, iSum_nil, if_true, oI_s, if_neg (oI_ne (show i < 2 ^ 31 by omega)), if_neg (oI_ne (show g < 2 ^ 31 by omega)), if_neg (nI_ne0 (show 0 < i by omega) (show i < 2 ^ 31 by omega)), mg8, hin.a5, hin.a3, if_neg c7, if_neg c8, and_self]
end KEEPS9

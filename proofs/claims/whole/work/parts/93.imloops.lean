/-! the reference copies arrays: image, restore -/
section IML
variable {b : iHp} {x : Nat} {s s0 s1 : mS} {j k q : Nat} {v : Int32}
theorem mPut_at {k' : Nat} : (mPut s k j v).2.1 k' q = if k' = k then (if q = j then v else s.2.1 k' q) else s.2.1 k' q := by
  show va_up s.2.1 k (upd (s.2.1 k) j v) k' q = _
  unfold va_up upd
  by_cases c : k' = k
  · rw [if_pos c, if_pos c, c]
  · rw [if_neg c, if_neg c]
/-- the first r elements of one array stand in another one -/
def mAr (s0 s1 : mS) (r d e : Nat) : Prop := ∀ j, j < r → s1.2.1 d j = s0.2.1 e j
theorem mAr_s {r d e : Nat} (h : mAr s0 s r d e) (he : s1.2.1 d = upd (s.2.1 d) r (s0.2.1 e r)) : mAr s0 s1 (r + 1) d e := by
  intro j hj
  rw [he]
  unfold upd
  by_cases c : j = r
  · rw [if_pos c, c]
  · rw [if_neg c]
    exact h j (by omega)
theorem imageL_31 {Q : Option Value → iHp → Prop} (hx : ∀ s1, sEx [32] s0 s1 ∧ mAr s0 s1 16 32 1 → iWp 1 mX9_image 55 [.ref x, .int (nI 16)] [] (mH b x s1) Q) : ∀ k r s1, r + k = 16 → sEx [32] s0 s1 ∧ mAr s0 s1 r 32 1 → iWp 1 mX9_image 31 [.ref x, .int (nI r)] [] (mH b x s1) Q := by
  intro k
  induction k with
  | zero =>
    intro r s1 hr hP
    obtain rfl : r = 16 := by omega
    rw [X9_image_31]
    simp only [X9_image_32, X9_image_34, X9_image_37, X9_image_38, X9_image_41, X9_image_42, X9_image_43, X9_image_46, X9_image_47, X9_image_48, X9_image_49, X9_image_52, iOb_some, iClr_i, iClr_r, iClr_n, iClr_u, iClr_l, rf_s, rf_n, iB_0, iSum_nil, if_pos (show (16 : Int32) ≤ nI 16 by decide)]
    exact hx s1 hP
  | succ k ih =>
    intro r s1 hr hP
    obtain ⟨e0, p32⟩ := hP
    rw [X9_image_31]
    simp only [X9_image_32, X9_image_34, X9_image_37, X9_image_38, X9_image_41, X9_image_42, X9_image_43, X9_image_46, X9_image_47, X9_image_48, X9_image_49, X9_image_52, iOb_some, iClr_i, iClr_r, iClr_n, iClr_u, iClr_l, rf_s, rf_n, iB_0, iSum_nil, if_neg (show ¬ (16 : Int32) ≤ nI r from nI_ge (b := 16) (by omega) (by decide)), mg32, mg1, ml1 (show r < 16 by omega), ms32 (show r < 16 by omega), nI_1]
    refine ih (r + 1) _ (by omega) ⟨?_, ?_⟩
    · exact e0.trans (mPut_ex (by decide))
    · refine mAr_s p32 ?_
      have z : s0.2.1 1 r = s1.2.1 1 r := (congrFun (e0.2.1 1 (by decide)) r).symm
      rw [z]
      funext q
      simp [mPut_at, upd]
theorem imageL_57 {Q : Option Value → iHp → Prop} (hx : ∀ s1, sEx [33, 34, 35] s0 s1 ∧ mAr s0 s1 1024 33 2 ∧ mAr s0 s1 1024 34 3 ∧ mAr s0 s1 1024 35 4 → iWp 1 mX9_image 106 [.ref x, .int (nI 1024)] [] (mH b x s1) Q) : ∀ k r s1, r + k = 1024 → sEx [33, 34, 35] s0 s1 ∧ mAr s0 s1 r 33 2 ∧ mAr s0 s1 r 34 3 ∧ mAr s0 s1 r 35 4 → iWp 1 mX9_image 57 [.ref x, .int (nI r)] [] (mH b x s1) Q := by
  intro k
  induction k with
  | zero =>
    intro r s1 hr hP
    obtain rfl : r = 1024 := by omega
    rw [X9_image_57]
    simp only [X9_image_58, X9_image_61, X9_image_64, X9_image_65, X9_image_68, X9_image_69, X9_image_70, X9_image_73, X9_image_74, X9_image_75, X9_image_76, X9_image_77, X9_image_80, X9_image_81, X9_image_82, X9_image_85, X9_image_86, X9_image_87, X9_image_88, X9_image_89, X9_image_92, X9_image_93, X9_image_94, X9_image_97, X9_image_98, X9_image_99, X9_image_100, X9_image_103, iOb_some, iClr_i, iClr_r, iClr_n, iClr_u, iClr_l, rf_s, rf_n, iB_0, iSum_nil, if_pos (show (1024 : Int32) ≤ nI 1024 by decide)]
    exact hx s1 hP
  | succ k ih =>
    intro r s1 hr hP
    obtain ⟨e0, p33, p34, p35⟩ := hP
    rw [X9_image_57]
    simp only [X9_image_58, X9_image_61, X9_image_64, X9_image_65, X9_image_68, X9_image_69, X9_image_70, X9_image_73, X9_image_74, X9_image_75, X9_image_76, X9_image_77, X9_image_80, X9_image_81, X9_image_82, X9_image_85, X9_image_86, X9_image_87, X9_image_88, X9_image_89, X9_image_92, X9_image_93, X9_image_94, X9_image_97, X9_image_98, X9_image_99, X9_image_100, X9_image_103, iOb_some, iClr_i, iClr_r, iClr_n, iClr_u, iClr_l, rf_s, rf_n, iB_0, iSum_nil, if_neg (show ¬ (1024 : Int32) ≤ nI r from nI_ge (b := 1024) (by omega) (by decide)), mg33, mg2, ml2 (show r < 1024 by omega), ms33 (show r < 1024 by omega), mg34, mg3, ml3 (show r < 1024 by omega), ms34 (show r < 1024 by omega), mg35, mg4, ml4 (show r < 1024 by omega), ms35 (show r < 1024 by omega), nI_1]
    refine ih (r + 1) _ (by omega) ⟨?_, ?_, ?_, ?_⟩
    · exact e0.trans (((mPut_ex (by decide)).trans (mPut_ex (by decide))).trans (mPut_ex (by decide)))
    · refine mAr_s p33 ?_
      have z : s0.2.1 2 r = s1.2.1 2 r := (congrFun (e0.2.1 2 (by decide)) r).symm
      rw [z]
      funext q
      simp [mPut_at, upd]
    · refine mAr_s p34 ?_
      have z : s0.2.1 3 r = s1.2.1 3 r := (congrFun (e0.2.1 3 (by decide)) r).symm
      rw [z]
      funext q
      simp [mPut_at, upd]
    · refine mAr_s p35 ?_
      have z : s0.2.1 4 r = s1.2.1 4 r := (congrFun (e0.2.1 4 (by decide)) r).symm
      rw [z]
      funext q
      simp [mPut_at, upd]
theorem imageL_108 {Q : Option Value → iHp → Prop} (hx : ∀ s1, sEx [37] s0 s1 ∧ mAr s0 s1 80 37 7 → iWp 1 mX9_image 132 [.ref x, .int (nI 80)] [] (mH b x s1) Q) : ∀ k r s1, r + k = 80 → sEx [37] s0 s1 ∧ mAr s0 s1 r 37 7 → iWp 1 mX9_image 108 [.ref x, .int (nI r)] [] (mH b x s1) Q := by
  intro k
  induction k with
  | zero =>
    intro r s1 hr hP
    obtain rfl : r = 80 := by omega
    rw [X9_image_108]
    simp only [X9_image_109, X9_image_111, X9_image_114, X9_image_115, X9_image_118, X9_image_119, X9_image_120, X9_image_123, X9_image_124, X9_image_125, X9_image_126, X9_image_129, iOb_some, iClr_i, iClr_r, iClr_n, iClr_u, iClr_l, rf_s, rf_n, iB_0, iSum_nil, if_pos (show (80 : Int32) ≤ nI 80 by decide)]
    exact hx s1 hP
  | succ k ih =>
    intro r s1 hr hP
    obtain ⟨e0, p37⟩ := hP
    rw [X9_image_108]
    simp only [X9_image_109, X9_image_111, X9_image_114, X9_image_115, X9_image_118, X9_image_119, X9_image_120, X9_image_123, X9_image_124, X9_image_125, X9_image_126, X9_image_129, iOb_some, iClr_i, iClr_r, iClr_n, iClr_u, iClr_l, rf_s, rf_n, iB_0, iSum_nil, if_neg (show ¬ (80 : Int32) ≤ nI r from nI_ge (b := 80) (by omega) (by decide)), mg37, mg7, ml7 (show r < 80 by omega), ms37 (show r < 80 by omega), nI_1]
    refine ih (r + 1) _ (by omega) ⟨?_, ?_⟩
    · exact e0.trans (mPut_ex (by decide))
    · refine mAr_s p37 ?_
      have z : s0.2.1 7 r = s1.2.1 7 r := (congrFun (e0.2.1 7 (by decide)) r).symm
      rw [z]
      funext q
      simp [mPut_at, upd]
theorem imageL_134 {Q : Option Value → iHp → Prop} (hx : ∀ s1, sEx [38] s0 s1 ∧ mAr s0 s1 13440 38 8 → iWp 1 mX9_image 159 [.ref x, .int (nI 13440)] [] (mH b x s1) Q) : ∀ k r s1, r + k = 13440 → sEx [38] s0 s1 ∧ mAr s0 s1 r 38 8 → iWp 1 mX9_image 134 [.ref x, .int (nI r)] [] (mH b x s1) Q := by
  intro k
  induction k with
  | zero =>
    intro r s1 hr hP
    obtain rfl : r = 13440 := by omega
    rw [X9_image_134]
    simp only [X9_image_135, X9_image_138, X9_image_141, X9_image_142, X9_image_145, X9_image_146, X9_image_147, X9_image_150, X9_image_151, X9_image_152, X9_image_153, X9_image_156, iOb_some, iClr_i, iClr_r, iClr_n, iClr_u, iClr_l, rf_s, rf_n, iB_0, iSum_nil, if_pos (show (13440 : Int32) ≤ nI 13440 by decide)]
    exact hx s1 hP
  | succ k ih =>
    intro r s1 hr hP
    obtain ⟨e0, p38⟩ := hP
    rw [X9_image_134]
    simp only [X9_image_135, X9_image_138, X9_image_141, X9_image_142, X9_image_145, X9_image_146, X9_image_147, X9_image_150, X9_image_151, X9_image_152, X9_image_153, X9_image_156, iOb_some, iClr_i, iClr_r, iClr_n, iClr_u, iClr_l, rf_s, rf_n, iB_0, iSum_nil, if_neg (show ¬ (13440 : Int32) ≤ nI r from nI_ge (b := 13440) (by omega) (by decide)), mg38, mg8, ml8 (show r < 13440 by omega), ms38 (show r < 13440 by omega), nI_1]
    refine ih (r + 1) _ (by omega) ⟨?_, ?_⟩
    · exact e0.trans (mPut_ex (by decide))
    · refine mAr_s p38 ?_
      have z : s0.2.1 8 r = s1.2.1 8 r := (congrFun (e0.2.1 8 (by decide)) r).symm
      rw [z]
      funext q
      simp [mPut_at, upd]
theorem imageL_161 {Q : Option Value → iHp → Prop} (hx : ∀ s1, sEx [39] s0 s1 ∧ mAr s0 s1 3840 39 9 → iWp 1 mX9_image 186 [.ref x, .int (nI 3840)] [] (mH b x s1) Q) : ∀ k r s1, r + k = 3840 → sEx [39] s0 s1 ∧ mAr s0 s1 r 39 9 → iWp 1 mX9_image 161 [.ref x, .int (nI r)] [] (mH b x s1) Q := by
  intro k
  induction k with
  | zero =>
    intro r s1 hr hP
    obtain rfl : r = 3840 := by omega
    rw [X9_image_161]
    simp only [X9_image_162, X9_image_165, X9_image_168, X9_image_169, X9_image_172, X9_image_173, X9_image_174, X9_image_177, X9_image_178, X9_image_179, X9_image_180, X9_image_183, iOb_some, iClr_i, iClr_r, iClr_n, iClr_u, iClr_l, rf_s, rf_n, iB_0, iSum_nil, if_pos (show (3840 : Int32) ≤ nI 3840 by decide)]
    exact hx s1 hP
  | succ k ih =>
    intro r s1 hr hP
    obtain ⟨e0, p39⟩ := hP
    rw [X9_image_161]
    simp only [X9_image_162, X9_image_165, X9_image_168, X9_image_169, X9_image_172, X9_image_173, X9_image_174, X9_image_177, X9_image_178, X9_image_179, X9_image_180, X9_image_183, iOb_some, iClr_i, iClr_r, iClr_n, iClr_u, iClr_l, rf_s, rf_n, iB_0, iSum_nil, if_neg (show ¬ (3840 : Int32) ≤ nI r from nI_ge (b := 3840) (by omega) (by decide)), mg39, mg9, ml9 (show r < 3840 by omega), ms39 (show r < 3840 by omega), nI_1]
    refine ih (r + 1) _ (by omega) ⟨?_, ?_⟩
    · exact e0.trans (mPut_ex (by decide))
    · refine mAr_s p39 ?_
      have z : s0.2.1 9 r = s1.2.1 9 r := (congrFun (e0.2.1 9 (by decide)) r).symm
      rw [z]
      funext q
      simp [mPut_at, upd]
theorem restoreL_40 {Q : Option Value → iHp → Prop} (hx : ∀ s1, sEx [1] s0 s1 ∧ mAr s0 s1 16 1 32 → iWp 2 mX9_restore 64 [.ref x, .int (nI 16)] [] (mH b x s1) Q) : ∀ k r s1, r + k = 16 → sEx [1] s0 s1 ∧ mAr s0 s1 r 1 32 → iWp 2 mX9_restore 40 [.ref x, .int (nI r)] [] (mH b x s1) Q := by
  intro k
  induction k with
  | zero =>
    intro r s1 hr hP
    obtain rfl : r = 16 := by omega
    rw [X9_restore_40]
    simp only [X9_restore_41, X9_restore_43, X9_restore_46, X9_restore_47, X9_restore_50, X9_restore_51, X9_restore_52, X9_restore_55, X9_restore_56, X9_restore_57, X9_restore_58, X9_restore_61, iOb_some, iClr_i, iClr_r, iClr_n, iClr_u, iClr_l, rf_s, rf_n, iB_0, iSum_nil, if_pos (show (16 : Int32) ≤ nI 16 by decide)]
    exact hx s1 hP
  | succ k ih =>
    intro r s1 hr hP
    obtain ⟨e0, p1⟩ := hP
    rw [X9_restore_40]
    simp only [X9_restore_41, X9_restore_43, X9_restore_46, X9_restore_47, X9_restore_50, X9_restore_51, X9_restore_52, X9_restore_55, X9_restore_56, X9_restore_57, X9_restore_58, X9_restore_61, iOb_some, iClr_i, iClr_r, iClr_n, iClr_u, iClr_l, rf_s, rf_n, iB_0, iSum_nil, if_neg (show ¬ (16 : Int32) ≤ nI r from nI_ge (b := 16) (by omega) (by decide)), mg1, mg32, ml32 (show r < 16 by omega), ms1 (show r < 16 by omega), nI_1]
    refine ih (r + 1) _ (by omega) ⟨?_, ?_⟩
    · exact e0.trans (mPut_ex (by decide))
    · refine mAr_s p1 ?_
      have z : s0.2.1 32 r = s1.2.1 32 r := (congrFun (e0.2.1 32 (by decide)) r).symm
      rw [z]
      funext q
      simp [mPut_at, upd]
theorem restoreL_66 {Q : Option Value → iHp → Prop} (hx : ∀ s1, sEx [2, 3, 4] s0 s1 ∧ mAr s0 s1 1024 2 33 ∧ mAr s0 s1 1024 3 34 ∧ mAr s0 s1 1024 4 35 → iWp 2 mX9_restore 115 [.ref x, .int (nI 1024)] [] (mH b x s1) Q) : ∀ k r s1, r + k = 1024 → sEx [2, 3, 4] s0 s1 ∧ mAr s0 s1 r 2 33 ∧ mAr s0 s1 r 3 34 ∧ mAr s0 s1 r 4 35 → iWp 2 mX9_restore 66 [.ref x, .int (nI r)] [] (mH b x s1) Q := by
  intro k
  induction k with
  | zero =>
    intro r s1 hr hP
    obtain rfl : r = 1024 := by omega
    rw [X9_restore_66]
    simp only [X9_restore_67, X9_restore_70, X9_restore_73, X9_restore_74, X9_restore_77, X9_restore_78, X9_restore_79, X9_restore_82, X9_restore_83, X9_restore_84, X9_restore_85, X9_restore_86, X9_restore_89, X9_restore_90, X9_restore_91, X9_restore_94, X9_restore_95, X9_restore_96, X9_restore_97, X9_restore_98, X9_restore_101, X9_restore_102, X9_restore_103, X9_restore_106, X9_restore_107, X9_restore_108, X9_restore_109, X9_restore_112, iOb_some, iClr_i, iClr_r, iClr_n, iClr_u, iClr_l, rf_s, rf_n, iB_0, iSum_nil, if_pos (show (1024 : Int32) ≤ nI 1024 by decide)]
    exact hx s1 hP
  | succ k ih =>
    intro r s1 hr hP
    obtain ⟨e0, p2, p3, p4⟩ := hP
    rw [X9_restore_66]
    simp only [X9_restore_67, X9_restore_70, X9_restore_73, X9_restore_74, X9_restore_77, X9_restore_78, X9_restore_79, X9_restore_82, X9_restore_83, X9_restore_84, X9_restore_85, X9_restore_86, X9_restore_89, X9_restore_90, X9_restore_91, X9_restore_94, X9_restore_95, X9_restore_96, X9_restore_97, X9_restore_98, X9_restore_101, X9_restore_102, X9_restore_103, X9_restore_106, X9_restore_107, X9_restore_108, X9_restore_109, X9_restore_112, iOb_some, iClr_i, iClr_r, iClr_n, iClr_u, iClr_l, rf_s, rf_n, iB_0, iSum_nil, if_neg (show ¬ (1024 : Int32) ≤ nI r from nI_ge (b := 1024) (by omega) (by decide)), mg2, mg33, ml33 (show r < 1024 by omega), ms2 (show r < 1024 by omega), mg3, mg34, ml34 (show r < 1024 by omega), ms3 (show r < 1024 by omega), mg4, mg35, ml35 (show r < 1024 by omega), ms4 (show r < 1024 by omega), nI_1]
    refine ih (r + 1) _ (by omega) ⟨?_, ?_, ?_, ?_⟩
    · exact e0.trans (((mPut_ex (by decide)).trans (mPut_ex (by decide))).trans (mPut_ex (by decide)))
    · refine mAr_s p2 ?_
      have z : s0.2.1 33 r = s1.2.1 33 r := (congrFun (e0.2.1 33 (by decide)) r).symm
      rw [z]
      funext q
      simp [mPut_at, upd]
    · refine mAr_s p3 ?_
      have z : s0.2.1 34 r = s1.2.1 34 r := (congrFun (e0.2.1 34 (by decide)) r).symm
      rw [z]
      funext q
      simp [mPut_at, upd]
    · refine mAr_s p4 ?_
      have z : s0.2.1 35 r = s1.2.1 35 r := (congrFun (e0.2.1 35 (by decide)) r).symm
      rw [z]
      funext q
      simp [mPut_at, upd]
theorem restoreL_117 {Q : Option Value → iHp → Prop} (hx : ∀ s1, sEx [7] s0 s1 ∧ mAr s0 s1 80 7 37 → iWp 2 mX9_restore 141 [.ref x, .int (nI 80)] [] (mH b x s1) Q) : ∀ k r s1, r + k = 80 → sEx [7] s0 s1 ∧ mAr s0 s1 r 7 37 → iWp 2 mX9_restore 117 [.ref x, .int (nI r)] [] (mH b x s1) Q := by
  intro k
  induction k with
  | zero =>
    intro r s1 hr hP
    obtain rfl : r = 80 := by omega
    rw [X9_restore_117]
    simp only [X9_restore_118, X9_restore_120, X9_restore_123, X9_restore_124, X9_restore_127, X9_restore_128, X9_restore_129, X9_restore_132, X9_restore_133, X9_restore_134, X9_restore_135, X9_restore_138, iOb_some, iClr_i, iClr_r, iClr_n, iClr_u, iClr_l, rf_s, rf_n, iB_0, iSum_nil, if_pos (show (80 : Int32) ≤ nI 80 by decide)]
    exact hx s1 hP
  | succ k ih =>
    intro r s1 hr hP
    obtain ⟨e0, p7⟩ := hP
    rw [X9_restore_117]
    simp only [X9_restore_118, X9_restore_120, X9_restore_123, X9_restore_124, X9_restore_127, X9_restore_128, X9_restore_129, X9_restore_132, X9_restore_133, X9_restore_134, X9_restore_135, X9_restore_138, iOb_some, iClr_i, iClr_r, iClr_n, iClr_u, iClr_l, rf_s, rf_n, iB_0, iSum_nil, if_neg (show ¬ (80 : Int32) ≤ nI r from nI_ge (b := 80) (by omega) (by decide)), mg7, mg37, ml37 (show r < 80 by omega), ms7 (show r < 80 by omega), nI_1]
    refine ih (r + 1) _ (by omega) ⟨?_, ?_⟩
    · exact e0.trans (mPut_ex (by decide))
    · refine mAr_s p7 ?_
      have z : s0.2.1 37 r = s1.2.1 37 r := (congrFun (e0.2.1 37 (by decide)) r).symm
      rw [z]
      funext q
      simp [mPut_at, upd]
theorem restoreL_143 {Q : Option Value → iHp → Prop} (hx : ∀ s1, sEx [8] s0 s1 ∧ mAr s0 s1 13440 8 38 → iWp 2 mX9_restore 168 [.ref x, .int (nI 13440)] [] (mH b x s1) Q) : ∀ k r s1, r + k = 13440 → sEx [8] s0 s1 ∧ mAr s0 s1 r 8 38 → iWp 2 mX9_restore 143 [.ref x, .int (nI r)] [] (mH b x s1) Q := by
  intro k
  induction k with
  | zero =>
    intro r s1 hr hP
    obtain rfl : r = 13440 := by omega
    rw [X9_restore_143]
    simp only [X9_restore_144, X9_restore_147, X9_restore_150, X9_restore_151, X9_restore_154, X9_restore_155, X9_restore_156, X9_restore_159, X9_restore_160, X9_restore_161, X9_restore_162, X9_restore_165, iOb_some, iClr_i, iClr_r, iClr_n, iClr_u, iClr_l, rf_s, rf_n, iB_0, iSum_nil, if_pos (show (13440 : Int32) ≤ nI 13440 by decide)]
    exact hx s1 hP
  | succ k ih =>
    intro r s1 hr hP
    obtain ⟨e0, p8⟩ := hP
    rw [X9_restore_143]
    simp only [X9_restore_144, X9_restore_147, X9_restore_150, X9_restore_151, X9_restore_154, X9_restore_155, X9_restore_156, X9_restore_159, X9_restore_160, X9_restore_161, X9_restore_162, X9_restore_165, iOb_some, iClr_i, iClr_r, iClr_n, iClr_u, iClr_l, rf_s, rf_n, iB_0, iSum_nil, if_neg (show ¬ (13440 : Int32) ≤ nI r from nI_ge (b := 13440) (by omega) (by decide)), mg8, mg38, ml38 (show r < 13440 by omega), ms8 (show r < 13440 by omega), nI_1]
    refine ih (r + 1) _ (by omega) ⟨?_, ?_⟩
    · exact e0.trans (mPut_ex (by decide))
    · refine mAr_s p8 ?_
      have z : s0.2.1 38 r = s1.2.1 38 r := (congrFun (e0.2.1 38 (by decide)) r).symm
      rw [z]
      funext q
      simp [mPut_at, upd]
theorem restoreL_170 {Q : Option Value → iHp → Prop} (hx : ∀ s1, sEx [9] s0 s1 ∧ mAr s0 s1 3840 9 39 → iWp 2 mX9_restore 195 [.ref x, .int (nI 3840)] [] (mH b x s1) Q) : ∀ k r s1, r + k = 3840 → sEx [9] s0 s1 ∧ mAr s0 s1 r 9 39 → iWp 2 mX9_restore 170 [.ref x, .int (nI r)] [] (mH b x s1) Q := by
  intro k
  induction k with
  | zero =>
    intro r s1 hr hP
    obtain rfl : r = 3840 := by omega
    rw [X9_restore_170]
    simp only [X9_restore_171, X9_restore_174, X9_restore_177, X9_restore_178, X9_restore_181, X9_restore_182, X9_restore_183, X9_restore_186, X9_restore_187, X9_restore_188, X9_restore_189, X9_restore_192, iOb_some, iClr_i, iClr_r, iClr_n, iClr_u, iClr_l, rf_s, rf_n, iB_0, iSum_nil, if_pos (show (3840 : Int32) ≤ nI 3840 by decide)]
    exact hx s1 hP
  | succ k ih =>
    intro r s1 hr hP
    obtain ⟨e0, p9⟩ := hP
    rw [X9_restore_170]
    simp only [X9_restore_171, X9_restore_174, X9_restore_177, X9_restore_178, X9_restore_181, X9_restore_182, X9_restore_183, X9_restore_186, X9_restore_187, X9_restore_188, X9_restore_189, X9_restore_192, iOb_some, iClr_i, iClr_r, iClr_n, iClr_u, iClr_l, rf_s, rf_n, iB_0, iSum_nil, if_neg (show ¬ (3840 : Int32) ≤ nI r from nI_ge (b := 3840) (by omega) (by decide)), mg9, mg39, ml39 (show r < 3840 by omega), ms9 (show r < 3840 by omega), nI_1]
    refine ih (r + 1) _ (by omega) ⟨?_, ?_⟩
    · exact e0.trans (mPut_ex (by decide))
    · refine mAr_s p9 ?_
      have z : s0.2.1 39 r = s1.2.1 39 r := (congrFun (e0.2.1 39 (by decide)) r).symm
      rw [z]
      funext q
      simp [mPut_at, upd]
end IML

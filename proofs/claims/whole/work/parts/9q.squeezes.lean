/-! squeeze: the reference, one look along the row -/
def eZ (e : Nat → Int32) : Prop := (e 0 = 0 ∨ e 0 = 1 ∨ e 0 = 2 ∨ e 0 = 3) ∧ (e 0 = 0 → e 4 = 0 ∧ e 5 = 0 ∧ e 6 = 0)
section SQZS
variable {h : iHp} {i j k l x m a c p q r t n N : Nat} {W : wW} {G M H : Nat → Nat → Int32} {e f : Nat → Int32} {b : iHp} {s s0 s1 s2 s' : mS} {Z : pP}
theorem eOk.z (h : eOk e) : eZ e := ⟨h.2.1, h.2.2.2.2.2.2.1⟩
theorem eTurn_0 (h : e 0 = 0) : eTurn e = e7 0 (e 1) (e 3) (e 2) 0 0 0 := if_pos h
theorem eNames_t (h : eNames e f = true) : e 0 = 0 ∧ f 0 = 0 ∧ e 1 = f 1 := of_decide_eq_true h
theorem eLike_t (h : eLike e f = true) : e 0 = f 0 ∧ e 1 = f 1 ∧ e 2 = f 2 ∧ e 3 = f 3 ∧ e 4 = f 4 ∧ e 5 = f 5 ∧ e 6 = f 6 := of_decide_eq_true h
theorem names_like (h1 : eNames e f = true) (h2 : eLike f (eTurn e) = true) : e 2 = f 3 := by
  obtain ⟨a0, -⟩ := eNames_t h1
  rw [eTurn_0 a0] at h2
  exact (eLike_t h2).2.2.2.1.symm
theorem mMd.congr {M' : Nat → Nat → Int32} (hM : mMd s n M) (h : ∀ i k, i < n → k < 7 → M i k = M' i k) : mMd s n M' := ⟨hM.1, fun i k hi hk => (hM.2 i k hi hk).trans (h i k hi hk)⟩
theorem mMd.g (hM : mMd s n M) (hi : i < n) (hn : n ≤ 199) (hk : k < 7) : iLdI (mH b x s) (x + 18) (nI (7 * i + k)) = some (M i k) := by
  rw [ml26 (show 7 * i + k < 1400 by omega), hM.2 i k hi hk]
theorem sqz_a7 : nI (7 * i) + 7 = nI (7 * (i + 1) + 0) := by
  rw [show (7 : Int32) = nI 7 from rfl, nI_add]
  rfl
theorem sqz_a8 : nI (7 * i) + 8 = nI (7 * (i + 1) + 1) := by
  rw [show (8 : Int32) = nI 8 from rfl, nI_add]
  rfl
theorem sqz_a10 : nI (7 * i) + 10 = nI (7 * (i + 1) + 3) := by
  rw [show (10 : Int32) = nI 10 from rfl, nI_add]
  rfl
theorem sqz_a1 : nI (7 * i) + 1 = nI (7 * i + 1) := nI_add (7 * i) 1
theorem sqz_a2 : nI (7 * i) + 2 = nI (7 * i + 2) := nI_add (7 * i) 2
theorem sqz_a3 : nI (7 * i) + 3 = nI (7 * i + 3) := nI_add (7 * i) 3
/-- neither undone nor two NAMES -/
theorem sqs_no {w : Value} {Q : Option Value → iHp → Prop} (hM : mMd s N M) (hi : i + 1 < N) (hN : N ≤ 120) (he : eZ (M i)) (h1 : eNames (M i) (M (i + 1)) = false) (h2 : eLike (M (i + 1)) (eTurn (M i)) = false) (hQ : ∀ s2, sEx [25, 26] s s2 → mMd s2 N M → iWp 4 mX9_squeezes 2 [.ref x, .int (nI (i + 1)), .int (nI (7 * i))] [] (mH b x s2) Q) : iWp 4 mX9_squeezes 2 [.ref x, .int (nI i), w] [] (mH b x s) Q := by
  obtain ⟨s2, k1, k2, k3⟩ := ev9_undoes (b := b) (x := x) hM hi (by omega) he.1
  rw [h2, show iB false = 0 from rfl] at k1
  have g0 : iLdI (mH b x s2) (x + 18) (nI (7 * i)) = some (M i 0) := k2.g (i := i) (k := 0) (by omega) (by omega) (by decide)
  have g7 := k2.g (b := b) (x := x) (i := i + 1) (k := 0) (by omega) (by omega) (by decide)
  have g1 := k2.g (b := b) (x := x) (i := i) (k := 1) (by omega) (by omega) (by decide)
  have g8 := k2.g (b := b) (x := x) (i := i + 1) (k := 1) (by omega) (by omega) (by decide)
  have hQ := hQ s2 k3 k2
  have hd : ¬ (M i 0 = 0 ∧ M (i + 1) 0 = 0 ∧ M i 1 = M (i + 1) 1) := of_decide_eq_false h1
  rw [X9_squeezes_2]
  by_cases c0 : M i 0 = 0
  · by_cases c1 : M (i + 1) 0 = 0
    · have c2 : ¬ M i 1 = M (i + 1) 1 := fun z => hd ⟨c0, c1, z⟩
      simp only [X9_squeezes_3, X9_squeezes_4, X9_squeezes_5, X9_squeezes_6, X9_squeezes_9, X9_squeezes_12, X9_squeezes_14, X9_squeezes_15, X9_squeezes_16, X9_squeezes_17, X9_squeezes_18, X9_squeezes_19 k1 mH_obj, X9_squeezes_22, X9_squeezes_25, X9_squeezes_26, X9_squeezes_27, X9_squeezes_31, X9_squeezes_32, X9_squeezes_32z, X9_squeezes_32o, X9_squeezes_33, X9_squeezes_34, X9_squeezes_37, X9_squeezes_38, X9_squeezes_39, X9_squeezes_42, X9_squeezes_43, X9_squeezes_46, X9_squeezes_47, X9_squeezes_49, X9_squeezes_50, X9_squeezes_51, X9_squeezes_54, X9_squeezes_55, X9_squeezes_58, X9_squeezes_59, X9_squeezes_60, X9_squeezes_61, X9_squeezes_62, X9_squeezes_63, X9_squeezes_66, X9_squeezes_67, X9_squeezes_69, X9_squeezes_70, X9_squeezes_71, X9_squeezes_74, iOb_some, iClr_i, iClr_r, iClr_n, iClr_u, iClr_l, rf_s, rf_n, iB_0, iSum_nil, mg25, hM.1, nI_1, if_neg (nI_ge (show i + 1 < N by omega) (show N < 2 ^ 31 by omega)), i7, if_true, mg26, g0, c0, sqz_a7, g7, c1, sqz_a1, g1, sqz_a8, g8, if_neg c2]
      simp only [X9_squeezes_129, X9_squeezes_132, iOb_some, iClr_i, iClr_r, iClr_n, iClr_u, iClr_l, rf_s, rf_n, iB_0, iSum_nil, nI_1]
      exact hQ
    · simp only [X9_squeezes_3, X9_squeezes_4, X9_squeezes_5, X9_squeezes_6, X9_squeezes_9, X9_squeezes_12, X9_squeezes_14, X9_squeezes_15, X9_squeezes_16, X9_squeezes_17, X9_squeezes_18, X9_squeezes_19 k1 mH_obj, X9_squeezes_22, X9_squeezes_25, X9_squeezes_26, X9_squeezes_27, X9_squeezes_31, X9_squeezes_32, X9_squeezes_32z, X9_squeezes_32o, X9_squeezes_33, X9_squeezes_34, X9_squeezes_37, X9_squeezes_38, X9_squeezes_39, X9_squeezes_42, X9_squeezes_43, X9_squeezes_46, X9_squeezes_47, X9_squeezes_49, X9_squeezes_50, X9_squeezes_51, iOb_some, iClr_i, iClr_r, iClr_n, iClr_u, iClr_l, rf_s, rf_n, iB_0, iSum_nil, mg25, hM.1, nI_1, if_neg (nI_ge (show i + 1 < N by omega) (show N < 2 ^ 31 by omega)), i7, if_true, mg26, g0, c0, sqz_a7, g7, if_neg c1]
      simp only [X9_squeezes_129, X9_squeezes_132, iOb_some, iClr_i, iClr_r, iClr_n, iClr_u, iClr_l, rf_s, rf_n, iB_0, iSum_nil, nI_1]
      exact hQ
  · simp only [X9_squeezes_3, X9_squeezes_4, X9_squeezes_5, X9_squeezes_6, X9_squeezes_9, X9_squeezes_12, X9_squeezes_14, X9_squeezes_15, X9_squeezes_16, X9_squeezes_17, X9_squeezes_18, X9_squeezes_19 k1 mH_obj, X9_squeezes_22, X9_squeezes_25, X9_squeezes_26, X9_squeezes_27, X9_squeezes_31, X9_squeezes_32, X9_squeezes_32z, X9_squeezes_32o, X9_squeezes_33, X9_squeezes_34, X9_squeezes_37, X9_squeezes_38, X9_squeezes_39, iOb_some, iClr_i, iClr_r, iClr_n, iClr_u, iClr_l, rf_s, rf_n, iB_0, iSum_nil, mg25, hM.1, nI_1, if_neg (nI_ge (show i + 1 < N by omega) (show N < 2 ^ 31 by omega)), i7, if_true, mg26, g0, if_neg c0]
    simp only [X9_squeezes_129, X9_squeezes_132, iOb_some, iClr_i, iClr_r, iClr_n, iClr_u, iClr_l, rf_s, rf_n, iB_0, iSum_nil, nI_1]
    exact hQ
/-- one undoes the other -/
theorem sqs_un {w : Value} {Q : Option Value → iHp → Prop} (hM : mMd s N M) (hi : i + 1 < N) (hN : N ≤ 120) (he : eZ (M i)) (h2 : eLike (M (i + 1)) (eTurn (M i)) = true) (hQ : ∀ s2, sEx [25, 26] s s2 → mMd s2 (N - 2) (mDr M i 2) → Q (some (.int 1)) (mH b x s2)) : iWp 4 mX9_squeezes 2 [.ref x, .int (nI i), w] [] (mH b x s) Q := by
  obtain ⟨s2, k1, k2, k3⟩ := ev9_undoes (b := b) (x := x) hM hi (by omega) he.1
  rw [h2, show iB true = 1 from rfl] at k1
  obtain ⟨s3, q1, q2, q3⟩ := ev9_vanish (b := b) (x := x) (i := i) (c := 2) k2 (by omega) (by omega)
  rw [show nI 2 = 2 from rfl] at q1
  rw [X9_squeezes_2]
  simp only [X9_squeezes_3, X9_squeezes_4, X9_squeezes_5, X9_squeezes_6, X9_squeezes_9, X9_squeezes_12, X9_squeezes_14, X9_squeezes_15, X9_squeezes_16, X9_squeezes_17, X9_squeezes_18, X9_squeezes_19 k1 mH_obj, X9_squeezes_22, X9_squeezes_25, X9_squeezes_26, X9_squeezes_27, X9_squeezes_28 q1 mH_obj, X9_squeezes_31, X9_squeezes_32, X9_squeezes_32z, X9_squeezes_32o, iOb_some, iClr_i, iClr_r, iClr_n, iClr_u, iClr_l, rf_s, rf_n, iB_0, iSum_nil, mg25, hM.1, nI_1, if_neg (nI_ge (show i + 1 < N by omega) (show N < 2 ^ 31 by omega)), i7, if_neg (show ¬ (1 : Int32) = 0 by decide)]
  exact hQ s3 (k3.trans q3) q2
/-- two NAMES -/
theorem sqs_jn {w : Value} {Q : Option Value → iHp → Prop} (hM : mMd s N M) (hi : i + 1 < N) (hN : N ≤ 120) (he : eZ (M i)) (h1 : eNames (M i) (M (i + 1)) = true) (h2 : eLike (M (i + 1)) (eTurn (M i)) = false) (hQ1 : M i 2 = M (i + 1) 3 → ∀ s2, sEx [25, 26] s s2 → mMd s2 (N - 2) (mDr M i 2) → Q (some (.int 1)) (mH b x s2)) (hQ2 : M i 2 ≠ M (i + 1) 3 → ∀ s2, sEx [25, 26] s s2 → mMd s2 (N - 1) (mDr (va_up M i (upd (M i) 3 (M (i + 1) 3))) (i + 1) 1) → Q (some (.int 1)) (mH b x s2)) : iWp 4 mX9_squeezes 2 [.ref x, .int (nI i), w] [] (mH b x s) Q := by
  obtain ⟨s2, k1, k2, k3⟩ := ev9_undoes (b := b) (x := x) hM hi (by omega) he.1
  rw [h2, show iB false = 0 from rfl] at k1
  have g0 : iLdI (mH b x s2) (x + 18) (nI (7 * i)) = some (M i 0) := k2.g (i := i) (k := 0) (by omega) (by omega) (by decide)
  have g7 := k2.g (b := b) (x := x) (i := i + 1) (k := 0) (by omega) (by omega) (by decide)
  have g1 := k2.g (b := b) (x := x) (i := i) (k := 1) (by omega) (by omega) (by decide)
  have g8 := k2.g (b := b) (x := x) (i := i + 1) (k := 1) (by omega) (by omega) (by decide)
  have g10 := k2.g (b := b) (x := x) (i := i + 1) (k := 3) (by omega) (by omega) (by decide)
  obtain ⟨c0, c1, c2⟩ := eNames_t h1
  have m3 : mMd (mPut s2 26 (7 * i + 3) (M (i + 1) 3)) N (va_up M i (upd (M i) 3 (M (i + 1) 3))) := by
    refine ⟨k2.1, fun q k hq hk => ?_⟩
    rw [mPut_at, if_pos rfl]
    unfold va_up upd
    by_cases cq : q = i
    · subst cq
      rw [if_pos rfl]
      by_cases ck : k = 3
      · rw [if_pos (by omega), if_pos ck]
      · rw [if_neg (by omega), if_neg ck]
        exact k2.2 q k hq hk
    · rw [if_neg (by omega), if_neg cq]
      exact k2.2 q k hq hk
  obtain ⟨s3, q1, q2, q3⟩ := ev9_vanish (b := b) (x := x) (i := i + 1) (c := 1) m3 (by omega) (by omega)
  rw [show nI 1 = 1 from rfl] at q1
  have x3 : sEx [25, 26] s s3 := (k3.trans (mPut_ex (by decide))).trans q3
  have v2 := q2.g (b := b) (x := x) (i := i) (k := 2) (by omega) (by omega) (by decide)
  have v3 := q2.g (b := b) (x := x) (i := i) (k := 3) (by omega) (by omega) (by decide)
  rw [show mDr (va_up M i (upd (M i) 3 (M (i + 1) 3))) (i + 1) 1 i 2 = M i 2 from by
    unfold mDr va_up upd
    rw [if_pos (by omega), if_pos rfl, if_neg (by decide)]] at v2
  rw [show mDr (va_up M i (upd (M i) 3 (M (i + 1) 3))) (i + 1) 1 i 3 = M (i + 1) 3 from by
    unfold mDr va_up upd
    rw [if_pos (by omega), if_pos rfl, if_pos rfl]] at v3
  rw [X9_squeezes_2]
  simp only [X9_squeezes_3, X9_squeezes_4, X9_squeezes_5, X9_squeezes_6, X9_squeezes_9, X9_squeezes_12, X9_squeezes_14, X9_squeezes_15, X9_squeezes_16, X9_squeezes_17, X9_squeezes_18, X9_squeezes_19 k1 mH_obj, X9_squeezes_22, X9_squeezes_25, X9_squeezes_26, X9_squeezes_27, X9_squeezes_31, X9_squeezes_32, X9_squeezes_32z, X9_squeezes_32o, X9_squeezes_33, X9_squeezes_34, X9_squeezes_37, X9_squeezes_38, X9_squeezes_39, X9_squeezes_42, X9_squeezes_43, X9_squeezes_46, X9_squeezes_47, X9_squeezes_49, X9_squeezes_50, X9_squeezes_51, X9_squeezes_54, X9_squeezes_55, X9_squeezes_58, X9_squeezes_59, X9_squeezes_60, X9_squeezes_61, X9_squeezes_62, X9_squeezes_63, X9_squeezes_66, X9_squeezes_67, X9_squeezes_69, X9_squeezes_70, X9_squeezes_71, X9_squeezes_74, X9_squeezes_77, X9_squeezes_78, X9_squeezes_81, X9_squeezes_82, X9_squeezes_83, X9_squeezes_84, X9_squeezes_85, X9_squeezes_88, X9_squeezes_89, X9_squeezes_91, X9_squeezes_92, X9_squeezes_93, X9_squeezes_94, X9_squeezes_95, X9_squeezes_96, X9_squeezes_97, X9_squeezes_98, X9_squeezes_99 q1 mH_obj, X9_squeezes_102, X9_squeezes_103, X9_squeezes_106, X9_squeezes_107, X9_squeezes_108, X9_squeezes_109, X9_squeezes_110, X9_squeezes_111, X9_squeezes_114, X9_squeezes_115, X9_squeezes_116, X9_squeezes_117, iOb_some, iClr_i, iClr_r, iClr_n, iClr_u, iClr_l, rf_s, rf_n, iB_0, iSum_nil, mg25, hM.1, nI_1, if_neg (nI_ge (show i + 1 < N by omega) (show N < 2 ^ 31 by omega)), i7, if_true, mg26, g0, c0, sqz_a7, g7, c1, sqz_a1, g1, sqz_a8, g8, if_pos c2, sqz_a10, g10, sqz_a3, ms26 (show 7 * i + 3 < 1400 by omega), sqz_a2, v2, v3]
  by_cases c3 : M i 2 = M (i + 1) 3
  · obtain ⟨s4, z1, z2, z3⟩ := ev9_vanish (b := b) (x := x) (i := i) (c := 1) q2 (by omega) (by omega)
    rw [show nI 1 = 1 from rfl] at z1
    simp only [X9_squeezes_118, X9_squeezes_121, X9_squeezes_122, X9_squeezes_123, X9_squeezes_124 z1 mH_obj, X9_squeezes_127, X9_squeezes_128, X9_squeezes_128z, X9_squeezes_128o, iOb_some, iClr_i, iClr_r, iClr_n, iClr_u, iClr_l, rf_s, rf_n, iB_0, iSum_nil, if_neg (show ¬ ¬ M i 2 = M (i + 1) 3 from fun z => z c3), if_pos c3]
    refine hQ1 c3 s4 (x3.trans z3) ((show N - 1 - 1 = N - 2 by omega) ▸ z2.congr (fun q k hq hk => ?_))
    unfold mDr va_up
    by_cases cq : q < i
    · rw [if_pos cq, if_pos (by omega), if_neg (by omega), if_pos cq]
    · rw [if_neg cq, if_neg (by omega), if_neg (by omega), if_neg cq]
  · simp only [X9_squeezes_118, X9_squeezes_121, X9_squeezes_122, X9_squeezes_123, X9_squeezes_127, X9_squeezes_128, X9_squeezes_128z, X9_squeezes_128o, iOb_some, iClr_i, iClr_r, iClr_n, iClr_u, iClr_l, rf_s, rf_n, iB_0, iSum_nil, if_neg c3]
    exact hQ2 c3 s3 x3 q2
end SQZS

/-! forget, restore: the reference -/
section RESTORE9
variable {h h' : iHp} {i j k x m q t pc : Nat} {W : wW} {b : iHp} {s s0 s1 s' : mS} {v u : Nat → hS} {w : sT}
theorem vS_1 {z : hS} : (vS pc z).1 = z.1 := by
  unfold vS
  cases e : z.1 with
  | some y => exact e
  | none =>
    dsimp only
    split
    · rfl
    · exact e
theorem vF_1 : (vF pc v i j).1 = (v j).1 := by
  unfold vF
  split
  · exact vS_1
  · rfl
theorem mRel.shs (hR : mRel s W) (hx : sEx [11] s s') (h1 : ∀ j, j < 8 → s'.2.1 11 j = hHold (u j)) (h2 : ∀ j, j < 8 → (u j).1 = (W.2.2.1 j).1) : mRel s' (wShs W u) := by
  obtain ⟨a1, a2, a3, a4, a5, a6⟩ := hR
  obtain ⟨x1, x2, x3⟩ := hx
  refine ⟨?_, ?_, fun j hj => ⟨h1 j hj, fun r hr => ?_⟩, ?_, ?_, ?_⟩
  · unfold mNow at a1 ⊢
    rw [x1 0 (by decide), x1 5 (by decide), x1 10 (by decide), x2 1 (by decide), x2 2 (by decide), x2 3 (by decide), x2 4 (by decide), x2 7 (by decide), x2 8 (by decide), x2 9 (by decide)]
    exact a1
  · show (match W.2.1 with
      | none => s'.1 30 = 0
      | some w => s'.1 30 = 1 ∧ mOld s' w)
    unfold mOld at a2 ⊢
    rw [x1 30 (by decide), x1 31 (by decide), x1 36 (by decide), x1 40 (by decide), x2 32 (by decide), x2 33 (by decide), x2 34 (by decide), x2 35 (by decide), x2 37 (by decide), x2 38 (by decide), x2 39 (by decide)]
    exact a2
  · have hr : (u j).1 = some r := hr
    rw [h2 j hj] at hr
    have := (a3 j hj).2 r hr
    rw [x2 12 (by decide), x3]
    exact this
  · intro k hk
    rw [x2 17 (by decide)]
    exact a4 k hk
  · rw [x1 14 (by decide)]
    exact a5
  · rw [x1 6 (by decide)]
    exact a6
/-- shelves in the reference's loops -/
def vInv (s0 s1 : mS) (pc : Nat) (v : Nat → hS) (i : Nat) : Prop := sEx [11] s0 s1 ∧ ∀ j, j < 8 → s1.2.1 11 j = hHold (vF pc v i j)
theorem vInv_put (hI : vInv s0 s1 pc v i) (hi : i < 8) (e : hHold (vS pc (v i)) = -1) : vInv s0 (mPut s1 11 i (-1)) pc v (i + 1) := by
  refine ⟨hI.1.trans (mPut_ex (by decide)), fun j hj => ?_⟩
  rw [mPut_at, if_pos rfl, ← vF_s]
  unfold va_up
  by_cases c : j = i
  · rw [if_pos c, if_pos c, e]
  · rw [if_neg c, if_neg c]
    exact hI.2 j hj
theorem vInv_no (hI : vInv s0 s1 pc v i) (e : vS pc (v i) = v i) : vInv s0 s1 pc v (i + 1) := by
  refine ⟨hI.1, fun j hj => ?_⟩
  rw [hI.2 j hj, ← vF_s, e]
  unfold va_up
  by_cases c : j = i
  · rw [if_pos c, c, vF_i]
  · rw [if_neg c]
theorem forget_loop (hv : ∀ j, j < 8 → shOk (pc + 1) (v j)) (hpc : pc ≤ 15) (hp : s0.1 5 = nI pc) {Q : Option Value → iHp → Prop} (hQ : ∀ s1, vInv s0 s1 pc v 8 → Q (some (.int (nI pc))) (mH b x s1)) : ∀ k i s1, i + k = 8 → vInv s0 s1 pc v i → iWp 2 mX9_forget 26 [.ref x, .int (nI i)] [] (mH b x s1) Q := by
  intro k
  induction k with
  | zero =>
    intro i s1 hi hI
    obtain rfl : i = 8 := by omega
    have e5 : s1.1 5 = nI pc := (hI.1.1 5 (by decide)).trans hp
    rw [X9_forget_26]
    simp only [X9_forget_27, X9_forget_29, X9_forget_32, X9_forget_33, X9_forget_36, X9_forget_37, X9_forget_38, X9_forget_39, X9_forget_42, X9_forget_45, X9_forget_46, X9_forget_49, X9_forget_50, X9_forget_51, X9_forget_52, X9_forget_55, X9_forget_58, X9_forget_59, X9_forget_62, iOb_some, iClr_i, iClr_r, iClr_n, iClr_u, iClr_l, rf_s, rf_n, iB_0, iSum_nil, if_pos (show (8 : Int32) ≤ nI 8 by decide), mg5, e5]
    exact hQ s1 hI
  | succ k ih =>
    intro i s1 hi hI
    have e5 : s1.1 5 = nI pc := (hI.1.1 5 (by decide)).trans hp
    have h8 : ¬ (8 : Int32) ≤ nI i := nI_ge (b := 8) (by omega) (by decide)
    have e11 := hI.2 i (by omega)
    rw [vF_i] at e11
    have ho := hv i (by omega)
    unfold shOk at ho
    rw [X9_forget_26]
    by_cases c : hHold (v i) = nI pc
    · have en : (v i).1 = none ∧ (v i).2 = nI pc := by
        cases z : (v i).1 with
        | none =>
          unfold hHold at c
          rw [z] at c
          exact ⟨rfl, c⟩
        | some y =>
          rw [z] at ho
          unfold hHold at c
          rw [z] at c
          dsimp only at c ho
          exfalso
          have : (100 : Int32) ≤ nI pc := by
            rw [← c]
            rcases ho.1 with w | w | w | w <;> (rw [w]; decide)
          exact nI_ge (a := pc) (b := 100) (by omega) (by decide) this
      have es : hHold (vS pc (v i)) = -1 := by
        unfold vS
        rw [en.1]
        dsimp only
        rw [if_pos (by rw [en.2]; exact Int32.le_refl _)]
        rfl
      simp only [X9_forget_27, X9_forget_29, X9_forget_32, X9_forget_33, X9_forget_36, X9_forget_37, X9_forget_38, X9_forget_39, X9_forget_42, X9_forget_45, X9_forget_46, X9_forget_49, X9_forget_50, X9_forget_51, X9_forget_52, X9_forget_55, iOb_some, iClr_i, iClr_r, iClr_n, iClr_u, iClr_l, rf_s, rf_n, iB_0, iSum_nil, if_neg h8, mg11, ml11 (show i < 8 by omega), e11, mg5, e5, if_pos c, ms11 (show i < 8 by omega), nI_1]
      exact ih (i + 1) _ (by omega) (vInv_put hI (by omega) es)
    · have es : vS pc (v i) = v i := by
        unfold vS
        cases z : (v i).1 with
        | some y => rfl
        | none =>
          rw [z] at ho
          dsimp only
          refine if_neg (fun y => c ?_)
          have hh : hHold (v i) = (v i).2 := by unfold hHold; rw [z]
          rcases ho with w | ⟨p, hp2, w⟩
          · rw [w] at y
            exact absurd (Int32.le_trans (nI_pos' (show pc < 2 ^ 31 by omega)) y) (by decide)
          · rw [w] at y
            have := (nI_leI (a := pc) (b := p) (by omega) (by omega)).mp y
            rw [hh, w]
            exact congrArg nI (by omega)
      simp only [X9_forget_27, X9_forget_29, X9_forget_32, X9_forget_33, X9_forget_36, X9_forget_37, X9_forget_38, X9_forget_39, X9_forget_42, X9_forget_45, X9_forget_46, X9_forget_49, X9_forget_50, X9_forget_51, X9_forget_52, X9_forget_55, iOb_some, iClr_i, iClr_r, iClr_n, iClr_u, iClr_l, rf_s, rf_n, iB_0, iSum_nil, if_neg h8, mg11, ml11 (show i < 8 by omega), e11, mg5, e5, if_neg c, nI_1]
      exact ih (i + 1) _ (by omega) (vInv_no hI es)
theorem m9_forget (hR : mRel s W) (hW : wOk W) : ∃ r h1, iEv mX9_forget [.ref x] (mH b x s) r h1 ∧ m9P b x (aForget W) r h1 := by
  refine I9_forget ?_
  unfold aForget
  have p16 := hW.1.2.1
  by_cases c : W.1.2.2.1 = 0
  · rw [if_pos c]
    simp only [X9_forget_0, X9_forget_1, X9_forget_4, X9_forget_7, X9_forget_8, X9_forget_10 (ev9_noV (v := -6) (r := 6) (by decide) rfl) mH_obj, X9_forget_13, iOb_some, iClr_i, iClr_r, iClr_n, iClr_u, iClr_l, rf_s, rf_n, iB_0, iSum_nil, mg5, hR.1.2.1, c, show nI 0 = (0 : Int32) from rfl, if_true]
    exact m9_rf hR (by decide)
  · rw [if_neg c]
    obtain ⟨q, hq⟩ : ∃ q, W.1.2.2.1 = q + 1 := ⟨W.1.2.2.1 - 1, by omega⟩
    have c0 : ¬ nI (q + 1) = 0 := nI_ne0 (by omega) (by omega)
    rw [show W.1.2.2.1 - 1 = q by omega]
    have hN : mRel (mSet s 5 (nI q)) (wNow W (W.1.1, W.1.2.1, q, W.1.2.2.2)) := by
      refine hR.now (fun y hy => if_neg (fun z => hy (by rw [z]; decide))) (fun _ _ => rfl) rfl ?_
      obtain ⟨a1, a2, a3, a4, a5⟩ := hR.1
      exact ⟨a1, rfl, a3, a4, fun p hp => a5 p (by have : p < q := hp; omega)⟩
    simp only [X9_forget_0, X9_forget_1, X9_forget_4, X9_forget_7, X9_forget_8, X9_forget_13, X9_forget_14, X9_forget_15, X9_forget_16, X9_forget_19, X9_forget_20, X9_forget_21, X9_forget_24, X9_forget_25, iOb_some, iClr_i, iClr_r, iClr_n, iClr_u, iClr_l, rf_s, rf_n, iB_0, iSum_nil, mg5, hR.1.2.1, hq, if_neg c0, i_w1, dI_c, mp5]
    refine forget_loop (s0 := mSet s 5 (nI q)) (v := W.2.2.1) (pc := q) (fun j hj => by rw [← hq]; exact hW.2.2 j hj) (by omega) rfl (fun s1 hI => ?_) 8 0 _ (by omega) ⟨sEx.refl, fun j hj => ?_⟩
    · exact ⟨rfl, s1, rfl, hN.shs hI.1 hI.2 (fun j hj => vF_1)⟩
    · rw [vF_0]
      exact (hR.2.2.1 j hj).1
-- restore
theorem ev9_isRow0 {i : Nat} (hi : i < 8) : iEv mX9_isRow [.ref x, .int (nI i)] (mH b x s) (some (.int (iB (decide ((100 : Int32) ≤ s.2.1 11 i))))) (mH b x s) := by
  refine J9_isRow ?_
  by_cases c : s.2.1 11 i < 100
  · simp only [X9_isRow_0, X9_isRow_1, X9_isRow_4, X9_isRow_5, X9_isRow_6, X9_isRow_8, X9_isRow_11, X9_isRow_12, X9_isRow_15, X9_isRow_16, X9_isRow_16z, X9_isRow_16o, iOb_some, iClr_i, iClr_r, iClr_n, iClr_u, iClr_l, rf_s, rf_n, iB_0, iSum_nil, mg11, ml11 hi, if_pos c]
    rw [decide_eq_false (Int32.not_le.mpr c)]
    exact ⟨rfl, trivial⟩
  · simp only [X9_isRow_0, X9_isRow_1, X9_isRow_4, X9_isRow_5, X9_isRow_6, X9_isRow_8, X9_isRow_11, X9_isRow_12, X9_isRow_15, X9_isRow_16, X9_isRow_16z, X9_isRow_16o, iOb_some, iClr_i, iClr_r, iClr_n, iClr_u, iClr_l, rf_s, rf_n, iB_0, iSum_nil, mg11, ml11 hi, if_neg c]
    rw [decide_eq_true (Int32.not_lt.mp c)]
    exact ⟨rfl, trivial⟩
theorem restore_loop {pc0 n : Nat} (hv : ∀ j, j < 8 → shOk pc0 (v j)) (hp0 : pc0 ≤ 16) (hpc : pc ≤ 16) (hp : s0.1 5 = nI pc) (hn : s0.1 0 = nI n) {Q : Option Value → iHp → Prop} (hQ : ∀ s1, vInv s0 s1 pc v 8 → Q (some (.int (nI n))) (mH b x s1)) : ∀ k i s1, i + k = 8 → vInv s0 s1 pc v i → iWp 2 mX9_restore 197 [.ref x, .int (nI i)] [] (mH b x s1) Q := by
  intro k
  induction k with
  | zero =>
    intro i s1 hi hI
    obtain rfl : i = 8 := by omega
    have e0 : s1.1 0 = nI n := (hI.1.1 0 (by decide)).trans hn
    rw [X9_restore_197]
    simp only [X9_restore_198, X9_restore_200, X9_restore_203, X9_restore_204, X9_restore_208, X9_restore_211, X9_restore_212, X9_restore_215, X9_restore_216, X9_restore_217, X9_restore_218, X9_restore_221, X9_restore_224, X9_restore_225, X9_restore_228, X9_restore_229, X9_restore_230, X9_restore_231, X9_restore_234, X9_restore_237, X9_restore_238, X9_restore_241, iOb_some, iClr_i, iClr_r, iClr_n, iClr_u, iClr_l, rf_s, rf_n, iB_0, iSum_nil, if_pos (show (8 : Int32) ≤ nI 8 by decide), mg0, e0]
    exact hQ s1 hI
  | succ k ih =>
    intro i s1 hi hI
    have e5 : s1.1 5 = nI pc := (hI.1.1 5 (by decide)).trans hp
    have h8 : ¬ (8 : Int32) ≤ nI i := nI_ge (b := 8) (by omega) (by decide)
    have e11 := hI.2 i (by omega)
    rw [vF_i] at e11
    have hr := hold_row (hv i (by omega)) hp0
    have er := ev9_isRow0 (b := b) (x := x) (s := s1) (show i < 8 by omega)
    rw [e11] at er
    rw [X9_restore_197]
    cases z : (v i).1 with
    | some y =>
      rw [decide_eq_true (hr.2.1 y z)] at er
      have es : vS pc (v i) = v i := by
        unfold vS
        rw [z]
      simp only [X9_restore_198, X9_restore_200, X9_restore_203, X9_restore_204, X9_restore_205 er mH_obj, X9_restore_208, X9_restore_211, X9_restore_212, X9_restore_215, X9_restore_216, X9_restore_217, X9_restore_218, X9_restore_221, X9_restore_224, X9_restore_225, X9_restore_228, X9_restore_229, X9_restore_230, X9_restore_231, X9_restore_234, iOb_some, iClr_i, iClr_r, iClr_n, iClr_u, iClr_l, rf_s, rf_n, iB_0, iSum_nil, if_neg h8, Bool.true_eq_false, if_false, nI_1]
      exact ih (i + 1) _ (by omega) (vInv_no hI es)
    | none =>
      rw [decide_eq_false (hr.1 z)] at er
      have hh : hHold (v i) = (v i).2 := by unfold hHold; rw [z]
      by_cases c : nI pc ≤ (v i).2
      · have es : hHold (vS pc (v i)) = -1 := by
          unfold vS
          rw [z]
          dsimp only
          rw [if_pos c]
          rfl
        simp only [X9_restore_198, X9_restore_200, X9_restore_203, X9_restore_204, X9_restore_205 er mH_obj, X9_restore_208, X9_restore_211, X9_restore_212, X9_restore_215, X9_restore_216, X9_restore_217, X9_restore_218, X9_restore_221, X9_restore_224, X9_restore_225, X9_restore_228, X9_restore_229, X9_restore_230, X9_restore_231, X9_restore_234, iOb_some, iClr_i, iClr_r, iClr_n, iClr_u, iClr_l, rf_s, rf_n, iB_0, iSum_nil, if_neg h8, if_true, mg11, ml11 (show i < 8 by omega), e11, hh, mg5, e5, if_neg (Int32.not_lt.mpr c), ms11 (show i < 8 by omega), nI_1]
        exact ih (i + 1) _ (by omega) (vInv_put hI (by omega) es)
      · have es : vS pc (v i) = v i := by
          unfold vS
          rw [z]
          exact if_neg c
        simp only [X9_restore_198, X9_restore_200, X9_restore_203, X9_restore_204, X9_restore_205 er mH_obj, X9_restore_208, X9_restore_211, X9_restore_212, X9_restore_215, X9_restore_216, X9_restore_217, X9_restore_218, X9_restore_221, X9_restore_224, X9_restore_225, X9_restore_228, X9_restore_229, X9_restore_230, X9_restore_231, X9_restore_234, iOb_some, iClr_i, iClr_r, iClr_n, iClr_u, iClr_l, rf_s, rf_n, iB_0, iSum_nil, if_neg h8, if_true, mg11, ml11 (show i < 8 by omega), e11, hh, mg5, e5, if_pos (Int32.not_le.mp c), nI_1]
        exact ih (i + 1) _ (by omega) (vInv_no hI es)
theorem m9_restore (hR : mRel s W) (hW : wOk W) : ∃ r h1, iEv mX9_restore [.ref x] (mH b x s) r h1 ∧ m9P b x (aRestore W) r h1 := by
  refine I9_restore ?_
  unfold aRestore
  have hI := hR.2.1
  cases e : W.2.1 with
  | none =>
    rw [e] at hI
    simp only [X9_restore_0, X9_restore_1, X9_restore_4, X9_restore_7, X9_restore_8, X9_restore_10 (ev9_noV (v := -6) (r := 6) (by decide) rfl) mH_obj, X9_restore_13, iOb_some, iClr_i, iClr_r, iClr_n, iClr_u, iClr_l, rf_s, rf_n, iB_0, iSum_nil, mg30, hI, if_true]
    exact m9_rf hR (by decide)
  | some w =>
    rw [e] at hI
    have ow := hW.2.1 w e
    obtain ⟨i30, hO⟩ := hI
    simp only [X9_restore_0, X9_restore_1, X9_restore_4, X9_restore_7, X9_restore_8, X9_restore_13, X9_restore_14, X9_restore_15, X9_restore_16, X9_restore_19, X9_restore_22, X9_restore_23, X9_restore_24, X9_restore_27, X9_restore_30, X9_restore_31, X9_restore_32, X9_restore_35, X9_restore_38, X9_restore_39, iOb_some, iClr_i, iClr_r, iClr_n, iClr_u, iClr_l, rf_s, rf_n, iB_0, iSum_nil, mg30, i30, if_neg (show ¬ (1 : Int32) = 0 by decide), mg31, mp0, mg36, mp5, mg40, mp10]
    generalize hs0 : mSet (mSet (mSet s 0 (s.1 31)) 5 ((mSet s 0 (s.1 31)).1 36)) 10 ((mSet (mSet s 0 (s.1 31)) 5 ((mSet s 0 (s.1 31)).1 36)).1 40) = s0
    have x0 : sEx [0, 1, 2, 3, 4, 5, 7, 8, 9, 10] s s0 := by
      rw [← hs0]
      exact ((mSet_ex (by decide)).trans (mSet_ex (by decide))).trans (mSet_ex (by decide))
    have z0 : s0.1 0 = s.1 31 := by rw [← hs0]; simp [mSet_at]
    have z5 : s0.1 5 = s.1 36 := by rw [← hs0]; simp [mSet_at]
    have z10 : s0.1 10 = s.1 40 := by rw [← hs0]; simp [mSet_at]
    refine restoreL_40 (s0 := s0) (fun s1 y1 => ?_) 16 0 s0 (by omega) ⟨sEx.refl, fun j hj => by omega⟩
    simp only [X9_restore_64, X9_restore_65, iOb_some, iClr_i, iClr_r, iClr_n, iClr_u, iClr_l, rf_s, rf_n, iB_0, iSum_nil]
    refine restoreL_66 (s0 := s1) (fun s2 y2 => ?_) 1024 0 s1 (by omega) ⟨sEx.refl, fun j hj => by omega, fun j hj => by omega, fun j hj => by omega⟩
    simp only [X9_restore_115, X9_restore_116, iOb_some, iClr_i, iClr_r, iClr_n, iClr_u, iClr_l, rf_s, rf_n, iB_0, iSum_nil]
    refine restoreL_117 (s0 := s2) (fun s3 y3 => ?_) 80 0 s2 (by omega) ⟨sEx.refl, fun j hj => by omega⟩
    simp only [X9_restore_141, X9_restore_142, iOb_some, iClr_i, iClr_r, iClr_n, iClr_u, iClr_l, rf_s, rf_n, iB_0, iSum_nil]
    refine restoreL_143 (s0 := s3) (fun s4 y4 => ?_) 13440 0 s3 (by omega) ⟨sEx.refl, fun j hj => by omega⟩
    simp only [X9_restore_168, X9_restore_169, iOb_some, iClr_i, iClr_r, iClr_n, iClr_u, iClr_l, rf_s, rf_n, iB_0, iSum_nil]
    refine restoreL_170 (s0 := s4) (fun s5 y5 => ?_) 3840 0 s4 (by omega) ⟨sEx.refl, fun j hj => by omega⟩
    have x1 : sEx [0, 1, 2, 3, 4, 5, 7, 8, 9, 10] s s1 := x0.trans (y1.1.mono (by decide))
    have x2 : sEx [0, 1, 2, 3, 4, 5, 7, 8, 9, 10] s s2 := x1.trans (y2.1.mono (by decide))
    have x3 : sEx [0, 1, 2, 3, 4, 5, 7, 8, 9, 10] s s3 := x2.trans (y3.1.mono (by decide))
    have x4 : sEx [0, 1, 2, 3, 4, 5, 7, 8, 9, 10] s s4 := x3.trans (y4.1.mono (by decide))
    have x5 : sEx [0, 1, 2, 3, 4, 5, 7, 8, 9, 10] s s5 := x4.trans (y5.1.mono (by decide))
    have nm : ∀ q, q ∉ [1, 2, 3, 4, 7, 8, 9] → s5.1 q = s0.1 q := by
      intro q hq
      rw [y5.1.1 q (fun z => hq (by revert z; simp; omega)), y4.1.1 q (fun z => hq (by revert z; simp; omega)), y3.1.1 q (fun z => hq (by revert z; simp; omega)), y2.1.1 q (fun z => hq (by revert z; simp; omega)), y1.1.1 q (fun z => hq (by revert z; simp; omega))]
    have hN : mNow s5 w := by
      show mStt (s5.1 0) (s5.2.1 1) (s5.2.1 2) (s5.2.1 3) (s5.2.1 4) (s5.1 5) (s5.2.1 7) (s5.2.1 8) (s5.2.1 9) (s5.1 10) w
      rw [(nm 0 (by decide)).trans z0, (nm 5 (by decide)).trans z5, (nm 10 (by decide)).trans z10]
      refine mStt_copy hO ow ?_ ?_ ?_ ?_ ?_ ?_ ?_
      · exact ((((y1.2.up y2.1 (by decide)).up y3.1 (by decide)).up y4.1 (by decide)).up y5.1 (by decide)).dn x0 (by decide)
      · exact (((y2.2.1.up y3.1 (by decide)).up y4.1 (by decide)).up y5.1 (by decide)).dn x1 (by decide)
      · exact (((y2.2.2.1.up y3.1 (by decide)).up y4.1 (by decide)).up y5.1 (by decide)).dn x1 (by decide)
      · exact (((y2.2.2.2.up y3.1 (by decide)).up y4.1 (by decide)).up y5.1 (by decide)).dn x1 (by decide)
      · exact ((y3.2.up y4.1 (by decide)).up y5.1 (by decide)).dn x2 (by decide)
      · exact (y4.2.up y5.1 (by decide)).dn x3 (by decide)
      · exact y5.2.dn x4 (by decide)
    have hM : mRel s5 (wNow W w) := hR.now x5.1 x5.2.1 x5.2.2 hN
    simp only [X9_restore_195, X9_restore_196, iOb_some, iClr_i, iClr_r, iClr_n, iClr_u, iClr_l, rf_s, rf_n, iB_0, iSum_nil]
    refine restore_loop (s0 := s5) (v := W.2.2.1) (pc0 := W.1.2.2.1) (pc := w.2.2.1) (n := w.1) (fun j hj => hW.2.2 j hj) hW.1.2.1 ow.2.1 hN.2.1 hN.1 (fun s6 hI => ?_) 8 0 _ (by omega) ⟨sEx.refl, fun j hj => ?_⟩
    · exact ⟨rfl, s6, rfl, hM.shs hI.1 hI.2 (fun j hj => vF_1)⟩
    · rw [vF_0]
      exact (hM.2.2.1 j hj).1
end RESTORE9

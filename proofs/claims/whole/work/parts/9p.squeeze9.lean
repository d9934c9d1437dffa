/-! squeeze: the reference -/
def likeF (e f : Nat → Int32) : Nat → Nat → Bool
  | 0, _ => true
  | r + 1, j => decide (e j = f j) && likeF e f r (j + 1)
section SQZ9
variable {h : iHp} {i j k l x m a c p q r t n N : Nat} {W : wW} {G M H : Nat → Nat → Int32} {e f : Nat → Int32} {b : iHp} {s s0 s1 s2 s' : mS} {Z : pP}
theorem likeF_eq : likeF e f 7 0 = eLike f e := by
  show (decide (e 0 = f 0) && (decide (e 1 = f 1) && (decide (e 2 = f 2) && (decide (e 3 = f 3) && (decide (e 4 = f 4) && (decide (e 5 = f 5) && (decide (e 6 = f 6) && true))))))) = decide (f 0 = e 0 ∧ f 1 = e 1 ∧ f 2 = e 2 ∧ f 3 = e 3 ∧ f 4 = e 4 ∧ f 5 = e 5 ∧ f 6 = e 6)
  rw [Bool.eq_iff_iff]
  simp only [Bool.and_eq_true, decide_eq_true_eq, Bool.and_true]
  constructor
  · rintro ⟨z0, z1, z2, z3, z4, z5, z6⟩
    exact ⟨z0.symm, z1.symm, z2.symm, z3.symm, z4.symm, z5.symm, z6.symm⟩
  · rintro ⟨z0, z1, z2, z3, z4, z5, z6⟩
    exact ⟨z0.symm, z1.symm, z2.symm, z3.symm, z4.symm, z5.symm, z6.symm⟩
theorem undoes_loop (h1 : s.1 25 = nI n) (hT : ∀ k, k < 7 → s.2.1 26 (7 * n + k) = e k) (hF : ∀ k, k < 7 → s.2.1 26 (7 * (i + 1) + k) = f k) (hn : n < 199) (hi : i + 1 < n) {Q : Option Value → iHp → Prop} : ∀ r j, j + r = 7 → (iWp 3 mX9_undoes 24 [.ref x, .int (nI i), .int (nI j)] [] (mH b x s) Q = Q (some (.int (iB (likeF e f r j)))) (mH b x s)) := by
  intro r
  induction r with
  | zero =>
    intro j hj
    obtain rfl : j = 7 := by omega
    rw [X9_undoes_24]
    simp only [X9_undoes_25, X9_undoes_27, X9_undoes_30, X9_undoes_31, X9_undoes_34, X9_undoes_36, X9_undoes_37, X9_undoes_40, X9_undoes_41, X9_undoes_42, X9_undoes_43, X9_undoes_44, X9_undoes_45, X9_undoes_48, X9_undoes_50, X9_undoes_51, X9_undoes_52, X9_undoes_54, X9_undoes_55, X9_undoes_56, X9_undoes_57, X9_undoes_58, X9_undoes_61, X9_undoes_62, X9_undoes_62z, X9_undoes_62o, X9_undoes_63, X9_undoes_66, X9_undoes_69, X9_undoes_70, X9_undoes_70z, X9_undoes_70o, iOb_some, iClr_i, iClr_r, iClr_n, iClr_u, iClr_l, rf_s, rf_n, iB_0, iSum_nil, if_pos (show (7 : Int32) ≤ nI 7 by decide), likeF]
  | succ r ih =>
    intro j hj
    have t1 := hT j (by omega)
    have t2 := hF j (by omega)
    rw [X9_undoes_24]
    have a1 : nI (7 * i) + 7 + nI j = nI (7 * (i + 1) + j) := by
      rw [show (7 : Int32) = nI 7 from rfl, nI_add, nI_add]
      exact congrArg nI (by omega)
    unfold likeF
    by_cases c : e j = f j
    · rw [decide_eq_true c, Bool.true_and, ← ih (j + 1) (by omega)]
      simp only [X9_undoes_25, X9_undoes_27, X9_undoes_30, X9_undoes_31, X9_undoes_34, X9_undoes_36, X9_undoes_37, X9_undoes_40, X9_undoes_41, X9_undoes_42, X9_undoes_43, X9_undoes_44, X9_undoes_45, X9_undoes_48, X9_undoes_50, X9_undoes_51, X9_undoes_52, X9_undoes_54, X9_undoes_55, X9_undoes_56, X9_undoes_57, X9_undoes_58, X9_undoes_61, X9_undoes_62, X9_undoes_62z, X9_undoes_62o, X9_undoes_63, X9_undoes_66, iOb_some, iClr_i, iClr_r, iClr_n, iClr_u, iClr_l, rf_s, rf_n, iB_0, iSum_nil, if_neg (show ¬ (7 : Int32) ≤ nI j from nI_ge (b := 7) (by omega) (by decide)), mg26, mg25, h1, i7, a1, nI_add, ml26 (show 7 * n + j < 1400 by omega), ml26 (show 7 * (i + 1) + j < 1400 by omega), t1, t2, if_pos c, nI_1]
    · rw [decide_eq_false c, Bool.false_and]
      simp only [X9_undoes_25, X9_undoes_27, X9_undoes_30, X9_undoes_31, X9_undoes_34, X9_undoes_36, X9_undoes_37, X9_undoes_40, X9_undoes_41, X9_undoes_42, X9_undoes_43, X9_undoes_44, X9_undoes_45, X9_undoes_48, X9_undoes_50, X9_undoes_51, X9_undoes_52, X9_undoes_54, X9_undoes_55, X9_undoes_56, X9_undoes_57, X9_undoes_58, X9_undoes_61, X9_undoes_62, X9_undoes_62z, X9_undoes_62o, iOb_some, iClr_i, iClr_r, iClr_n, iClr_u, iClr_l, rf_s, rf_n, iB_0, iSum_nil, if_neg (show ¬ (7 : Int32) ≤ nI j from nI_ge (b := 7) (by omega) (by decide)), mg26, mg25, h1, i7, a1, nI_add, ml26 (show 7 * n + j < 1400 by omega), ml26 (show 7 * (i + 1) + j < 1400 by omega), t1, t2, if_neg c]
theorem ev9_undoes (hM : mMd s n M) (hi : i + 1 < n) (hn : n < 199) (he : M i 0 = 0 ∨ M i 0 = 1 ∨ M i 0 = 2 ∨ M i 0 = 3) : ∃ s', iEv mX9_undoes [.ref x, .int (nI i)] (mH b x s) (some (.int (iB (eLike (M (i + 1)) (eTurn (M i)))))) (mH b x s') ∧ mMd s' n M ∧ sEx [25, 26] s s' := by
  obtain ⟨s1, k1, k2, k3⟩ := ev9_turns (b := b) (x := x) (inAt_making hM (show i < n by omega) (by omega)) he hM hn
  have v1 : s1.1 25 = nI (n + 1) := k2.1
  refine ⟨mSet s1 25 (nI n), ?_, ⟨rfl, fun q k hq hk => ?_⟩, k3.trans (mSet_ex (by decide))⟩
  · refine J9_undoes ?_
    simp only [X9_undoes_0, X9_undoes_1, X9_undoes_2, X9_undoes_5, X9_undoes_7, X9_undoes_8, X9_undoes_9 k1 mH_obj (cat_r (x + 18)), X9_undoes_12, X9_undoes_13, X9_undoes_14, X9_undoes_17, X9_undoes_18, X9_undoes_19, X9_undoes_22, X9_undoes_23, iOb_some, iClr_i, iClr_r, iClr_n, iClr_u, iClr_l, rf_s, rf_n, iB_0, iSum_nil, mg26, i7, mg25, v1, nI_pred, mp25]
    rw [show (0 : Int32) = nI 0 from rfl, undoes_loop (s := mSet s1 25 (nI n)) (n := n) (e := eTurn (M i)) (f := M (i + 1)) rfl (fun k hk => ?_) (fun k hk => ?_) hn hi 7 0 (by omega), likeF_eq]
    · exact ⟨rfl, rfl⟩
    · have := k2.2 n k (by omega) hk
      rw [show va_up M n (eTurn (M i)) n = eTurn (M i) from if_pos rfl] at this
      exact this
    · have := k2.2 (i + 1) k (by omega) hk
      rw [show va_up M n (eTurn (M i)) (i + 1) = M (i + 1) from if_neg (by omega)] at this
      exact this
  · have := k2.2 q k (by omega) hk
    rw [show va_up M n (eTurn (M i)) q = M q from if_neg (by omega)] at this
    exact this
/-- edits taken out -/
def mDr (M : Nat → Nat → Int32) (i c : Nat) : Nat → Nat → Int32 := fun j => if j < i then M j else M (j + c)
def vnI (s0 s1 : mS) (i c q : Nat) : Prop := sEx [26] s0 s1 ∧ ∀ p, s1.2.1 26 p = if 7 * i ≤ p ∧ p < q then s0.2.1 26 (p + 7 * c) else s0.2.1 26 p
theorem vanish_loop (h1 : s0.1 25 = nI n) (hn : n + c ≤ 199) {Q : Option Value → iHp → Prop} (hQ : ∀ s1, vnI s0 s1 i c (7 * n) → Q none (mH b x s1)) : ∀ r q s1, q + r = 7 * n → 7 * i ≤ q → vnI s0 s1 i c q → iWp 1 mX9_vanish 15 [.ref x, .int (nI i), .int (nI c), .int (nI q)] [] (mH b x s1) Q := by
  intro r
  induction r with
  | zero =>
    intro q s1 hq hi hI
    obtain rfl : q = 7 * n := by omega
    have e1 := (hI.1.1 25 (by decide)).trans h1
    rw [X9_vanish_15]
    simp only [X9_vanish_16, X9_vanish_18, X9_vanish_19, X9_vanish_22, X9_vanish_23, X9_vanish_26, X9_vanish_27, X9_vanish_30, X9_vanish_31, X9_vanish_32, X9_vanish_35, X9_vanish_36, X9_vanish_38, X9_vanish_39, X9_vanish_40, X9_vanish_41, X9_vanish_42, X9_vanish_43, X9_vanish_46, X9_vanish_49, iOb_some, iClr_i, iClr_r, iClr_n, iClr_u, iClr_l, rf_s, rf_n, iB_0, iSum_nil, mg25, e1, i7, if_pos (Int32.le_refl (nI (7 * n)))]
    exact hQ s1 hI
  | succ r ih =>
    intro q s1 hq hi hI
    have e1 := (hI.1.1 25 (by decide)).trans h1
    have e2 : s1.2.1 26 (q + 7 * c) = s0.2.1 26 (q + 7 * c) := by
      rw [hI.2, if_neg (by omega)]
    rw [X9_vanish_15]
    simp only [X9_vanish_16, X9_vanish_18, X9_vanish_19, X9_vanish_22, X9_vanish_23, X9_vanish_26, X9_vanish_27, X9_vanish_30, X9_vanish_31, X9_vanish_32, X9_vanish_35, X9_vanish_36, X9_vanish_38, X9_vanish_39, X9_vanish_40, X9_vanish_41, X9_vanish_42, X9_vanish_43, X9_vanish_46, iOb_some, iClr_i, iClr_r, iClr_n, iClr_u, iClr_l, rf_s, rf_n, iB_0, iSum_nil, mg25, e1, i7, if_neg (nI_ge (show q < 7 * n by omega) (show 7 * n < 2 ^ 31 by omega)), mg26, nI_add, ml26 (show q + 7 * c < 1400 by omega), e2, ms26 (show q < 1400 by omega), nI_1]
    refine ih (q + 1) _ (by omega) (by omega) ⟨hI.1.trans (mPut_ex (by decide)), fun p => ?_⟩
    rw [mPut_at, if_pos rfl]
    by_cases cp : p = q
    · rw [if_pos cp, if_pos (by omega), cp]
    · rw [if_neg cp, hI.2]
      by_cases c2 : 7 * i ≤ p ∧ p < q
      · rw [if_pos c2, if_pos (by omega)]
      · rw [if_neg c2, if_neg (by omega)]
theorem ev9_vanish (hM : mMd s n M) (hi : i + c ≤ n) (hn : n ≤ 199) : ∃ s', iEv mX9_vanish [.ref x, .int (nI i), .int (nI c)] (mH b x s) none (mH b x s') ∧ mMd s' (n - c) (mDr M i c) ∧ sEx [25, 26] s s' := by
  have z : iWp 1 mX9_vanish 0 [.ref x, .int (nI i), .int (nI c), iU] [] (mH b x s) (fun r h1 => r = none ∧ ∃ s', h1 = mH b x s' ∧ mMd s' (n - c) (mDr M i c) ∧ sEx [25, 26] s s') := by
    have e1 : nI n - nI c = nI (n - c) := pk_sub (by omega)
    simp only [X9_vanish_0, X9_vanish_1, X9_vanish_2, X9_vanish_5, X9_vanish_6, X9_vanish_7, X9_vanish_10, X9_vanish_12, X9_vanish_13, X9_vanish_14, iOb_some, iClr_i, iClr_r, iClr_n, iClr_u, iClr_l, rf_s, rf_n, iB_0, iSum_nil, mg25, hM.1, e1, mp25, i7]
    refine vanish_loop (s0 := mSet s 25 (nI (n - c))) (n := n - c) (i := i) rfl (by omega) (fun s1 hI => ?_) (7 * (n - c) - 7 * i) (7 * i) _ (by omega) (Nat.le_refl _) ⟨sEx.refl, fun p => by rw [if_neg (by omega)]⟩
    refine ⟨rfl, s1, rfl, ⟨(hI.1.1 25 (by decide)).trans rfl, fun q k hq hk => ?_⟩, (mSet_ex (by decide)).trans (hI.1.mono (by decide))⟩
    rw [hI.2]
    unfold mDr
    by_cases c1 : q < i
    · rw [if_neg (by omega), if_pos c1]
      exact hM.2 q k (by omega) hk
    · rw [if_pos (by omega), if_neg c1, show 7 * q + k + 7 * c = 7 * (q + c) + k by omega]
      exact hM.2 (q + c) k (by omega) hk
  obtain ⟨r, h1, ev, rfl, s', rfl, g⟩ := I9_vanish z
  exact ⟨s', ev, g⟩
end SQZ9

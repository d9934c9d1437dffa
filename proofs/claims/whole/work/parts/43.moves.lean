/-! the reference: moves -/
section MOVES
variable {b : iHp} {x n m a r : Nat} {s : mS} {K B D C E F : Nat → Int32} {e : Nat → Int32}
theorem oI_s {i : Nat} : oI (some i) = nI i := rfl
theorem oI_n : oI none = -1 := rfl
theorem i_sub0 (x : Int32) : x - 0 = x := by simp
theorem moves_1 (hin : inAt b x s r a e) (h66 : n ≤ 66) {i g g' pl : Nat} (hi0 : 0 < i) (hi : i < n) (hg : tWhere K n (e 5) = some g) (hp : i ≠ 0 → tPar D i ≠ none) (c1 : tPK K D i = e 3) (c2 : nI (tPlace D i) = e 4) (c3 : ¬ (i ≤ g ∧ g < tEnd D n i)) (hpl : e 6 = nI pl) (hp30 : pl < 2 ^ 30) (c4 : nI pl ≤ eLast n D i g) (hm : tEnd D n i - i = m)
    (hg' : tWhere (tSh K i m (n - m)) (n - m) (e 5) = some g') : iEv mX9_moves [.ref x, .ref r, .int (nI a), .int (nI i)] (mH b x (wS s n K B D C E F)) (some (.int (iB true))) (mH b x (wS s (n - m + m) (tPt (tUp (tSh K i m (n - m)) m (n - m) (tChild (tSh D i m (n - m)) (n - m) g' pl)) (tCp C K i m) (tChild (tSh D i m (n - m)) (n - m) g' pl) m) (tPt (tUp (tSh B i m (n - m)) m (n - m) (tChild (tSh D i m (n - m)) (n - m) g' pl)) (tCp E B i m) (tChild (tSh D i m (n - m)) (n - m) g' pl) m) (tPt (tUp (tSh D i m (n - m)) m (n - m) (tChild (tSh D i m (n - m)) (n - m) g' pl)) (fun q => tCpD F D i m q + (tSh D i m (n - m) g' + 1)) (tChild (tSh D i m (n - m)) (n - m) g' pl) m) (tCp C K i m) (tCp E B i m) (tCpD F D i m))) := by
  refine J9_moves (cat_r r) ?_
  have hgn := (tWhere_lt hg).1
  have hE := tEnd_gt (D := D) hi
  have hgn' := (tWhere_lt hg').1
  have hkl := tKids_le (D := D) (n := n) (i := g)
  have eg := f9_find (b := b) (x := x) (s := s) (K := K) (B := B) (D := D) (C := C) (E := E) (F := F) (n := n) h66 (e 5)
  rw [hg] at eg
  have eb := f9_isBelow (b := b) (x := x) (s := s) (K := K) (B := B) (D := D) (C := C) (E := E) (F := F) (n := n) h66 hgn hi
  have c3' : (decide (i ≤ g) && decide (g < tEnd D n i)) = false := by
    cases z : (decide (i ≤ g) && decide (g < tEnd D n i)) with
    | false => rfl
    | true => exact absurd (by simpa using z) c3
  rw [c3'] at eb
  have ec := ev9_cuts (b := b) (x := x) (s := s) (K := K) (B := B) (D := D) (C := C) (E := E) (F := F) (i := i) (m := m) (show i + m ≤ n by omega) h66 (by omega)
  have eg' := f9_find (b := b) (x := x) (s := s) (K := tSh K i m (n - m)) (B := tSh B i m (n - m)) (D := tSh D i m (n - m)) (C := tCp C K i m) (E := tCp E B i m) (F := tCpD F D i m) (n := n - m) (by omega) (e 5)
  rw [hg'] at eg'
  have ep := ev9_puts (b := b) (x := x) (s := s) (n := n - m) (m := m) (K := tSh K i m (n - m)) (B := tSh B i m (n - m)) (D := tSh D i m (n - m)) (C := tCp C K i m) (E := tCp E B i m) (F := tCpD F D i m) hgn' hp30 (by omega)
  simp only [X9_moves_0, X9_moves_1, X9_moves_1n, X9_moves_2, X9_moves_3, X9_moves_4, X9_moves_5, X9_moves_6 eg mH_obj, X9_moves_9, X9_moves_11, X9_moves_12, X9_moves_15, X9_moves_17, iOb_some, iClr_i, iClr_r, iClr_n, iClr_u, iClr_l, rf_s, rf_n, iB_0, iSum_nil, hin.g5, oI_s, oI_n, if_neg (show ¬ nI i ≤ 0 from nI_nle hi0 (by omega))]
  simp only [X9_moves_18, X9_moves_21, X9_moves_22, X9_moves_23 (f9_parentKey h66 hi hp) mH_obj, X9_moves_26, X9_moves_26n, X9_moves_27, X9_moves_28, X9_moves_29, X9_moves_30, X9_moves_31, X9_moves_34, X9_moves_35, X9_moves_36 (f9_place h66 hi) mH_obj, X9_moves_39, X9_moves_39n, X9_moves_40, X9_moves_41, X9_moves_42, X9_moves_43, X9_moves_44, X9_moves_47, X9_moves_48, X9_moves_50, X9_moves_51 eb mH_obj, X9_moves_54, X9_moves_57, X9_moves_58, X9_moves_58z, X9_moves_58o, iOb_some, iClr_i, iClr_r, iClr_n, iClr_u, iClr_l, rf_s, rf_n, iB_0, iSum_nil, if_neg (oI_ne (show g < 2 ^ 31 by omega)), hin.g3, if_pos c1, hin.g4, if_pos c2, if_true]
  simp only [X9_moves_59, X9_moves_60, X9_moves_62 (f9_children h66 hgn) mH_obj, X9_moves_65, X9_moves_66, X9_moves_67 (f9_parent h66 hi) mH_obj, X9_moves_70, iOb_some, iClr_i, iClr_r, iClr_n, iClr_u, iClr_l, rf_s, rf_n, iB_0, iSum_nil]
  have ew : ∀ z : Int32, eLast n D i g = z → iEv mX9_within [.int (nI pl), .int 0, .int z] (mH b x (wS s n K B D C E F)) (some (.int (iB true))) (mH b x (wS s n K B D C E F)) := by
    intro z hz
    have := ev9_within (nI pl) 0 z (h := mH b x (wS s n K B D C E F))
    rwa [decide_eq_true (show (0 : Int32) ≤ nI pl from nI_pos' (by omega)), decide_eq_true (show nI pl ≤ z from hz ▸ c4)] at this
  have em : nI (tEnd D n i) - nI i = nI m := by rw [pk_sub (by omega), hm]
  unfold eLast at ew
  by_cases cp : oI (tPar D i) = nI g
  · rw [if_pos cp] at ew
    simp only [X9_moves_72, X9_moves_75, X9_moves_76, X9_moves_79, X9_moves_80, X9_moves_81, X9_moves_83, X9_moves_83n, X9_moves_84, X9_moves_85, X9_moves_87, X9_moves_88, X9_moves_89, X9_moves_90, X9_moves_92 (ew _ rfl), X9_moves_95, X9_moves_98, X9_moves_99, X9_moves_99z, X9_moves_99o, X9_moves_100, X9_moves_101, X9_moves_102 (f9_end h66 hi) mH_obj, X9_moves_105, X9_moves_106, X9_moves_107, X9_moves_109, X9_moves_110, X9_moves_111, X9_moves_113 ec mH_obj, X9_moves_116, X9_moves_117, X9_moves_119, X9_moves_120, X9_moves_120n, X9_moves_121, X9_moves_122, X9_moves_123, X9_moves_124, X9_moves_125 eg' mH_obj, X9_moves_128, X9_moves_128n, X9_moves_129, X9_moves_130, X9_moves_132, X9_moves_133, X9_moves_134 ep mH_obj, X9_moves_137, X9_moves_138, X9_moves_138z, X9_moves_138o, iOb_some, iClr_i, iClr_r, iClr_n, iClr_u, iClr_l, rf_s, rf_n, iB_0, iSum_nil, if_pos cp, hin.g6, hpl, Bool.true_eq_false, if_false, em, hin.g5, oI_s, oI_n, and_self]
  · rw [if_neg cp] at ew
    simp only [X9_moves_72, X9_moves_75, X9_moves_76, X9_moves_79, X9_moves_80, X9_moves_81, X9_moves_83, X9_moves_83n, X9_moves_84, X9_moves_85, X9_moves_87, X9_moves_88, X9_moves_89, X9_moves_90, X9_moves_92 (ew _ rfl), X9_moves_95, X9_moves_98, X9_moves_99, X9_moves_99z, X9_moves_99o, X9_moves_100, X9_moves_101, X9_moves_102 (f9_end h66 hi) mH_obj, X9_moves_105, X9_moves_106, X9_moves_107, X9_moves_109, X9_moves_110, X9_moves_111, X9_moves_113 ec mH_obj, X9_moves_116, X9_moves_117, X9_moves_119, X9_moves_120, X9_moves_120n, X9_moves_121, X9_moves_122, X9_moves_123, X9_moves_124, X9_moves_125 eg' mH_obj, X9_moves_128, X9_moves_128n, X9_moves_129, X9_moves_130, X9_moves_132, X9_moves_133, X9_moves_134 ep mH_obj, X9_moves_137, X9_moves_138, X9_moves_138z, X9_moves_138o, iOb_some, iClr_i, iClr_r, iClr_n, iClr_u, iClr_l, rf_s, rf_n, iB_0, iSum_nil, if_neg cp, i_sub0, hin.g6, hpl, Bool.true_eq_false, if_false, em, hin.g5, oI_s, oI_n, and_self]
/-- MOVE FITS, as the reference looks at it -/
def eFitM9 (e : Nat → Int32) (n : Nat) (K D : Nat → Int32) : Option Nat → Option Nat → Bool
  | some i, some g => decide (0 < i ∧ tPK K D i = e 3 ∧ nI (tPlace D i) = e 4 ∧ ¬ (i ≤ g ∧ g < tEnd D n i) ∧ 0 ≤ e 6 ∧ e 6 ≤ eLast n D i g)
  | _, _ => false
theorem moves_0 (hin : inAt b x s r a e) (h66 : n ≤ 66) {o : Option Nat} (ho : ∀ i, o = some i → i < n) (hp : ∀ i, i < n → i ≠ 0 → tPar D i ≠ none) (hf : eFitM9 e n K D o (tWhere K n (e 5)) = false) : iEv mX9_moves [.ref x, .ref r, .int (nI a), .int (oI o)] (mH b x (wS s n K B D C E F)) (some (.int (iB false))) (mH b x (wS s n K B D C E F)) := by
  refine J9_moves (cat_r r) ?_
  have eg := f9_find (b := b) (x := x) (s := s) (K := K) (B := B) (D := D) (C := C) (E := E) (F := F) (n := n) h66 (e 5)
  simp only [X9_moves_0, X9_moves_1, X9_moves_1n, X9_moves_2, X9_moves_3, X9_moves_4, X9_moves_5, X9_moves_6 eg mH_obj, X9_moves_9, iOb_some, iClr_i, iClr_r, iClr_n, iClr_u, iClr_l, rf_s, rf_n, iB_0, iSum_nil, hin.g5]
  cases o with
  | none =>
    simp only [X9_moves_11, X9_moves_12, X9_moves_15, X9_moves_17, X9_moves_18, X9_moves_21, X9_moves_22, X9_moves_26, X9_moves_26n, X9_moves_27, X9_moves_28, X9_moves_29, X9_moves_30, X9_moves_31, X9_moves_34, X9_moves_35, X9_moves_39, X9_moves_39n, X9_moves_40, X9_moves_41, X9_moves_42, X9_moves_43, X9_moves_44, X9_moves_47, X9_moves_48, X9_moves_50, X9_moves_54, X9_moves_57, X9_moves_58, X9_moves_58z, X9_moves_58o, iOb_some, iClr_i, iClr_r, iClr_n, iClr_u, iClr_l, rf_s, rf_n, iB_0, iSum_nil, oI_s, oI_n, if_pos (show (-1 : Int32) ≤ 0 by decide), and_self]
  | some i =>
    have hi := ho i rfl
    by_cases hi0 : 0 < i
    · cases hg : tWhere K n (e 5) with
      | none =>
        simp only [X9_moves_11, X9_moves_12, X9_moves_15, X9_moves_17, X9_moves_18, X9_moves_21, X9_moves_22, X9_moves_26, X9_moves_26n, X9_moves_27, X9_moves_28, X9_moves_29, X9_moves_30, X9_moves_31, X9_moves_34, X9_moves_35, X9_moves_39, X9_moves_39n, X9_moves_40, X9_moves_41, X9_moves_42, X9_moves_43, X9_moves_44, X9_moves_47, X9_moves_48, X9_moves_50, X9_moves_54, X9_moves_57, X9_moves_58, X9_moves_58z, X9_moves_58o, iOb_some, iClr_i, iClr_r, iClr_n, iClr_u, iClr_l, rf_s, rf_n, iB_0, iSum_nil, oI_s, oI_n, if_neg (show ¬ nI i ≤ 0 from nI_nle hi0 (by omega)), if_true, and_self]
      | some g =>
        have hgn := (tWhere_lt hg).1
        rw [hg] at hf
        have hf := of_decide_eq_false hf
        have eb := f9_isBelow (b := b) (x := x) (s := s) (K := K) (B := B) (D := D) (C := C) (E := E) (F := F) (n := n) h66 hgn hi
        by_cases c1 : tPK K D i = e 3
        · by_cases c2 : nI (tPlace D i) = e 4
          · cases c3 : (decide (i ≤ g) && decide (g < tEnd D n i)) with
            | true =>
              rw [c3] at eb
              simp only [X9_moves_11, X9_moves_12, X9_moves_15, X9_moves_17, X9_moves_18, X9_moves_21, X9_moves_22, X9_moves_23 (f9_parentKey h66 hi (hp i hi)) mH_obj, X9_moves_26, X9_moves_26n, X9_moves_27, X9_moves_28, X9_moves_29, X9_moves_30, X9_moves_31, X9_moves_34, X9_moves_35, X9_moves_36 (f9_place h66 hi) mH_obj, X9_moves_39, X9_moves_39n, X9_moves_40, X9_moves_41, X9_moves_42, X9_moves_43, X9_moves_44, X9_moves_47, X9_moves_48, X9_moves_50, X9_moves_51 eb mH_obj, X9_moves_54, X9_moves_57, X9_moves_58, X9_moves_58z, X9_moves_58o, iOb_some, iClr_i, iClr_r, iClr_n, iClr_u, iClr_l, rf_s, rf_n, iB_0, iSum_nil, oI_s, oI_n, if_neg (show ¬ nI i ≤ 0 from nI_nle hi0 (by omega)), if_neg (oI_ne (show g < 2 ^ 31 by omega)), hin.g3, if_pos c1, hin.g4, if_pos c2, Bool.true_eq_false, if_false, and_self]
            | false =>
              rw [c3] at eb
              have c3' : ¬ (i ≤ g ∧ g < tEnd D n i) := by
                intro z
                rw [decide_eq_true z.1, decide_eq_true z.2] at c3
                cases c3
              have c4 : (decide (0 ≤ e 6) && decide (e 6 ≤ eLast n D i g)) = false := by
                cases z : (decide (0 ≤ e 6) && decide (e 6 ≤ eLast n D i g)) with
                | false => rfl
                | true =>
                  have z := (Bool.and_eq_true _ _).mp z
                  exact absurd ⟨hi0, c1, c2, c3', of_decide_eq_true z.1, of_decide_eq_true z.2⟩ hf
              simp only [X9_moves_11, X9_moves_12, X9_moves_15, X9_moves_17, X9_moves_18, X9_moves_21, X9_moves_22, X9_moves_23 (f9_parentKey h66 hi (hp i hi)) mH_obj, X9_moves_26, X9_moves_26n, X9_moves_27, X9_moves_28, X9_moves_29, X9_moves_30, X9_moves_31, X9_moves_34, X9_moves_35, X9_moves_36 (f9_place h66 hi) mH_obj, X9_moves_39, X9_moves_39n, X9_moves_40, X9_moves_41, X9_moves_42, X9_moves_43, X9_moves_44, X9_moves_47, X9_moves_48, X9_moves_50, X9_moves_51 eb mH_obj, X9_moves_54, X9_moves_57, X9_moves_58, X9_moves_58z, X9_moves_58o, X9_moves_59, X9_moves_60, X9_moves_62 (f9_children h66 hgn) mH_obj, X9_moves_65, X9_moves_66, X9_moves_67 (f9_parent h66 hi) mH_obj, X9_moves_70, iOb_some, iClr_i, iClr_r, iClr_n, iClr_u, iClr_l, rf_s, rf_n, iB_0, iSum_nil, oI_s, oI_n, if_neg (show ¬ nI i ≤ 0 from nI_nle hi0 (by omega)), if_neg (oI_ne (show g < 2 ^ 31 by omega)), hin.g3, if_pos c1, hin.g4, if_pos c2, if_true]
              have ew : ∀ z : Int32, eLast n D i g = z → iEv mX9_within [.int (e 6), .int 0, .int z] (mH b x (wS s n K B D C E F)) (some (.int (iB false))) (mH b x (wS s n K B D C E F)) := by
                intro z hz
                have := ev9_within (e 6) 0 z (h := mH b x (wS s n K B D C E F))
                rwa [← hz, c4, hz] at this
              unfold eLast at ew
              by_cases cp : oI (tPar D i) = nI g
              · rw [if_pos cp] at ew
                simp only [X9_moves_72, X9_moves_75, X9_moves_76, X9_moves_79, X9_moves_80, X9_moves_81, X9_moves_83, X9_moves_83n, X9_moves_84, X9_moves_85, X9_moves_87, X9_moves_88, X9_moves_89, X9_moves_90, X9_moves_92 (ew _ rfl), X9_moves_95, X9_moves_98, X9_moves_99, X9_moves_99z, X9_moves_99o, iOb_some, iClr_i, iClr_r, iClr_n, iClr_u, iClr_l, rf_s, rf_n, iB_0, iSum_nil, if_pos cp, hin.g6, if_true, and_self]
              · rw [if_neg cp] at ew
                simp only [X9_moves_72, X9_moves_75, X9_moves_76, X9_moves_79, X9_moves_80, X9_moves_81, X9_moves_83, X9_moves_83n, X9_moves_84, X9_moves_85, X9_moves_87, X9_moves_88, X9_moves_89, X9_moves_90, X9_moves_92 (ew _ rfl), X9_moves_95, X9_moves_98, X9_moves_99, X9_moves_99z, X9_moves_99o, iOb_some, iClr_i, iClr_r, iClr_n, iClr_u, iClr_l, rf_s, rf_n, iB_0, iSum_nil, if_neg cp, i_sub0, hin.g6, if_true, and_self]
          · simp only [X9_moves_11, X9_moves_12, X9_moves_15, X9_moves_17, X9_moves_18, X9_moves_21, X9_moves_22, X9_moves_23 (f9_parentKey h66 hi (hp i hi)) mH_obj, X9_moves_26, X9_moves_26n, X9_moves_27, X9_moves_28, X9_moves_29, X9_moves_30, X9_moves_31, X9_moves_34, X9_moves_35, X9_moves_36 (f9_place h66 hi) mH_obj, X9_moves_39, X9_moves_39n, X9_moves_40, X9_moves_41, X9_moves_42, X9_moves_43, X9_moves_44, X9_moves_47, X9_moves_48, X9_moves_50, X9_moves_54, X9_moves_57, X9_moves_58, X9_moves_58z, X9_moves_58o, iOb_some, iClr_i, iClr_r, iClr_n, iClr_u, iClr_l, rf_s, rf_n, iB_0, iSum_nil, oI_s, oI_n, if_neg (show ¬ nI i ≤ 0 from nI_nle hi0 (by omega)), if_neg (oI_ne (show g < 2 ^ 31 by omega)), hin.g3, if_pos c1, hin.g4, if_neg c2, and_self]
        · simp only [X9_moves_11, X9_moves_12, X9_moves_15, X9_moves_17, X9_moves_18, X9_moves_21, X9_moves_22, X9_moves_23 (f9_parentKey h66 hi (hp i hi)) mH_obj, X9_moves_26, X9_moves_26n, X9_moves_27, X9_moves_28, X9_moves_29, X9_moves_30, X9_moves_31, X9_moves_34, X9_moves_35, X9_moves_39, X9_moves_39n, X9_moves_40, X9_moves_41, X9_moves_42, X9_moves_43, X9_moves_44, X9_moves_47, X9_moves_48, X9_moves_50, X9_moves_54, X9_moves_57, X9_moves_58, X9_moves_58z, X9_moves_58o, iOb_some, iClr_i, iClr_r, iClr_n, iClr_u, iClr_l, rf_s, rf_n, iB_0, iSum_nil, oI_s, oI_n, if_neg (show ¬ nI i ≤ 0 from nI_nle hi0 (by omega)), if_neg (oI_ne (show g < 2 ^ 31 by omega)), hin.g3, if_neg c1, and_self]
    · have : i = 0 := by omega
      subst this
      simp only [X9_moves_11, X9_moves_12, X9_moves_15, X9_moves_17, X9_moves_18, X9_moves_21, X9_moves_22, X9_moves_26, X9_moves_26n, X9_moves_27, X9_moves_28, X9_moves_29, X9_moves_30, X9_moves_31, X9_moves_34, X9_moves_35, X9_moves_39, X9_moves_39n, X9_moves_40, X9_moves_41, X9_moves_42, X9_moves_43, X9_moves_44, X9_moves_47, X9_moves_48, X9_moves_50, X9_moves_54, X9_moves_57, X9_moves_58, X9_moves_58z, X9_moves_58o, iOb_some, iClr_i, iClr_r, iClr_n, iClr_u, iClr_l, rf_s, rf_n, iB_0, iSum_nil, oI_s, oI_n, if_pos (show nI 0 ≤ 0 by decide), and_self]
end MOVES

/-! the class's Edit over another tree: moves, all, and as it fits there -/
section OVER2
variable {h : iHp} {p q t n : Nat} {e : Nat → Int32} {K B D : Nat → Int32}
def oMove (e : Nat → Int32) (n : Nat) (K D : Nat → Int32) : Option Nat → Option Nat → Int32
  | some i, some g => if i = 0 ∨ (i ≤ g ∧ g < tEnd D n i) then 5 else if tPK K D i = e 3 then 0 else if tPK K D i = e 5 then -1 else 6
  | _, _ => 1
theorem ev_moveOver (hE : edAt h p e) (hT : trAt h t n K B D) {o : Option Nat} (ho : ∀ i, o = some i → i < n) : iEv mX2_moveOver [.ref p, .ref t, .int (oI o)] h (some (.int (oMove e n K D o (tWhere K n (e 5))))) h := by
  have hn := hT.2.2.2.2
  refine J2_moveOver (cat_r t) ?_
  have ew := ev_whereOf hT (e 5)
  cases o with
  | none =>
    simp only [X2_moveOver_0, X2_moveOver_0n, X2_moveOver_1, X2_moveOver_2, X2_moveOver_5 ew hT.o, X2_moveOver_8, X2_moveOver_9, X2_moveOver_10, X2_moveOver_11, X2_moveOver_14, X2_moveOver_15, X2_moveOver_16, X2_moveOver_19, X2_moveOver_20, X2_moveOver_21, X2_moveOver_22, X2_moveOver_25, X2_moveOver_25n, X2_moveOver_26, X2_moveOver_27, X2_moveOver_31, X2_moveOver_34, X2_moveOver_35, X2_moveOver_36, X2_moveOver_36n, X2_moveOver_37, X2_moveOver_41, X2_moveOver_43, X2_moveOver_45, X2_moveOver_46, X2_moveOver_49, X2_moveOver_52, X2_moveOver_53, X2_moveOver_54, X2_moveOver_56, X2_moveOver_57, X2_moveOver_60, X2_moveOver_63, X2_moveOver_64, X2_moveOver_67, X2_moveOver_69, iOb_some, iClr_i, iClr_r, iClr_n, iClr_u, iClr_l, rf_s, rf_n, iB_0, iSum_nil, hE.g5, oI_n, if_true, oMove, and_self]
  | some i =>
    have hi := ho i rfl
    have e0 : ¬ nI i = -1 := oI_ne (show i < 2 ^ 31 by omega)
    cases hg : tWhere K n (e 5) with
    | none =>
      rw [hg] at ew
      simp only [X2_moveOver_0, X2_moveOver_0n, X2_moveOver_1, X2_moveOver_2, X2_moveOver_5 ew hT.o, X2_moveOver_8, X2_moveOver_9, X2_moveOver_10, X2_moveOver_11, X2_moveOver_14, X2_moveOver_15, X2_moveOver_16, X2_moveOver_19, X2_moveOver_20, X2_moveOver_21, X2_moveOver_22, X2_moveOver_25, X2_moveOver_25n, X2_moveOver_26, X2_moveOver_27, X2_moveOver_31, X2_moveOver_34, X2_moveOver_35, X2_moveOver_36, X2_moveOver_36n, X2_moveOver_37, X2_moveOver_41, X2_moveOver_43, X2_moveOver_45, X2_moveOver_46, X2_moveOver_49, X2_moveOver_52, X2_moveOver_53, X2_moveOver_54, X2_moveOver_56, X2_moveOver_57, X2_moveOver_60, X2_moveOver_63, X2_moveOver_64, X2_moveOver_67, X2_moveOver_69, iOb_some, iClr_i, iClr_r, iClr_n, iClr_u, iClr_l, rf_s, rf_n, iB_0, iSum_nil, hE.g5, oI_n, oI_s, if_neg e0, if_true, oMove, and_self]
    | some g =>
      rw [hg] at ew
      have hgn := (tWhere_lt hg).1
      have e1 : ¬ nI g = -1 := oI_ne (show g < 2 ^ 31 by omega)
      by_cases c0 : i = 0
      · have c0' : nI i = 0 := by rw [c0]; rfl
        rw [show oMove e n K D (some i) (some g) = 5 from if_pos (Or.inl c0)]
        simp only [X2_moveOver_0, X2_moveOver_0n, X2_moveOver_1, X2_moveOver_2, X2_moveOver_5 ew hT.o, X2_moveOver_8, X2_moveOver_9, X2_moveOver_10, X2_moveOver_11, X2_moveOver_14, X2_moveOver_15, X2_moveOver_16, X2_moveOver_19, X2_moveOver_20, X2_moveOver_21, X2_moveOver_22, X2_moveOver_25, X2_moveOver_25n, X2_moveOver_26, X2_moveOver_27, X2_moveOver_31, X2_moveOver_34, X2_moveOver_35, X2_moveOver_36, X2_moveOver_36n, X2_moveOver_37, X2_moveOver_41, X2_moveOver_43, X2_moveOver_45, X2_moveOver_46, X2_moveOver_49, X2_moveOver_52, X2_moveOver_53, X2_moveOver_54, X2_moveOver_56, X2_moveOver_57, X2_moveOver_60, X2_moveOver_63, X2_moveOver_64, X2_moveOver_67, X2_moveOver_69, iOb_some, iClr_i, iClr_r, iClr_n, iClr_u, iClr_l, rf_s, rf_n, iB_0, iSum_nil, hE.g5, oI_s, if_neg e0, if_neg e1, if_pos c0', and_self]
      · have c0' : ¬ nI i = 0 := nI_ne0 (by omega) (by omega)
        have ei := ev_isWithin hT hgn hi
        by_cases c1 : i ≤ g ∧ g < tEnd D n i
        · rw [show oMove e n K D (some i) (some g) = 5 from if_pos (Or.inr c1)]
          rw [show (decide (i ≤ g) && decide (g < tEnd D n i)) = true by simp [c1]] at ei
          simp only [X2_moveOver_0, X2_moveOver_0n, X2_moveOver_1, X2_moveOver_2, X2_moveOver_5 ew hT.o, X2_moveOver_8, X2_moveOver_9, X2_moveOver_10, X2_moveOver_11, X2_moveOver_14, X2_moveOver_15, X2_moveOver_16, X2_moveOver_19, X2_moveOver_20, X2_moveOver_21, X2_moveOver_22, X2_moveOver_25, X2_moveOver_25n, X2_moveOver_26, X2_moveOver_27, X2_moveOver_28 ei hT.o, X2_moveOver_31, X2_moveOver_34, X2_moveOver_35, X2_moveOver_36, X2_moveOver_36n, X2_moveOver_37, X2_moveOver_41, X2_moveOver_43, X2_moveOver_45, X2_moveOver_46, X2_moveOver_49, X2_moveOver_52, X2_moveOver_53, X2_moveOver_54, X2_moveOver_56, X2_moveOver_57, X2_moveOver_60, X2_moveOver_63, X2_moveOver_64, X2_moveOver_67, X2_moveOver_69, iOb_some, iClr_i, iClr_r, iClr_n, iClr_u, iClr_l, rf_s, rf_n, iB_0, iSum_nil, hE.g5, oI_s, if_neg e0, if_neg e1, if_neg c0', Bool.true_eq_false, if_false, and_self]
        · rw [show oMove e n K D (some i) (some g) = if tPK K D i = e 3 then 0 else if tPK K D i = e 5 then -1 else 6 from if_neg (fun z => z.elim c0 c1)]
          have c1' : (decide (i ≤ g) && decide (g < tEnd D n i)) = false := by
            cases z : (decide (i ≤ g) && decide (g < tEnd D n i)) with
            | false => rfl
            | true => exact absurd (by simpa using z) c1
          rw [c1'] at ei
          by_cases c2 : tPK K D i = e 3
          · simp only [X2_moveOver_0, X2_moveOver_0n, X2_moveOver_1, X2_moveOver_2, X2_moveOver_5 ew hT.o, X2_moveOver_8, X2_moveOver_9, X2_moveOver_10, X2_moveOver_11, X2_moveOver_14, X2_moveOver_15, X2_moveOver_16, X2_moveOver_19, X2_moveOver_20, X2_moveOver_21, X2_moveOver_22, X2_moveOver_25, X2_moveOver_25n, X2_moveOver_26, X2_moveOver_27, X2_moveOver_28 ei hT.o, X2_moveOver_31, X2_moveOver_34, X2_moveOver_35, X2_moveOver_36, X2_moveOver_36n, X2_moveOver_37, X2_moveOver_38 (ev_parentKeyAt hT hi) hT.o, X2_moveOver_41, X2_moveOver_43, X2_moveOver_45, X2_moveOver_46, X2_moveOver_49, X2_moveOver_52, X2_moveOver_53, X2_moveOver_54, X2_moveOver_56, X2_moveOver_57, X2_moveOver_60, X2_moveOver_63, X2_moveOver_64, X2_moveOver_67, X2_moveOver_69, iOb_some, iClr_i, iClr_r, iClr_n, iClr_u, iClr_l, rf_s, rf_n, iB_0, iSum_nil, hE.g5, hE.g3, oI_s, if_neg e0, if_neg e1, if_neg c0', if_true, if_pos c2, and_self]
          · by_cases c3 : tPK K D i = e 5
            · simp only [X2_moveOver_0, X2_moveOver_0n, X2_moveOver_1, X2_moveOver_2, X2_moveOver_5 ew hT.o, X2_moveOver_8, X2_moveOver_9, X2_moveOver_10, X2_moveOver_11, X2_moveOver_14, X2_moveOver_15, X2_moveOver_16, X2_moveOver_19, X2_moveOver_20, X2_moveOver_21, X2_moveOver_22, X2_moveOver_25, X2_moveOver_25n, X2_moveOver_26, X2_moveOver_27, X2_moveOver_28 ei hT.o, X2_moveOver_31, X2_moveOver_34, X2_moveOver_35, X2_moveOver_36, X2_moveOver_36n, X2_moveOver_37, X2_moveOver_38 (ev_parentKeyAt hT hi) hT.o, X2_moveOver_41, X2_moveOver_43, X2_moveOver_45, X2_moveOver_46, X2_moveOver_49, X2_moveOver_52, X2_moveOver_53, X2_moveOver_54, X2_moveOver_56, X2_moveOver_57, X2_moveOver_60, X2_moveOver_63, X2_moveOver_64, X2_moveOver_67, X2_moveOver_69, iOb_some, iClr_i, iClr_r, iClr_n, iClr_u, iClr_l, rf_s, rf_n, iB_0, iSum_nil, hE.g5, hE.g3, oI_s, if_neg e0, if_neg e1, if_neg c0', if_true, if_neg c2, if_pos c3, and_self]
            · simp only [X2_moveOver_0, X2_moveOver_0n, X2_moveOver_1, X2_moveOver_2, X2_moveOver_5 ew hT.o, X2_moveOver_8, X2_moveOver_9, X2_moveOver_10, X2_moveOver_11, X2_moveOver_14, X2_moveOver_15, X2_moveOver_16, X2_moveOver_19, X2_moveOver_20, X2_moveOver_21, X2_moveOver_22, X2_moveOver_25, X2_moveOver_25n, X2_moveOver_26, X2_moveOver_27, X2_moveOver_28 ei hT.o, X2_moveOver_31, X2_moveOver_34, X2_moveOver_35, X2_moveOver_36, X2_moveOver_36n, X2_moveOver_37, X2_moveOver_38 (ev_parentKeyAt hT hi) hT.o, X2_moveOver_41, X2_moveOver_43, X2_moveOver_45, X2_moveOver_46, X2_moveOver_49, X2_moveOver_52, X2_moveOver_53, X2_moveOver_54, X2_moveOver_56, X2_moveOver_57, X2_moveOver_60, X2_moveOver_63, X2_moveOver_64, X2_moveOver_67, X2_moveOver_69, iOb_some, iClr_i, iClr_r, iClr_n, iClr_u, iClr_l, rf_s, rf_n, iB_0, iSum_nil, hE.g5, hE.g3, oI_s, if_neg e0, if_neg e1, if_neg c0', if_true, if_neg c2, if_neg c3, and_self]
/-- what becomes of an edit over a tree: 0 kept, -1 left out, else why not -/
def oFate (e : Nat → Int32) (n : Nat) (K B D : Nat → Int32) : Int32 := if e 0 = 0 then oName e B (tWhere K n (e 1)) else if e 0 = 1 then oTake e n B D (tWhere K n (e 1)) else if e 0 = 2 then oGive e n K B D (tWhere K n (e 1)) (tWhere K n (e 3)) else oMove e n K D (tWhere K n (e 1)) (tWhere K n (e 5))
theorem ev_over (hE : edAt h p e) (hT : trAt h t n K B D) : iEv mX2_over [.ref p, .ref t] h (some (.int (oFate e n K B D))) h := by
  refine J2_over (cat_r t) ?_
  have hw : ∀ i, tWhere K n (e 1) = some i → i < n := fun i z => (tWhere_lt z).1
  have ew := ev_whereOf hT (e 1)
  unfold oFate
  simp only [X2_over_0, X2_over_0n, X2_over_1, X2_over_2, X2_over_5 ew hT.o, X2_over_8, X2_over_9, X2_over_10, iOb_some, iClr_i, iClr_r, iClr_n, iClr_u, iClr_l, rf_s, rf_n, iB_0, iSum_nil, hE.g0, hE.g1]
  by_cases c0 : e 0 = 0
  · rw [c0, if_pos rfl]
    simp only [X2_over_13_0, X2_over_13_1, X2_over_13_2, X2_over_40, X2_over_41, X2_over_41n, X2_over_42, X2_over_43 (ev_nameOver hE hT hw) hE.o (cat_r t), X2_over_46, iOb_some, iClr_i, iClr_r, iClr_n, iClr_u, iClr_l, rf_s, rf_n, iB_0, iSum_nil, and_self]
  · by_cases c1 : e 0 = 1
    · rw [c1, if_neg (show ¬ (1 : Int32) = 0 by decide), if_pos rfl]
      simp only [X2_over_13_0, X2_over_13_1, X2_over_13_2, X2_over_40, X2_over_41, X2_over_41n, X2_over_42, X2_over_46, X2_over_47, X2_over_48, X2_over_48n, X2_over_49, X2_over_50 (ev_takeOver hE hT hw) hE.o (cat_r t), X2_over_53, iOb_some, iClr_i, iClr_r, iClr_n, iClr_u, iClr_l, rf_s, rf_n, iB_0, iSum_nil, and_self]
    · by_cases c2 : e 0 = 2
      · rw [c2, if_neg (show ¬ (2 : Int32) = 0 by decide), if_neg (show ¬ (2 : Int32) = 1 by decide), if_pos rfl]
        simp only [X2_over_13_0, X2_over_13_1, X2_over_13_2, X2_over_40, X2_over_41, X2_over_41n, X2_over_42, X2_over_46, X2_over_47, X2_over_48, X2_over_48n, X2_over_49, X2_over_53, X2_over_54, X2_over_55, X2_over_55n, X2_over_56, X2_over_57 (ev_giveOver hE hT hw) hE.o (cat_r t), X2_over_60, iOb_some, iClr_i, iClr_r, iClr_n, iClr_u, iClr_l, rf_s, rf_n, iB_0, iSum_nil, and_self]
      · rw [if_neg c0, if_neg c1, if_neg c2, X2_over_13_d (i_sw3 c0 c1 c2)]
        simp only [X2_over_61, X2_over_62, X2_over_62n, X2_over_63, X2_over_64 (ev_moveOver hE hT hw) hE.o (cat_r t), X2_over_67, iOb_some, iClr_i, iClr_r, iClr_n, iClr_u, iClr_l, rf_s, rf_n, iB_0, iSum_nil, and_self]
end OVER2

/-! the class's Edit, what becomes of it over another tree -/
section OVER
variable {h : iHp} {p q t n : Nat} {e : Nat → Int32} {K B D : Nat → Int32}
def oName (e : Nat → Int32) (B : Nat → Int32) : Option Nat → Int32
  | none => 1
  | some i => if B i = e 3 then -1 else if B i = e 2 then 0 else 2
theorem ev_nameOver (hE : edAt h p e) (hT : trAt h t n K B D) {o : Option Nat} (ho : ∀ i, o = some i → i < n) : iEv mX2_nameOver [.ref p, .ref t, .int (oI o)] h (some (.int (oName e B o))) h := by
  have hn := hT.2.2.2.2
  refine J2_nameOver (cat_r t) ?_
  cases o with
  | none =>
    simp only [X2_nameOver_0, X2_nameOver_1, X2_nameOver_2, X2_nameOver_5, X2_nameOver_6, X2_nameOver_7, X2_nameOver_7n, X2_nameOver_8, X2_nameOver_12, X2_nameOver_13, X2_nameOver_16, X2_nameOver_19, X2_nameOver_20, X2_nameOver_21, X2_nameOver_21n, X2_nameOver_22, X2_nameOver_26, X2_nameOver_27, X2_nameOver_30, X2_nameOver_33, X2_nameOver_34, X2_nameOver_37, X2_nameOver_38, iOb_some, iClr_i, iClr_r, iClr_n, iClr_u, iClr_l, rf_s, rf_n, iB_0, iSum_nil, oI, if_true, oName, and_self]
  | some i =>
    have hi := ho i rfl
    have e0 : ¬ nI i = -1 := oI_ne (show i < 2 ^ 31 by omega)
    by_cases c1 : B i = e 3
    · simp only [X2_nameOver_0, X2_nameOver_1, X2_nameOver_2, X2_nameOver_5, X2_nameOver_6, X2_nameOver_7, X2_nameOver_7n, X2_nameOver_8, X2_nameOver_9 (ev_labelAt hT hi) hT.o, X2_nameOver_12, X2_nameOver_13, X2_nameOver_16, X2_nameOver_19, X2_nameOver_20, X2_nameOver_21, X2_nameOver_21n, X2_nameOver_22, X2_nameOver_26, X2_nameOver_27, X2_nameOver_30, X2_nameOver_33, X2_nameOver_34, X2_nameOver_37, X2_nameOver_38, iOb_some, iClr_i, iClr_r, iClr_n, iClr_u, iClr_l, rf_s, rf_n, iB_0, iSum_nil, oI, if_neg e0, hE.g3, hE.g2, oName, if_pos c1, and_self]
    · by_cases c2 : B i = e 2
      · simp only [X2_nameOver_0, X2_nameOver_1, X2_nameOver_2, X2_nameOver_5, X2_nameOver_6, X2_nameOver_7, X2_nameOver_7n, X2_nameOver_8, X2_nameOver_9 (ev_labelAt hT hi) hT.o, X2_nameOver_12, X2_nameOver_13, X2_nameOver_16, X2_nameOver_19, X2_nameOver_20, X2_nameOver_21, X2_nameOver_21n, X2_nameOver_22, X2_nameOver_23 (ev_labelAt hT hi) hT.o, X2_nameOver_26, X2_nameOver_27, X2_nameOver_30, X2_nameOver_33, X2_nameOver_34, X2_nameOver_37, X2_nameOver_38, iOb_some, iClr_i, iClr_r, iClr_n, iClr_u, iClr_l, rf_s, rf_n, iB_0, iSum_nil, oI, if_neg e0, hE.g3, hE.g2, oName, if_neg c1, if_pos c2, and_self]
      · simp only [X2_nameOver_0, X2_nameOver_1, X2_nameOver_2, X2_nameOver_5, X2_nameOver_6, X2_nameOver_7, X2_nameOver_7n, X2_nameOver_8, X2_nameOver_9 (ev_labelAt hT hi) hT.o, X2_nameOver_12, X2_nameOver_13, X2_nameOver_16, X2_nameOver_19, X2_nameOver_20, X2_nameOver_21, X2_nameOver_21n, X2_nameOver_22, X2_nameOver_23 (ev_labelAt hT hi) hT.o, X2_nameOver_26, X2_nameOver_27, X2_nameOver_30, X2_nameOver_33, X2_nameOver_34, X2_nameOver_37, X2_nameOver_38, iOb_some, iClr_i, iClr_r, iClr_n, iClr_u, iClr_l, rf_s, rf_n, iB_0, iSum_nil, oI, if_neg e0, hE.g3, hE.g2, oName, if_neg c1, if_neg c2, and_self]
def oTake (e : Nat → Int32) (n : Nat) (B D : Nat → Int32) : Option Nat → Int32
  | none => -1
  | some i => if i = 0 ∨ 0 < tKids D n i then 3 else if B i = e 2 then 0 else 2
theorem ev_takeOver (hE : edAt h p e) (hT : trAt h t n K B D) {o : Option Nat} (ho : ∀ i, o = some i → i < n) : iEv mX2_takeOver [.ref p, .ref t, .int (oI o)] h (some (.int (oTake e n B D o))) h := by
  have hn := hT.2.2.2.2
  refine J2_takeOver (cat_r t) ?_
  cases o with
  | none =>
    simp only [X2_takeOver_0, X2_takeOver_1, X2_takeOver_2, X2_takeOver_5, X2_takeOver_6, X2_takeOver_7, X2_takeOver_8, X2_takeOver_11, X2_takeOver_11n, X2_takeOver_12, X2_takeOver_16, X2_takeOver_19, X2_takeOver_20, X2_takeOver_21, X2_takeOver_21n, X2_takeOver_22, X2_takeOver_26, X2_takeOver_27, X2_takeOver_30, X2_takeOver_33, X2_takeOver_34, X2_takeOver_37, X2_takeOver_38, iOb_some, iClr_i, iClr_r, iClr_n, iClr_u, iClr_l, rf_s, rf_n, iB_0, iSum_nil, oI, if_true, oTake, and_self]
  | some i =>
    have hi := ho i rfl
    have e0 : ¬ nI i = -1 := oI_ne (show i < 2 ^ 31 by omega)
    have hk : tKids D n i ≤ n := tKids_le
    by_cases c0 : i = 0
    · have c0' : nI i = 0 := by rw [c0]; rfl
      rw [show oTake e n B D (some i) = 3 from if_pos (Or.inl c0)]
      simp only [X2_takeOver_0, X2_takeOver_1, X2_takeOver_2, X2_takeOver_5, X2_takeOver_6, X2_takeOver_7, X2_takeOver_8, X2_takeOver_11, X2_takeOver_11n, X2_takeOver_12, X2_takeOver_16, X2_takeOver_19, X2_takeOver_20, X2_takeOver_21, X2_takeOver_21n, X2_takeOver_22, X2_takeOver_26, X2_takeOver_27, X2_takeOver_30, X2_takeOver_33, X2_takeOver_34, X2_takeOver_37, X2_takeOver_38, iOb_some, iClr_i, iClr_r, iClr_n, iClr_u, iClr_l, rf_s, rf_n, iB_0, iSum_nil, oI, if_neg e0, if_pos c0', and_self]
    · have c0' : ¬ nI i = 0 := nI_ne0 (by omega) (by omega)
      by_cases c1 : 0 < tKids D n i
      · rw [show oTake e n B D (some i) = 3 from if_pos (Or.inr c1)]
        simp only [X2_takeOver_0, X2_takeOver_1, X2_takeOver_2, X2_takeOver_5, X2_takeOver_6, X2_takeOver_7, X2_takeOver_8, X2_takeOver_11, X2_takeOver_11n, X2_takeOver_12, X2_takeOver_13 (ev_childCount hT hi) hT.o, X2_takeOver_16, X2_takeOver_19, X2_takeOver_20, X2_takeOver_21, X2_takeOver_21n, X2_takeOver_22, X2_takeOver_26, X2_takeOver_27, X2_takeOver_30, X2_takeOver_33, X2_takeOver_34, X2_takeOver_37, X2_takeOver_38, iOb_some, iClr_i, iClr_r, iClr_n, iClr_u, iClr_l, rf_s, rf_n, iB_0, iSum_nil, oI, if_neg e0, if_neg c0', if_neg (nI_nle c1 (show tKids D n i < 2 ^ 31 by omega)), and_self]
      · have c1' : nI (tKids D n i) ≤ 0 := by
          rw [show tKids D n i = 0 by omega]
          decide
        rw [show oTake e n B D (some i) = if B i = e 2 then 0 else 2 from if_neg (by omega)]
        by_cases c2 : B i = e 2
        · simp only [X2_takeOver_0, X2_takeOver_1, X2_takeOver_2, X2_takeOver_5, X2_takeOver_6, X2_takeOver_7, X2_takeOver_8, X2_takeOver_11, X2_takeOver_11n, X2_takeOver_12, X2_takeOver_13 (ev_childCount hT hi) hT.o, X2_takeOver_16, X2_takeOver_19, X2_takeOver_20, X2_takeOver_21, X2_takeOver_21n, X2_takeOver_22, X2_takeOver_23 (ev_labelAt hT hi) hT.o, X2_takeOver_26, X2_takeOver_27, X2_takeOver_30, X2_takeOver_33, X2_takeOver_34, X2_takeOver_37, X2_takeOver_38, iOb_some, iClr_i, iClr_r, iClr_n, iClr_u, iClr_l, rf_s, rf_n, iB_0, iSum_nil, oI, if_neg e0, if_neg c0', if_pos c1', hE.g2, if_pos c2, and_self]
        · simp only [X2_takeOver_0, X2_takeOver_1, X2_takeOver_2, X2_takeOver_5, X2_takeOver_6, X2_takeOver_7, X2_takeOver_8, X2_takeOver_11, X2_takeOver_11n, X2_takeOver_12, X2_takeOver_13 (ev_childCount hT hi) hT.o, X2_takeOver_16, X2_takeOver_19, X2_takeOver_20, X2_takeOver_21, X2_takeOver_21n, X2_takeOver_22, X2_takeOver_23 (ev_labelAt hT hi) hT.o, X2_takeOver_26, X2_takeOver_27, X2_takeOver_30, X2_takeOver_33, X2_takeOver_34, X2_takeOver_37, X2_takeOver_38, iOb_some, iClr_i, iClr_r, iClr_n, iClr_u, iClr_l, rf_s, rf_n, iB_0, iSum_nil, oI, if_neg e0, if_neg c0', if_pos c1', hE.g2, if_neg c2, and_self]
def oGive (e : Nat → Int32) (n : Nat) (K B D : Nat → Int32) : Option Nat → Option Nat → Int32
  | some i, _ => if B i = e 2 ∧ tPK K D i = e 3 then -1 else 4
  | none, none => 1
  | none, some _ => if n < 80 then 0 else 7
theorem ev_giveOver (hE : edAt h p e) (hT : trAt h t n K B D) {o : Option Nat} (ho : ∀ i, o = some i → i < n) : iEv mX2_giveOver [.ref p, .ref t, .int (oI o)] h (some (.int (oGive e n K B D o (tWhere K n (e 3))))) h := by
  have hn := hT.2.2.2.2
  refine J2_giveOver (cat_r t) ?_
  cases o with
  | none =>
    have ew := ev_whereOf hT (e 3)
    cases hw : tWhere K n (e 3) with
    | none =>
      rw [hw] at ew
      simp only [X2_giveOver_0, X2_giveOver_1, X2_giveOver_2, X2_giveOver_5, X2_giveOver_5n, X2_giveOver_6, X2_giveOver_10, X2_giveOver_11, X2_giveOver_14, X2_giveOver_17, X2_giveOver_17n, X2_giveOver_18, X2_giveOver_22, X2_giveOver_23, X2_giveOver_26, X2_giveOver_29, X2_giveOver_30, X2_giveOver_33, X2_giveOver_34, X2_giveOver_35, X2_giveOver_35n, X2_giveOver_36, X2_giveOver_37, X2_giveOver_40 ew hT.o, X2_giveOver_43, X2_giveOver_44, X2_giveOver_47, X2_giveOver_48, X2_giveOver_49, X2_giveOver_49n, X2_giveOver_50, X2_giveOver_53, X2_giveOver_55, X2_giveOver_58, X2_giveOver_59, X2_giveOver_62, X2_giveOver_64, iOb_some, iClr_i, iClr_r, iClr_n, iClr_u, iClr_l, rf_s, rf_n, iB_0, iSum_nil, oI, if_true, hE.g3, oGive, and_self]
    | some g =>
      have e0 : ¬ nI g = -1 := oI_ne (show g < 2 ^ 31 by have := (tWhere_lt hw).1; omega)
      rw [hw] at ew
      by_cases c : n < 80
      · simp only [X2_giveOver_0, X2_giveOver_1, X2_giveOver_2, X2_giveOver_5, X2_giveOver_5n, X2_giveOver_6, X2_giveOver_10, X2_giveOver_11, X2_giveOver_14, X2_giveOver_17, X2_giveOver_17n, X2_giveOver_18, X2_giveOver_22, X2_giveOver_23, X2_giveOver_26, X2_giveOver_29, X2_giveOver_30, X2_giveOver_33, X2_giveOver_34, X2_giveOver_35, X2_giveOver_35n, X2_giveOver_36, X2_giveOver_37, X2_giveOver_40 ew hT.o, X2_giveOver_43, X2_giveOver_44, X2_giveOver_47, X2_giveOver_48, X2_giveOver_49, X2_giveOver_49n, X2_giveOver_50, X2_giveOver_53, X2_giveOver_55, X2_giveOver_58, X2_giveOver_59, X2_giveOver_62, X2_giveOver_64, iOb_some, iClr_i, iClr_r, iClr_n, iClr_u, iClr_l, rf_s, rf_n, iB_0, iSum_nil, oI, if_true, hE.g3, if_neg e0, hT.s, if_neg (show ¬ (80 : Int32) ≤ nI n from nI_ge (b := 80) c (by decide)), oGive, if_pos c, and_self]
      · simp only [X2_giveOver_0, X2_giveOver_1, X2_giveOver_2, X2_giveOver_5, X2_giveOver_5n, X2_giveOver_6, X2_giveOver_10, X2_giveOver_11, X2_giveOver_14, X2_giveOver_17, X2_giveOver_17n, X2_giveOver_18, X2_giveOver_22, X2_giveOver_23, X2_giveOver_26, X2_giveOver_29, X2_giveOver_30, X2_giveOver_33, X2_giveOver_34, X2_giveOver_35, X2_giveOver_35n, X2_giveOver_36, X2_giveOver_37, X2_giveOver_40 ew hT.o, X2_giveOver_43, X2_giveOver_44, X2_giveOver_47, X2_giveOver_48, X2_giveOver_49, X2_giveOver_49n, X2_giveOver_50, X2_giveOver_53, X2_giveOver_55, X2_giveOver_58, X2_giveOver_59, X2_giveOver_62, X2_giveOver_64, iOb_some, iClr_i, iClr_r, iClr_n, iClr_u, iClr_l, rf_s, rf_n, iB_0, iSum_nil, oI, if_true, hE.g3, if_neg e0, hT.s, if_pos (show (80 : Int32) ≤ nI n from nI_le (a := 80) (by omega) (by omega)), oGive, if_neg c, and_self]
  | some i =>
    have hi := ho i rfl
    have e0 : ¬ nI i = -1 := oI_ne (show i < 2 ^ 31 by omega)
    by_cases c1 : B i = e 2
    · by_cases c2 : tPK K D i = e 3
      · rw [show oGive e n K B D (some i) (tWhere K n (e 3)) = -1 from if_pos ⟨c1, c2⟩]
        simp only [X2_giveOver_0, X2_giveOver_1, X2_giveOver_2, X2_giveOver_5, X2_giveOver_5n, X2_giveOver_6, X2_giveOver_7 (ev_labelAt hT hi) hT.o, X2_giveOver_10, X2_giveOver_11, X2_giveOver_14, X2_giveOver_17, X2_giveOver_17n, X2_giveOver_18, X2_giveOver_19 (ev_parentKeyAt hT hi) hT.o, X2_giveOver_22, X2_giveOver_23, X2_giveOver_26, X2_giveOver_29, X2_giveOver_30, X2_giveOver_33, X2_giveOver_34, X2_giveOver_35, X2_giveOver_35n, X2_giveOver_36, X2_giveOver_37, X2_giveOver_43, X2_giveOver_44, X2_giveOver_47, X2_giveOver_48, X2_giveOver_49, X2_giveOver_49n, X2_giveOver_50, X2_giveOver_53, X2_giveOver_55, X2_giveOver_58, X2_giveOver_59, X2_giveOver_62, X2_giveOver_64, iOb_some, iClr_i, iClr_r, iClr_n, iClr_u, iClr_l, rf_s, rf_n, iB_0, iSum_nil, oI, if_neg e0, hE.g2, hE.g3, if_pos c1, if_pos c2, and_self]
      · rw [show oGive e n K B D (some i) (tWhere K n (e 3)) = 4 from if_neg (fun z => c2 z.2)]
        simp only [X2_giveOver_0, X2_giveOver_1, X2_giveOver_2, X2_giveOver_5, X2_giveOver_5n, X2_giveOver_6, X2_giveOver_7 (ev_labelAt hT hi) hT.o, X2_giveOver_10, X2_giveOver_11, X2_giveOver_14, X2_giveOver_17, X2_giveOver_17n, X2_giveOver_18, X2_giveOver_19 (ev_parentKeyAt hT hi) hT.o, X2_giveOver_22, X2_giveOver_23, X2_giveOver_26, X2_giveOver_29, X2_giveOver_30, X2_giveOver_33, X2_giveOver_34, X2_giveOver_35, X2_giveOver_35n, X2_giveOver_36, X2_giveOver_37, X2_giveOver_43, X2_giveOver_44, X2_giveOver_47, X2_giveOver_48, X2_giveOver_49, X2_giveOver_49n, X2_giveOver_50, X2_giveOver_53, X2_giveOver_55, X2_giveOver_58, X2_giveOver_59, X2_giveOver_62, X2_giveOver_64, iOb_some, iClr_i, iClr_r, iClr_n, iClr_u, iClr_l, rf_s, rf_n, iB_0, iSum_nil, oI, if_neg e0, hE.g2, hE.g3, if_pos c1, if_neg c2, and_self]
    · rw [show oGive e n K B D (some i) (tWhere K n (e 3)) = 4 from if_neg (fun z => c1 z.1)]
      simp only [X2_giveOver_0, X2_giveOver_1, X2_giveOver_2, X2_giveOver_5, X2_giveOver_5n, X2_giveOver_6, X2_giveOver_7 (ev_labelAt hT hi) hT.o, X2_giveOver_10, X2_giveOver_11, X2_giveOver_14, X2_giveOver_17, X2_giveOver_17n, X2_giveOver_18, X2_giveOver_22, X2_giveOver_23, X2_giveOver_26, X2_giveOver_29, X2_giveOver_30, X2_giveOver_33, X2_giveOver_34, X2_giveOver_35, X2_giveOver_35n, X2_giveOver_36, X2_giveOver_37, X2_giveOver_43, X2_giveOver_44, X2_giveOver_47, X2_giveOver_48, X2_giveOver_49, X2_giveOver_49n, X2_giveOver_50, X2_giveOver_53, X2_giveOver_55, X2_giveOver_58, X2_giveOver_59, X2_giveOver_62, X2_giveOver_64, iOb_some, iClr_i, iClr_r, iClr_n, iClr_u, iClr_l, rf_s, rf_n, iB_0, iSum_nil, oI, if_neg e0, hE.g2, hE.g3, if_neg c1, and_self]
end OVER

/-! the class's Edit: whether it FITS, and what it does -/
section FITS
variable {h b : iHp} {p q t n : Nat} {e f : Nat → Int32} {K B D : Nat → Int32}
theorem ev_told0 (hE : edAt h p e) {k : Nat} (hk : k < 7) : iEv mX2_told [.ref p, .int (nI k)] h (some (.int (e k))) h := by
  refine J2_told ?_
  match k, hk with
  | 0, _ =>
    simp only [X2_told_0, X2_told_1_0, X2_told_1_1, X2_told_1_2, X2_told_1_3, X2_told_1_4, X2_told_1_5, X2_told_40, X2_told_41, X2_told_44, X2_told_45, X2_told_46, X2_told_49, X2_told_50, X2_told_51, X2_told_54, X2_told_55, X2_told_56, X2_told_59, X2_told_60, X2_told_61, X2_told_64, X2_told_65, X2_told_66, X2_told_69, X2_told_70, X2_told_71, X2_told_74, iOb_some, iClr_i, iClr_r, iClr_n, iClr_u, iClr_l, rf_s, rf_n, iB_0, iSum_nil, hE.g0, show nI 0 = 0 from rfl, and_self]
  | 1, _ =>
    simp only [X2_told_0, X2_told_1_0, X2_told_1_1, X2_told_1_2, X2_told_1_3, X2_told_1_4, X2_told_1_5, X2_told_40, X2_told_41, X2_told_44, X2_told_45, X2_told_46, X2_told_49, X2_told_50, X2_told_51, X2_told_54, X2_told_55, X2_told_56, X2_told_59, X2_told_60, X2_told_61, X2_told_64, X2_told_65, X2_told_66, X2_told_69, X2_told_70, X2_told_71, X2_told_74, iOb_some, iClr_i, iClr_r, iClr_n, iClr_u, iClr_l, rf_s, rf_n, iB_0, iSum_nil, hE.g1, show nI 1 = 1 from rfl, and_self]
  | 2, _ =>
    simp only [X2_told_0, X2_told_1_0, X2_told_1_1, X2_told_1_2, X2_told_1_3, X2_told_1_4, X2_told_1_5, X2_told_40, X2_told_41, X2_told_44, X2_told_45, X2_told_46, X2_told_49, X2_told_50, X2_told_51, X2_told_54, X2_told_55, X2_told_56, X2_told_59, X2_told_60, X2_told_61, X2_told_64, X2_told_65, X2_told_66, X2_told_69, X2_told_70, X2_told_71, X2_told_74, iOb_some, iClr_i, iClr_r, iClr_n, iClr_u, iClr_l, rf_s, rf_n, iB_0, iSum_nil, hE.g2, show nI 2 = 2 from rfl, and_self]
  | 3, _ =>
    simp only [X2_told_0, X2_told_1_0, X2_told_1_1, X2_told_1_2, X2_told_1_3, X2_told_1_4, X2_told_1_5, X2_told_40, X2_told_41, X2_told_44, X2_told_45, X2_told_46, X2_told_49, X2_told_50, X2_told_51, X2_told_54, X2_told_55, X2_told_56, X2_told_59, X2_told_60, X2_told_61, X2_told_64, X2_told_65, X2_told_66, X2_told_69, X2_told_70, X2_told_71, X2_told_74, iOb_some, iClr_i, iClr_r, iClr_n, iClr_u, iClr_l, rf_s, rf_n, iB_0, iSum_nil, hE.g3, show nI 3 = 3 from rfl, and_self]
  | 4, _ =>
    simp only [X2_told_0, X2_told_1_0, X2_told_1_1, X2_told_1_2, X2_told_1_3, X2_told_1_4, X2_told_1_5, X2_told_40, X2_told_41, X2_told_44, X2_told_45, X2_told_46, X2_told_49, X2_told_50, X2_told_51, X2_told_54, X2_told_55, X2_told_56, X2_told_59, X2_told_60, X2_told_61, X2_told_64, X2_told_65, X2_told_66, X2_told_69, X2_told_70, X2_told_71, X2_told_74, iOb_some, iClr_i, iClr_r, iClr_n, iClr_u, iClr_l, rf_s, rf_n, iB_0, iSum_nil, hE.g4, show nI 4 = 4 from rfl, and_self]
  | 5, _ =>
    simp only [X2_told_0, X2_told_1_0, X2_told_1_1, X2_told_1_2, X2_told_1_3, X2_told_1_4, X2_told_1_5, X2_told_40, X2_told_41, X2_told_44, X2_told_45, X2_told_46, X2_told_49, X2_told_50, X2_told_51, X2_told_54, X2_told_55, X2_told_56, X2_told_59, X2_told_60, X2_told_61, X2_told_64, X2_told_65, X2_told_66, X2_told_69, X2_told_70, X2_told_71, X2_told_74, iOb_some, iClr_i, iClr_r, iClr_n, iClr_u, iClr_l, rf_s, rf_n, iB_0, iSum_nil, hE.g5, show nI 5 = 5 from rfl, and_self]
  | 6, _ =>
    rw [show (nI 6) = (6 : Int32) from rfl]
    simp only [X2_told_0, iOb_some, iClr_i, iClr_r, iClr_n, iClr_u, iClr_l, rf_s, rf_n, iB_0, iSum_nil]
    rw [X2_told_1_d (by decide)]
    simp only [X2_told_70, X2_told_71, X2_told_74, iOb_some, iClr_i, iClr_r, iClr_n, iClr_u, iClr_l, rf_s, rf_n, iB_0, iSum_nil, hE.g6, and_self]
def eLike (e f : Nat → Int32) : Bool := decide (e 0 = f 0 ∧ e 1 = f 1 ∧ e 2 = f 2 ∧ e 3 = f 3 ∧ e 4 = f 4 ∧ e 5 = f 5 ∧ e 6 = f 6)
theorem ev_isLike (hE : edAt h p e) (hF : edAt h q f) : iEv mX2_isLike [.ref p, .ref q] h (some (.int (iB (eLike e f)))) h := by
  refine J2_isLike (cat_r q) ?_
  simp only [X2_isLike_0, X2_isLike_1, X2_isLike_4, X2_isLike_4n, X2_isLike_5, X2_isLike_8, X2_isLike_11, X2_isLike_12, X2_isLike_15, X2_isLike_15n, X2_isLike_16, X2_isLike_19, X2_isLike_22, X2_isLike_23, X2_isLike_26, X2_isLike_26n, X2_isLike_27, X2_isLike_30, X2_isLike_33, X2_isLike_34, X2_isLike_37, X2_isLike_37n, X2_isLike_38, X2_isLike_41, X2_isLike_44, X2_isLike_45, X2_isLike_48, X2_isLike_48n, X2_isLike_49, X2_isLike_52, X2_isLike_55, X2_isLike_56, X2_isLike_59, X2_isLike_59n, X2_isLike_60, X2_isLike_63, X2_isLike_66, X2_isLike_67, X2_isLike_70, X2_isLike_70n, X2_isLike_71, X2_isLike_74, X2_isLike_77, X2_isLike_78, X2_isLike_81, X2_isLike_82, X2_isLike_82z, X2_isLike_82o, iOb_some, iClr_i, iClr_r, iClr_n, iClr_u, iClr_l, rf_s, rf_n, iB_0, iSum_nil, hE.g0, hF.g0, hE.g1, hF.g1, hE.g2, hF.g2, hE.g3, hF.g3, hE.g4, hF.g4, hE.g5, hF.g5, hE.g6, hF.g6]
  unfold eLike
  by_cases c0 : e 0 = f 0
  · by_cases c1 : e 1 = f 1
    · by_cases c2 : e 2 = f 2
      · by_cases c3 : e 3 = f 3
        · by_cases c4 : e 4 = f 4
          · by_cases c5 : e 5 = f 5
            · by_cases c6 : e 6 = f 6
              · simp [c0, c1, c2, c3, c4, c5, c6]
              · simp [c0, c1, c2, c3, c4, c5, c6]
            · simp [c0, c1, c2, c3, c4, c5]
          · simp [c0, c1, c2, c3, c4]
        · simp [c0, c1, c2, c3]
      · simp [c0, c1, c2]
    · simp [c0, c1]
  · simp [c0]
def eNames (e f : Nat → Int32) : Bool := decide (e 0 = 0 ∧ f 0 = 0 ∧ e 1 = f 1)
theorem ev_namesAsWell (hE : edAt h p e) (hF : edAt h q f) : iEv mX2_namesAsWell [.ref p, .ref q] h (some (.int (iB (eNames e f)))) h := by
  refine J2_namesAsWell (cat_r q) ?_
  simp only [X2_namesAsWell_0, X2_namesAsWell_1, X2_namesAsWell_4, X2_namesAsWell_7, X2_namesAsWell_7n, X2_namesAsWell_8, X2_namesAsWell_11, X2_namesAsWell_14, X2_namesAsWell_15, X2_namesAsWell_18, X2_namesAsWell_18n, X2_namesAsWell_19, X2_namesAsWell_22, X2_namesAsWell_25, X2_namesAsWell_26, X2_namesAsWell_29, X2_namesAsWell_30, X2_namesAsWell_30z, X2_namesAsWell_30o, iOb_some, iClr_i, iClr_r, iClr_n, iClr_u, iClr_l, rf_s, rf_n, iB_0, iSum_nil, hE.g0, hF.g0, hE.g1, hF.g1]
  unfold eNames
  by_cases c0 : e 0 = 0
  · by_cases c1 : f 0 = 0
    · by_cases c2 : e 1 = f 1
      · simp [c0, c1, c2]
      · simp [c0, c1, c2]
    · simp [c0, c1]
  · simp [c0]
theorem ev_joinedN (hE : edAt h p e) (hF : edAt h q f) (hz : e 2 = f 3) : iEv mX2_joinedWith [.ref p, .ref q] h (some .null) h := by
  refine J2_joinedWith (cat_r q) ?_
  simp only [X2_joinedWith_0, X2_joinedWith_1, X2_joinedWith_4, X2_joinedWith_4n, X2_joinedWith_5, X2_joinedWith_8, X2_joinedWith_11, X2_joinedWith_12, X2_joinedWith_15, X2_joinedWith_16, X2_joinedWith_19, X2_joinedWith_20, X2_joinedWith_23, X2_joinedWith_23n, X2_joinedWith_24, X2_joinedWith_30, X2_joinedWith_30n, iOb_some, iClr_i, iClr_r, iClr_n, iClr_u, iClr_l, rf_s, rf_n, iB_0, iSum_nil, hE.g2, hF.g3, if_pos hz, and_self]
theorem ev_joined (hE : edAt h p e) (hF : edAt h q f) (hz : ¬ e 2 = f 3) : iEv mX2_joinedWith [.ref p, .ref q] h (some (.ref h.2.1)) (eNew h (e7 0 (e 1) (e 2) (f 3) 0 0 0)) := by
  refine J2_joinedWith (cat_r q) ?_
  simp only [X2_joinedWith_0, X2_joinedWith_1, X2_joinedWith_4, X2_joinedWith_4n, X2_joinedWith_5, X2_joinedWith_8, X2_joinedWith_11, X2_joinedWith_12, X2_joinedWith_15, X2_joinedWith_16, X2_joinedWith_19, X2_joinedWith_20, X2_joinedWith_23, X2_joinedWith_23n, X2_joinedWith_24, X2_joinedWith_27 (ev_name _ _ _), X2_joinedWith_30, X2_joinedWith_30n, iOb_some, iClr_i, iClr_r, iClr_n, iClr_u, iClr_l, rf_s, rf_n, iB_0, iSum_nil, hE.g1, hE.g2, hF.g3, if_neg hz, and_self]
theorem oI_ne {i : Nat} (hi : i < 2 ^ 31) : ¬ nI i = -1 := fun z => nI_pos hi (by rw [z]; decide)
/-- the edit FITS the tree: TAKE, with its node at i -/
def eFitT (e : Nat → Int32) (n : Nat) (K B D : Nat → Int32) : Option Nat → Bool
  | none => false
  | some i => decide (tKids D n i = 0 ∧ B i = e 2 ∧ tPK K D i = e 3 ∧ nI (tPlace D i) = e 4)
theorem tC_le {D : Nat → Int32} {d : Int32} : ∀ (m e c : Nat), c ≤ tC D d e m c ∧ tC D d e m c ≤ c + m
  | 0, e, c => ⟨Nat.le_refl _, Nat.le_refl _⟩
  | m + 1, e, c => by
    unfold tC
    split
    · by_cases hc : D e = d + 1
      · rw [if_pos hc]
        have := tC_le (D := D) (d := d) m (e + 1) (c + 1)
        omega
      · rw [if_neg hc]
        have := tC_le (D := D) (d := d) m (e + 1) c
        omega
    · omega
theorem tKids_le {D : Nat → Int32} {n i : Nat} : tKids D n i ≤ n := by
  have := (tC_le (D := D) (d := D i) (n - (i + 1)) (i + 1) 0).2
  unfold tKids
  omega
theorem ev_fitsAsTake (hE : edAt h p e) (hT : trAt h t n K B D) (hk : ∀ i, tWhere K n (e 1) = some i → i < n) : iEv mX2_fitsAsTake [.ref p, .ref t, .int (oI (tWhere K n (e 1)))] h (some (.int (iB (eFitT e n K B D (tWhere K n (e 1)))))) h := by
  refine J2_fitsAsTake (cat_r t) ?_
  have hn := hT.2.2.2.2
  cases hw : tWhere K n (e 1) with
  | none =>
    simp only [X2_fitsAsTake_0, X2_fitsAsTake_1, X2_fitsAsTake_2, X2_fitsAsTake_5, X2_fitsAsTake_5n, X2_fitsAsTake_6, X2_fitsAsTake_10, X2_fitsAsTake_13, X2_fitsAsTake_13n, X2_fitsAsTake_14, X2_fitsAsTake_18, X2_fitsAsTake_19, X2_fitsAsTake_22, X2_fitsAsTake_25, X2_fitsAsTake_25n, X2_fitsAsTake_26, X2_fitsAsTake_30, X2_fitsAsTake_31, X2_fitsAsTake_34, X2_fitsAsTake_37, X2_fitsAsTake_37n, X2_fitsAsTake_38, X2_fitsAsTake_42, X2_fitsAsTake_43, X2_fitsAsTake_46, X2_fitsAsTake_49, X2_fitsAsTake_50, X2_fitsAsTake_53, X2_fitsAsTake_54, X2_fitsAsTake_54z, X2_fitsAsTake_54o, iOb_some, iClr_i, iClr_r, iClr_n, iClr_u, iClr_l, rf_s, rf_n, iB_0, iSum_nil, oI, if_true, eFitT, and_self]
  | some i =>
    have hi := hk i hw
    simp only [X2_fitsAsTake_0, X2_fitsAsTake_1, X2_fitsAsTake_2, X2_fitsAsTake_5, X2_fitsAsTake_5n, X2_fitsAsTake_6, X2_fitsAsTake_7 (ev_childCount hT hi) hT.o, X2_fitsAsTake_10, X2_fitsAsTake_13, X2_fitsAsTake_13n, X2_fitsAsTake_14, X2_fitsAsTake_15 (ev_labelAt hT hi) hT.o, X2_fitsAsTake_18, X2_fitsAsTake_19, X2_fitsAsTake_22, X2_fitsAsTake_25, X2_fitsAsTake_25n, X2_fitsAsTake_26, X2_fitsAsTake_27 (ev_parentKeyAt hT hi) hT.o, X2_fitsAsTake_30, X2_fitsAsTake_31, X2_fitsAsTake_34, X2_fitsAsTake_37, X2_fitsAsTake_37n, X2_fitsAsTake_38, X2_fitsAsTake_39 (ev_placeAt hT hi) hT.o, X2_fitsAsTake_42, X2_fitsAsTake_43, X2_fitsAsTake_46, X2_fitsAsTake_49, X2_fitsAsTake_50, X2_fitsAsTake_53, X2_fitsAsTake_54, X2_fitsAsTake_54z, X2_fitsAsTake_54o, iOb_some, iClr_i, iClr_r, iClr_n, iClr_u, iClr_l, rf_s, rf_n, iB_0, iSum_nil, oI, if_neg (oI_ne (show i < 2 ^ 31 by omega)), hE.g2, hE.g3, hE.g4, eFitT]
    have hkl := tKids_le (D := D) (n := n) (i := i)
    have ek : (nI (tKids D n i) = 0) ↔ (tKids D n i = 0) := by
      rw [← nI_0]
      exact nI_eq (by omega) (by omega)
    by_cases c0 : tKids D n i = 0
    · rw [if_pos (ek.mpr c0)]
      by_cases c1 : B i = e 2
      · by_cases c2 : tPK K D i = e 3
        · by_cases c3 : nI (tPlace D i) = e 4
          · simp [c0, c1, c2, c3]
          · simp [c0, c1, c2, c3]
        · simp [c0, c1, c2]
      · simp [c0, c1]
    · rw [if_neg (fun z => c0 (ek.mp z))]
      simp [c0]
def eFitG (e : Nat → Int32) (n : Nat) (K D : Nat → Int32) (o : Option Nat) : Option Nat → Bool
  | none => false
  | some g => decide (o = none ∧ ¬ e 4 < 0 ∧ ¬ nI (tKids D n g) < e 4 ∧ n < 80)
theorem ev_fitsAsGive (hE : edAt h p e) (hT : trAt h t n K B D) : iEv mX2_fitsAsGive [.ref p, .ref t, .int (oI (tWhere K n (e 1)))] h (some (.int (iB (eFitG e n K D (tWhere K n (e 1)) (tWhere K n (e 3)))))) h := by
  refine J2_fitsAsGive (cat_r t) ?_
  have hn := hT.2.2.2.2
  simp only [X2_fitsAsGive_0, X2_fitsAsGive_0n, X2_fitsAsGive_1, X2_fitsAsGive_2, X2_fitsAsGive_5 (ev_whereOf hT (e 3)) hT.o, X2_fitsAsGive_8, iOb_some, iClr_i, iClr_r, iClr_n, iClr_u, iClr_l, rf_s, rf_n, iB_0, iSum_nil, hE.g3]
  cases hw : tWhere K n (e 1) with
  | some i =>
    have hi := (tWhere_lt hw).1
    cases hg : tWhere K n (e 3) with
    | none =>
      simp only [X2_fitsAsGive_0, X2_fitsAsGive_0n, X2_fitsAsGive_1, X2_fitsAsGive_2, X2_fitsAsGive_8, X2_fitsAsGive_9, X2_fitsAsGive_10, X2_fitsAsGive_11, X2_fitsAsGive_14, X2_fitsAsGive_15, X2_fitsAsGive_16, X2_fitsAsGive_19, X2_fitsAsGive_20, X2_fitsAsGive_23, X2_fitsAsGive_26, X2_fitsAsGive_27, X2_fitsAsGive_30, X2_fitsAsGive_30n, X2_fitsAsGive_31, X2_fitsAsGive_35, X2_fitsAsGive_38, X2_fitsAsGive_38n, X2_fitsAsGive_39, X2_fitsAsGive_42, X2_fitsAsGive_44, X2_fitsAsGive_47, X2_fitsAsGive_48, X2_fitsAsGive_51, X2_fitsAsGive_52, X2_fitsAsGive_52z, X2_fitsAsGive_52o, iOb_some, iClr_i, iClr_r, iClr_n, iClr_u, iClr_l, rf_s, rf_n, iB_0, iSum_nil, oI, if_neg (oI_ne (show i < 2 ^ 31 by omega)), eFitG, and_self]
    | some g =>
      simp only [X2_fitsAsGive_0, X2_fitsAsGive_0n, X2_fitsAsGive_1, X2_fitsAsGive_2, X2_fitsAsGive_8, X2_fitsAsGive_9, X2_fitsAsGive_10, X2_fitsAsGive_11, X2_fitsAsGive_14, X2_fitsAsGive_15, X2_fitsAsGive_16, X2_fitsAsGive_19, X2_fitsAsGive_20, X2_fitsAsGive_23, X2_fitsAsGive_26, X2_fitsAsGive_27, X2_fitsAsGive_30, X2_fitsAsGive_30n, X2_fitsAsGive_31, X2_fitsAsGive_35, X2_fitsAsGive_38, X2_fitsAsGive_38n, X2_fitsAsGive_39, X2_fitsAsGive_42, X2_fitsAsGive_44, X2_fitsAsGive_47, X2_fitsAsGive_48, X2_fitsAsGive_51, X2_fitsAsGive_52, X2_fitsAsGive_52z, X2_fitsAsGive_52o, iOb_some, iClr_i, iClr_r, iClr_n, iClr_u, iClr_l, rf_s, rf_n, iB_0, iSum_nil, oI, if_neg (oI_ne (show i < 2 ^ 31 by omega)), eFitG]
      simp
  | none =>
    cases hg : tWhere K n (e 3) with
    | none =>
      simp only [X2_fitsAsGive_0, X2_fitsAsGive_0n, X2_fitsAsGive_1, X2_fitsAsGive_2, X2_fitsAsGive_8, X2_fitsAsGive_9, X2_fitsAsGive_10, X2_fitsAsGive_11, X2_fitsAsGive_14, X2_fitsAsGive_15, X2_fitsAsGive_16, X2_fitsAsGive_19, X2_fitsAsGive_20, X2_fitsAsGive_23, X2_fitsAsGive_26, X2_fitsAsGive_27, X2_fitsAsGive_30, X2_fitsAsGive_30n, X2_fitsAsGive_31, X2_fitsAsGive_35, X2_fitsAsGive_38, X2_fitsAsGive_38n, X2_fitsAsGive_39, X2_fitsAsGive_42, X2_fitsAsGive_44, X2_fitsAsGive_47, X2_fitsAsGive_48, X2_fitsAsGive_51, X2_fitsAsGive_52, X2_fitsAsGive_52z, X2_fitsAsGive_52o, iOb_some, iClr_i, iClr_r, iClr_n, iClr_u, iClr_l, rf_s, rf_n, iB_0, iSum_nil, oI, if_true, eFitG, and_self]
    | some g =>
      have hgn := (tWhere_lt hg).1
      simp only [X2_fitsAsGive_0, X2_fitsAsGive_0n, X2_fitsAsGive_1, X2_fitsAsGive_2, X2_fitsAsGive_8, X2_fitsAsGive_9, X2_fitsAsGive_10, X2_fitsAsGive_11, X2_fitsAsGive_14, X2_fitsAsGive_15, X2_fitsAsGive_16, X2_fitsAsGive_19, X2_fitsAsGive_20, X2_fitsAsGive_23, X2_fitsAsGive_26, X2_fitsAsGive_27, X2_fitsAsGive_30, X2_fitsAsGive_30n, X2_fitsAsGive_31, X2_fitsAsGive_32 (ev_childCount hT hgn) hT.o, X2_fitsAsGive_35, X2_fitsAsGive_38, X2_fitsAsGive_38n, X2_fitsAsGive_39, X2_fitsAsGive_42, X2_fitsAsGive_44, X2_fitsAsGive_47, X2_fitsAsGive_48, X2_fitsAsGive_51, X2_fitsAsGive_52, X2_fitsAsGive_52z, X2_fitsAsGive_52o, iOb_some, iClr_i, iClr_r, iClr_n, iClr_u, iClr_l, rf_s, rf_n, iB_0, iSum_nil, oI, if_true, if_neg (oI_ne (show g < 2 ^ 31 by omega)), hE.g4, hT.s, eFitG]
      have e80 : ((80 : Int32) ≤ nI n) ↔ (80 ≤ n) := nI_leI (a := 80) (b := n) (by omega) (by omega)
      by_cases c0 : e 4 < 0
      · simp [c0]
      · by_cases c1 : nI (tKids D n g) < e 4
        · simp [c0, c1]
        · by_cases c2 : 80 ≤ n
          · rw [if_neg c0, if_neg c1, if_pos (e80.mpr c2)]
            simp [c0, c1, show ¬ n < 80 by omega]
          · rw [if_neg c0, if_neg c1, if_neg (fun z => c2 (e80.mp z))]
            simp [c0, c1, show n < 80 by omega]
/-- how far behind a MOVE may bring it -/
def eLast (n : Nat) (D : Nat → Int32) (i g : Nat) : Int32 := if oI (tPar D i) = nI g then nI (tKids D n g) - 1 else nI (tKids D n g)
theorem ev_lastPlaceOfMove (hT : trAt h t n K B D) {i g : Nat} (hi : i < n) (hg : g < n) : iEv mX2_lastPlaceOfMove [.ref p, .ref t, .int (nI i), .int (nI g)] h (some (.int (eLast n D i g))) h := by
  refine J2_lastPlaceOfMove (cat_r t) ?_
  simp only [X2_lastPlaceOfMove_0, X2_lastPlaceOfMove_0n, X2_lastPlaceOfMove_1, X2_lastPlaceOfMove_2 (ev_childCount hT hg) hT.o, X2_lastPlaceOfMove_5, X2_lastPlaceOfMove_7, X2_lastPlaceOfMove_7n, X2_lastPlaceOfMove_8, X2_lastPlaceOfMove_9 (ev_parentAt hT hi) hT.o, X2_lastPlaceOfMove_12, X2_lastPlaceOfMove_13, X2_lastPlaceOfMove_16, X2_lastPlaceOfMove_18, X2_lastPlaceOfMove_19, X2_lastPlaceOfMove_20, X2_lastPlaceOfMove_23, X2_lastPlaceOfMove_25, iOb_some, iClr_i, iClr_r, iClr_n, iClr_u, iClr_l, rf_s, rf_n, iB_0, iSum_nil]
  unfold eLast
  by_cases c : oI (tPar D i) = nI g
  · simp [c]
  · simp [c]
end FITS

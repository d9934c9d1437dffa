/-! the class's Edit: FITS as a whole; perform; over; fitted -/
section PERF
variable {h b : iHp} {p q t n : Nat} {e f : Nat → Int32} {K B D : Nat → Int32}
def eFitM (e : Nat → Int32) (n : Nat) (K D : Nat → Int32) : Option Nat → Option Nat → Bool
  | some i, some g => decide (tPK K D i = e 3 ∧ nI (tPlace D i) = e 4 ∧ ¬ (i ≤ g ∧ g < tEnd D n i) ∧ ¬ e 6 < 0 ∧ ¬ eLast n D i g < e 6)
  | _, _ => false
theorem ev_fitsAsMove (hE : edAt h p e) (hT : trAt h t n K B D) : iEv mX2_fitsAsMove [.ref p, .ref t, .int (oI (tWhere K n (e 1)))] h (some (.int (iB (eFitM e n K D (tWhere K n (e 1)) (tWhere K n (e 5)))))) h := by
  refine J2_fitsAsMove (cat_r t) ?_
  have hn := hT.2.2.2.2
  simp only [X2_fitsAsMove_0, X2_fitsAsMove_0n, X2_fitsAsMove_1, X2_fitsAsMove_2, X2_fitsAsMove_5 (ev_whereOf hT (e 5)) hT.o, X2_fitsAsMove_8, iOb_some, iClr_i, iClr_r, iClr_n, iClr_u, iClr_l, rf_s, rf_n, iB_0, iSum_nil, hE.g5]
  cases hw : tWhere K n (e 1) with
  | none =>
    simp only [X2_fitsAsMove_0, X2_fitsAsMove_0n, X2_fitsAsMove_1, X2_fitsAsMove_2, X2_fitsAsMove_8, X2_fitsAsMove_9, X2_fitsAsMove_10, X2_fitsAsMove_11, X2_fitsAsMove_14, X2_fitsAsMove_14n, X2_fitsAsMove_15, X2_fitsAsMove_19, X2_fitsAsMove_20, X2_fitsAsMove_23, X2_fitsAsMove_26, X2_fitsAsMove_26n, X2_fitsAsMove_27, X2_fitsAsMove_31, X2_fitsAsMove_32, X2_fitsAsMove_35, X2_fitsAsMove_38, X2_fitsAsMove_39, X2_fitsAsMove_40, X2_fitsAsMove_43, X2_fitsAsMove_43n, X2_fitsAsMove_44, X2_fitsAsMove_45, X2_fitsAsMove_49, X2_fitsAsMove_52, X2_fitsAsMove_53, X2_fitsAsMove_56, X2_fitsAsMove_59, X2_fitsAsMove_60, X2_fitsAsMove_63, X2_fitsAsMove_64, X2_fitsAsMove_64n, X2_fitsAsMove_65, X2_fitsAsMove_66, X2_fitsAsMove_70, X2_fitsAsMove_73, X2_fitsAsMove_74, X2_fitsAsMove_77, X2_fitsAsMove_78, X2_fitsAsMove_78z, X2_fitsAsMove_78o, iOb_some, iClr_i, iClr_r, iClr_n, iClr_u, iClr_l, rf_s, rf_n, iB_0, iSum_nil, oI, if_true, eFitM, and_self]
  | some i =>
    have hi := (tWhere_lt hw).1
    cases hg : tWhere K n (e 5) with
    | none =>
      simp only [X2_fitsAsMove_0, X2_fitsAsMove_0n, X2_fitsAsMove_1, X2_fitsAsMove_2, X2_fitsAsMove_8, X2_fitsAsMove_9, X2_fitsAsMove_10, X2_fitsAsMove_11, X2_fitsAsMove_14, X2_fitsAsMove_14n, X2_fitsAsMove_15, X2_fitsAsMove_16 (ev_parentKeyAt hT hi) hT.o, X2_fitsAsMove_19, X2_fitsAsMove_20, X2_fitsAsMove_23, X2_fitsAsMove_26, X2_fitsAsMove_26n, X2_fitsAsMove_27, X2_fitsAsMove_28 (ev_placeAt hT hi) hT.o, X2_fitsAsMove_31, X2_fitsAsMove_32, X2_fitsAsMove_35, X2_fitsAsMove_38, X2_fitsAsMove_39, X2_fitsAsMove_40, X2_fitsAsMove_43, X2_fitsAsMove_43n, X2_fitsAsMove_44, X2_fitsAsMove_45, X2_fitsAsMove_49, X2_fitsAsMove_52, X2_fitsAsMove_53, X2_fitsAsMove_56, X2_fitsAsMove_59, X2_fitsAsMove_60, X2_fitsAsMove_63, X2_fitsAsMove_64, X2_fitsAsMove_64n, X2_fitsAsMove_65, X2_fitsAsMove_66, X2_fitsAsMove_70, X2_fitsAsMove_73, X2_fitsAsMove_74, X2_fitsAsMove_77, X2_fitsAsMove_78, X2_fitsAsMove_78z, X2_fitsAsMove_78o, iOb_some, iClr_i, iClr_r, iClr_n, iClr_u, iClr_l, rf_s, rf_n, iB_0, iSum_nil, oI, if_true, if_neg (oI_ne (show i < 2 ^ 31 by omega)), hE.g3, hE.g4, eFitM]
      by_cases c0 : tPK K D i = e 3
      · by_cases c1 : nI (tPlace D i) = e 4
        · simp [c0, c1]
        · simp [c0, c1]
      · simp [c0]
    | some g =>
      have hgn := (tWhere_lt hg).1
      simp only [X2_fitsAsMove_0, X2_fitsAsMove_0n, X2_fitsAsMove_1, X2_fitsAsMove_2, X2_fitsAsMove_8, X2_fitsAsMove_9, X2_fitsAsMove_10, X2_fitsAsMove_11, X2_fitsAsMove_14, X2_fitsAsMove_14n, X2_fitsAsMove_15, X2_fitsAsMove_16 (ev_parentKeyAt hT hi) hT.o, X2_fitsAsMove_19, X2_fitsAsMove_20, X2_fitsAsMove_23, X2_fitsAsMove_26, X2_fitsAsMove_26n, X2_fitsAsMove_27, X2_fitsAsMove_28 (ev_placeAt hT hi) hT.o, X2_fitsAsMove_31, X2_fitsAsMove_32, X2_fitsAsMove_35, X2_fitsAsMove_38, X2_fitsAsMove_39, X2_fitsAsMove_40, X2_fitsAsMove_43, X2_fitsAsMove_43n, X2_fitsAsMove_44, X2_fitsAsMove_45, X2_fitsAsMove_46 (ev_isWithin hT hgn hi) hT.o, X2_fitsAsMove_49, X2_fitsAsMove_52, X2_fitsAsMove_53, X2_fitsAsMove_56, X2_fitsAsMove_59, X2_fitsAsMove_60, X2_fitsAsMove_63, X2_fitsAsMove_64, X2_fitsAsMove_64n, X2_fitsAsMove_65, X2_fitsAsMove_66, X2_fitsAsMove_67 (ev_lastPlaceOfMove hT hi hgn) hE.o (cat_r t), X2_fitsAsMove_70, X2_fitsAsMove_73, X2_fitsAsMove_74, X2_fitsAsMove_77, X2_fitsAsMove_78, X2_fitsAsMove_78z, X2_fitsAsMove_78o, iOb_some, iClr_i, iClr_r, iClr_n, iClr_u, iClr_l, rf_s, rf_n, iB_0, iSum_nil, oI, if_neg (oI_ne (show i < 2 ^ 31 by omega)), if_neg (oI_ne (show g < 2 ^ 31 by omega)), hE.g3, hE.g4, hE.g6, eFitM]
      by_cases c0 : tPK K D i = e 3
      · by_cases c1 : nI (tPlace D i) = e 4
        · by_cases c2 : i ≤ g ∧ g < tEnd D n i
          · simp [c0, c1, c2]
          · have c2' : (decide (i ≤ g) && decide (g < tEnd D n i)) = false := by
              cases z : (decide (i ≤ g) && decide (g < tEnd D n i)) with
              | false => rfl
              | true => exact absurd (by simpa using z) c2
            rw [if_pos c0, if_pos c1, if_pos c2']
            by_cases c3 : e 6 < 0
            · simp [c3]
            · by_cases c4 : eLast n D i g < e 6
              · simp [c3, c4]
              · rw [if_neg c3, if_neg c4]
                rw [decide_eq_true (show tPK K D i = e 3 ∧ nI (tPlace D i) = e 4 ∧ ¬ (i ≤ g ∧ g < tEnd D n i) ∧ ¬ e 6 < 0 ∧ ¬ eLast n D i g < e 6 from ⟨c0, c1, c2, c3, c4⟩)]
                exact ⟨rfl, trivial⟩
        · simp [c0, c1]
      · simp [c0]
/-- the edit FITS -/
def eFits (e : Nat → Int32) (n : Nat) (K B D : Nat → Int32) : Bool := if e 0 = 0 then (match tWhere K n (e 1) with
    | none => false
    | some i => decide (B i = e 2)) else if e 0 = 1 then eFitT e n K B D (tWhere K n (e 1)) else if e 0 = 2 then eFitG e n K D (tWhere K n (e 1)) (tWhere K n (e 3)) else eFitM e n K D (tWhere K n (e 1)) (tWhere K n (e 5))
theorem ev_fits (hE : edAt h p e) (hT : trAt h t n K B D) : iEv mX2_fits [.ref p, .ref t] h (some (.int (iB (eFits e n K B D)))) h := by
  refine J2_fits (cat_r t) ?_
  have hn := hT.2.2.2.2
  simp only [X2_fits_0, X2_fits_0n, X2_fits_1, X2_fits_2, X2_fits_5 (ev_whereOf hT (e 1)) hT.o, X2_fits_8, X2_fits_9, X2_fits_10, iOb_some, iClr_i, iClr_r, iClr_n, iClr_u, iClr_l, rf_s, rf_n, iB_0, iSum_nil, hE.g0, hE.g1]
  unfold eFits
  by_cases c0 : e 0 = 0
  · rw [if_pos c0, c0]
    cases hw : tWhere K n (e 1) with
    | none =>
      simp only [X2_fits_0, X2_fits_0n, X2_fits_1, X2_fits_2, X2_fits_8, X2_fits_9, X2_fits_10, X2_fits_13_0, X2_fits_13_1, X2_fits_13_2, X2_fits_40, X2_fits_41, X2_fits_42, X2_fits_45, X2_fits_45n, X2_fits_46, X2_fits_50, X2_fits_51, X2_fits_54, X2_fits_57, X2_fits_58, X2_fits_61, X2_fits_62, X2_fits_62z, X2_fits_62o, X2_fits_63, X2_fits_64, X2_fits_64n, X2_fits_65, X2_fits_69, X2_fits_69z, X2_fits_69o, X2_fits_70, X2_fits_71, X2_fits_71n, X2_fits_72, X2_fits_76, X2_fits_76z, X2_fits_76o, X2_fits_77, X2_fits_78, X2_fits_78n, X2_fits_79, X2_fits_83, X2_fits_83z, X2_fits_83o, iOb_some, iClr_i, iClr_r, iClr_n, iClr_u, iClr_l, rf_s, rf_n, iB_0, iSum_nil, oI, if_true, and_self]
    | some i =>
      have hi := (tWhere_lt hw).1
      simp only [X2_fits_0, X2_fits_0n, X2_fits_1, X2_fits_2, X2_fits_8, X2_fits_9, X2_fits_10, X2_fits_13_0, X2_fits_13_1, X2_fits_13_2, X2_fits_40, X2_fits_41, X2_fits_42, X2_fits_45, X2_fits_45n, X2_fits_46, X2_fits_47 (ev_labelAt hT hi) hT.o, X2_fits_50, X2_fits_51, X2_fits_54, X2_fits_57, X2_fits_58, X2_fits_61, X2_fits_62, X2_fits_62z, X2_fits_62o, X2_fits_63, X2_fits_64, X2_fits_64n, X2_fits_65, X2_fits_69, X2_fits_69z, X2_fits_69o, X2_fits_70, X2_fits_71, X2_fits_71n, X2_fits_72, X2_fits_76, X2_fits_76z, X2_fits_76o, X2_fits_77, X2_fits_78, X2_fits_78n, X2_fits_79, X2_fits_83, X2_fits_83z, X2_fits_83o, iOb_some, iClr_i, iClr_r, iClr_n, iClr_u, iClr_l, rf_s, rf_n, iB_0, iSum_nil, oI, if_neg (oI_ne (show i < 2 ^ 31 by omega)), hE.g2]
      by_cases c : B i = e 2
      · simp [c]
      · simp [c]
  · rw [if_neg c0]
    by_cases c1 : e 0 = 1
    · rw [if_pos c1, c1]
      simp only [X2_fits_0, X2_fits_0n, X2_fits_1, X2_fits_2, X2_fits_8, X2_fits_9, X2_fits_10, X2_fits_13_0, X2_fits_13_1, X2_fits_13_2, X2_fits_40, X2_fits_41, X2_fits_42, X2_fits_45, X2_fits_45n, X2_fits_46, X2_fits_50, X2_fits_51, X2_fits_54, X2_fits_57, X2_fits_58, X2_fits_61, X2_fits_62, X2_fits_62z, X2_fits_62o, X2_fits_63, X2_fits_64, X2_fits_64n, X2_fits_65, X2_fits_66 (ev_fitsAsTake hE hT (fun i hw => (tWhere_lt hw).1)) hE.o (cat_r t), X2_fits_69, X2_fits_69z, X2_fits_69o, X2_fits_70, X2_fits_71, X2_fits_71n, X2_fits_72, X2_fits_76, X2_fits_76z, X2_fits_76o, X2_fits_77, X2_fits_78, X2_fits_78n, X2_fits_79, X2_fits_83, X2_fits_83z, X2_fits_83o, iOb_some, iClr_i, iClr_r, iClr_n, iClr_u, iClr_l, rf_s, rf_n, iB_0, iSum_nil, and_self]
    · rw [if_neg c1]
      by_cases c2 : e 0 = 2
      · rw [if_pos c2, c2]
        simp only [X2_fits_0, X2_fits_0n, X2_fits_1, X2_fits_2, X2_fits_8, X2_fits_9, X2_fits_10, X2_fits_13_0, X2_fits_13_1, X2_fits_13_2, X2_fits_40, X2_fits_41, X2_fits_42, X2_fits_45, X2_fits_45n, X2_fits_46, X2_fits_50, X2_fits_51, X2_fits_54, X2_fits_57, X2_fits_58, X2_fits_61, X2_fits_62, X2_fits_62z, X2_fits_62o, X2_fits_63, X2_fits_64, X2_fits_64n, X2_fits_65, X2_fits_69, X2_fits_69z, X2_fits_69o, X2_fits_70, X2_fits_71, X2_fits_71n, X2_fits_72, X2_fits_73 (ev_fitsAsGive hE hT) hE.o (cat_r t), X2_fits_76, X2_fits_76z, X2_fits_76o, X2_fits_77, X2_fits_78, X2_fits_78n, X2_fits_79, X2_fits_83, X2_fits_83z, X2_fits_83o, iOb_some, iClr_i, iClr_r, iClr_n, iClr_u, iClr_l, rf_s, rf_n, iB_0, iSum_nil, and_self]
      · rw [if_neg c2, X2_fits_13_d (i_sw3 c0 c1 c2)]
        simp only [X2_fits_77, X2_fits_78, X2_fits_78n, X2_fits_79, X2_fits_80 (ev_fitsAsMove hE hT) hE.o (cat_r t), X2_fits_83, X2_fits_83z, X2_fits_83o, iOb_some, iClr_i, iClr_r, iClr_n, iClr_u, iClr_l, rf_s, rf_n, iB_0, iSum_nil, and_self]
-- what it does
theorem tSp_le {D : Nat → Int32} {d pl wo : Int32} {en : Nat} : ∀ (m i a : Nat), i + m = en → i ≤ tSp D d pl wo en i m a ∧ tSp D d pl wo en i m a ≤ en
  | 0, i, a, h => by
    unfold tSp
    omega
  | m + 1, i, a, h => by
    unfold tSp
    have h1 := tSp_le (D := D) (d := d) (pl := pl) (wo := wo) (en := en) m (i + 1) a (by omega)
    have h2 := tSp_le (D := D) (d := d) (pl := pl) (wo := wo) (en := en) m (i + 1) (a + 1) (by omega)
    split
    · split
      · omega
      · split
        · omega
        · omega
    · omega
theorem tSpot_le {D : Nat → Int32} {n g : Nat} {pl wo : Int32} (hg : g < n) : g < tSpot D n g pl wo ∧ tSpot D n g pl wo ≤ tEnd D n g ∧ tSpot D n g pl wo ≤ n := by
  have hE := tEnd_gt (D := D) hg
  have := tSp_le (D := D) (d := D g + 1) (pl := pl) (wo := wo) (en := tEnd D n g) (tEnd D n g - (g + 1)) (g + 1) 0 (by omega)
  unfold tSpot
  omega
theorem ev_performN (hE : edAt (trH b t n K B D) p e) (hn : n ≤ 80) (h0 : e 0 = 0) {i : Nat} (hw : tWhere K n (e 1) = some i) : iEv mX2_perform [.ref p, .ref t] (trH b t n K B D) none (trH b t n K (upd B i (e 3)) D) := by
  refine J2_perform (cat_r t) ?_
  have hi := (tWhere_lt hw).1
  have ew := ev_whereOf (trH_tr (b := b) (t := t) (K := K) (B := B) (D := D) hn) (e 1)
  rw [hw] at ew
  simp only [X2_perform_0, X2_perform_0n, X2_perform_1, X2_perform_2, X2_perform_5 ew tr_o, X2_perform_8, X2_perform_9, X2_perform_10, iOb_some, iClr_i, iClr_r, iClr_n, iClr_u, iClr_l, rf_s, rf_n, iB_0, iSum_nil, hE.g0, hE.g1, h0, oI]
  simp only [X2_perform_13_0, X2_perform_13_1, X2_perform_13_2, X2_perform_40, X2_perform_40n, X2_perform_41, X2_perform_42, X2_perform_43, X2_perform_46 (ev_rename hn hi (e 3)) tr_o, X2_perform_49, X2_perform_52, X2_perform_52n, X2_perform_53, X2_perform_57, X2_perform_60, X2_perform_60n, X2_perform_61, X2_perform_62, X2_perform_68, X2_perform_69, X2_perform_69n, X2_perform_70, X2_perform_70n, X2_perform_71, X2_perform_72, X2_perform_73, X2_perform_76, X2_perform_80, X2_perform_81, X2_perform_84, X2_perform_85, X2_perform_88, X2_perform_88n, X2_perform_89, X2_perform_93, X2_perform_94, X2_perform_98, X2_perform_101, X2_perform_101n, X2_perform_102, X2_perform_103, X2_perform_109, X2_perform_111, X2_perform_111n, X2_perform_112, X2_perform_113, X2_perform_113n, X2_perform_114, X2_perform_116, X2_perform_117, X2_perform_120, X2_perform_124, X2_perform_124n, X2_perform_125, X2_perform_130, X2_perform_131, X2_perform_135, iOb_some, iClr_i, iClr_r, iClr_n, iClr_u, iClr_l, rf_s, rf_n, iB_0, iSum_nil, hE.g3, and_self]
theorem ev_performT (hE : edAt (trH b t n K B D) p e) (hn : n ≤ 80) (h0 : e 0 = 1) {i : Nat} (hw : tWhere K n (e 1) = some i) : iEv mX2_perform [.ref p, .ref t] (trH b t n K B D) none (trH b t (n - 1) (tO1 K n i) (tO1 B n i) (tO1 D n i)) := by
  refine J2_perform (cat_r t) ?_
  have hi := (tWhere_lt hw).1
  have ew := ev_whereOf (trH_tr (b := b) (t := t) (K := K) (B := B) (D := D) hn) (e 1)
  rw [hw] at ew
  simp only [X2_perform_0, X2_perform_0n, X2_perform_1, X2_perform_2, X2_perform_5 ew tr_o, X2_perform_8, X2_perform_9, X2_perform_10, iOb_some, iClr_i, iClr_r, iClr_n, iClr_u, iClr_l, rf_s, rf_n, iB_0, iSum_nil, hE.g0, hE.g1, h0, oI]
  simp only [X2_perform_13_0, X2_perform_13_1, X2_perform_13_2, X2_perform_40, X2_perform_40n, X2_perform_41, X2_perform_42, X2_perform_43, X2_perform_49, X2_perform_52, X2_perform_52n, X2_perform_53, X2_perform_54 (ev_remove hn hi) tr_o, X2_perform_57, X2_perform_60, X2_perform_60n, X2_perform_61, X2_perform_62, X2_perform_68, X2_perform_69, X2_perform_69n, X2_perform_70, X2_perform_70n, X2_perform_71, X2_perform_72, X2_perform_73, X2_perform_76, X2_perform_80, X2_perform_81, X2_perform_84, X2_perform_85, X2_perform_88, X2_perform_88n, X2_perform_89, X2_perform_93, X2_perform_94, X2_perform_98, X2_perform_101, X2_perform_101n, X2_perform_102, X2_perform_103, X2_perform_109, X2_perform_111, X2_perform_111n, X2_perform_112, X2_perform_113, X2_perform_113n, X2_perform_114, X2_perform_116, X2_perform_117, X2_perform_120, X2_perform_124, X2_perform_124n, X2_perform_125, X2_perform_130, X2_perform_131, X2_perform_135, iOb_some, iClr_i, iClr_r, iClr_n, iClr_u, iClr_l, rf_s, rf_n, iB_0, iSum_nil, and_self]
theorem ev_performG (hE : edAt (trH b t n K B D) p e) (hn : n < 80) (h0 : e 0 = 2) {g : Nat} (hg : tWhere K n (e 3) = some g) : iEv mX2_perform [.ref p, .ref t] (trH b t n K B D) none (trH b t (n + 1) (tI1 K n (tSpot D n g (e 4) (-1)) (e 1)) (tI1 B n (tSpot D n g (e 4) (-1)) (e 2)) (tI1 D n (tSpot D n g (e 4) (-1)) (D g + 1))) := by
  refine J2_perform (cat_r t) ?_
  have hgn := (tWhere_lt hg).1
  have hT := trH_tr (b := b) (t := t) (K := K) (B := B) (D := D) (n := n) (by omega)
  have eg := ev_whereOf hT (e 3)
  rw [hg] at eg
  simp only [X2_perform_0, X2_perform_0n, X2_perform_1, X2_perform_2, X2_perform_5 (ev_whereOf hT (e 1)) tr_o, X2_perform_8, X2_perform_9, X2_perform_10, iOb_some, iClr_i, iClr_r, iClr_n, iClr_u, iClr_l, rf_s, rf_n, iB_0, iSum_nil, hE.g0, hE.g1, h0]
  simp only [X2_perform_13_0, X2_perform_13_1, X2_perform_13_2, X2_perform_40, X2_perform_40n, X2_perform_41, X2_perform_42, X2_perform_43, X2_perform_49, X2_perform_52, X2_perform_52n, X2_perform_53, X2_perform_57, X2_perform_60, X2_perform_60n, X2_perform_61, X2_perform_62, X2_perform_65 eg tr_o, X2_perform_68, X2_perform_69, X2_perform_69n, X2_perform_70, X2_perform_70n, X2_perform_71, X2_perform_72, X2_perform_73, X2_perform_76, X2_perform_77 (ev_spot hT hgn (e 4) (-1)) tr_o, X2_perform_80, X2_perform_81, X2_perform_84, X2_perform_85, X2_perform_88, X2_perform_88n, X2_perform_89, X2_perform_90 (ev_depthAt hT hgn) tr_o, X2_perform_93, X2_perform_94, X2_perform_95 (ev_insert hn (tSpot_le hgn).2.2 (e 1) (e 2) (D g + 1)) tr_o, X2_perform_98, X2_perform_101, X2_perform_101n, X2_perform_102, X2_perform_103, X2_perform_109, X2_perform_111, X2_perform_111n, X2_perform_112, X2_perform_113, X2_perform_113n, X2_perform_114, X2_perform_116, X2_perform_117, X2_perform_120, X2_perform_124, X2_perform_124n, X2_perform_125, X2_perform_130, X2_perform_131, X2_perform_135, iOb_some, iClr_i, iClr_r, iClr_n, iClr_u, iClr_l, rf_s, rf_n, iB_0, iSum_nil, hE.g1, hE.g2, hE.g3, hE.g4, oI, and_self]
theorem ev_performM (hE : edAt (trH b t n K B D) p e) (hn : n ≤ 80) (h0 : e 0 ≠ 0) (h1 : e 0 ≠ 1) (h2 : e 0 ≠ 2) {i g : Nat} (hw : tWhere K n (e 1) = some i) (hg : tWhere K n (e 5) = some g) : iEv mX2_perform [.ref p, .ref t] (trH b t n K B D) none (trH b t n (tCarry K (tSpot D n g (e 6) (nI i)) i (tEnd D n i)) (tCarry B (tSpot D n g (e 6) (nI i)) i (tEnd D n i)) (tCarry (tAdd D i (tEnd D n i) (D g + 1 - D i)) (tSpot D n g (e 6) (nI i)) i (tEnd D n i))) := by
  refine J2_perform (cat_r t) ?_
  have hi := (tWhere_lt hw).1
  have hgn := (tWhere_lt hg).1
  have hT := trH_tr (b := b) (t := t) (K := K) (B := B) (D := D) hn
  have ew := ev_whereOf hT (e 1)
  rw [hw] at ew
  have eg := ev_whereOf hT (e 5)
  rw [hg] at eg
  simp only [X2_perform_0, X2_perform_0n, X2_perform_1, X2_perform_2, X2_perform_5 ew tr_o, X2_perform_8, X2_perform_9, X2_perform_10, iOb_some, iClr_i, iClr_r, iClr_n, iClr_u, iClr_l, rf_s, rf_n, iB_0, iSum_nil, hE.g0, hE.g1, oI]
  rw [X2_perform_13_d (i_sw3 h0 h1 h2)]
  simp only [X2_perform_101, X2_perform_101n, X2_perform_102, X2_perform_103, X2_perform_106 eg tr_o, X2_perform_109, X2_perform_111, X2_perform_111n, X2_perform_112, X2_perform_113, X2_perform_113n, X2_perform_114, X2_perform_116, X2_perform_117, X2_perform_120, X2_perform_121 (ev_spot hT hgn (e 6) (nI i)) tr_o, X2_perform_124, X2_perform_124n, X2_perform_125, X2_perform_127 (ev_depthAt hT hgn) tr_o, X2_perform_130, X2_perform_131, X2_perform_132 (ev_carry hn hi (tSpot_le hgn).2.2 (D g + 1)) tr_o, X2_perform_135, iOb_some, iClr_i, iClr_r, iClr_n, iClr_u, iClr_l, rf_s, rf_n, iB_0, iSum_nil, hE.g5, hE.g6, oI, and_self]
end PERF

/-! the class's Edit as it is KEPT over another tree -/
section FITTED
variable {h : iHp} {p q t n : Nat} {e : Nat → Int32} {K B D : Nat → Int32}
theorem iSum_3 (x y z : Int32) : iSum [.int x, .int y, .int z] ≤ 8 := Nat.le_of_ble_eq_true rfl
theorem iSum_4 (x y z w : Int32) : iSum [.int x, .int y, .int z, .int w] ≤ 8 := Nat.le_of_ble_eq_true rfl
/-- the lesser of two -/
def iMn (x y : Int32) : Int32 := if y < x then y else x
theorem ev_fittedN (hE : edAt h p e) (hT : trAt h t n K B D) (h0 : e 0 = 0) : iEv mX2_fitted [.ref p, .ref t] h (some (.ref p)) h := by
  refine J2_fitted (cat_r t) ?_
  simp only [X2_fitted_0, X2_fitted_0n, X2_fitted_1, X2_fitted_2, X2_fitted_5 (ev_whereOf hT (e 1)) hT.o, X2_fitted_8, X2_fitted_9, X2_fitted_10, iOb_some, iClr_i, iClr_r, iClr_n, iClr_u, iClr_l, rf_s, rf_n, iB_0, iSum_nil, hE.g0, hE.g1]
  rw [h0]
  simp only [X2_fitted_13_0, X2_fitted_13_1, X2_fitted_13_2, X2_fitted_40, X2_fitted_41, X2_fitted_41n, iOb_some, iClr_i, iClr_r, iClr_n, iClr_u, iClr_l, rf_s, rf_n, iB_0, iSum_nil, and_self]
theorem ev_fittedT (hE : edAt h p e) (hT : trAt h t n K B D) (h0 : e 0 = 1) {i : Nat} (hw : tWhere K n (e 1) = some i) : iEv mX2_fitted [.ref p, .ref t] h (some (.ref h.2.1)) (eNew h (e7 1 (e 1) (e 2) (tPK K D i) (nI (tPlace D i)) 0 0)) := by
  refine J2_fitted (cat_r t) ?_
  have hi := (tWhere_lt hw).1
  have ew := ev_whereOf hT (e 1)
  rw [hw] at ew
  simp only [X2_fitted_0, X2_fitted_0n, X2_fitted_1, X2_fitted_2, X2_fitted_5 ew hT.o, X2_fitted_8, X2_fitted_9, X2_fitted_10, iOb_some, iClr_i, iClr_r, iClr_n, iClr_u, iClr_l, rf_s, rf_n, iB_0, iSum_nil, hE.g0, hE.g1, oI_s]
  rw [h0]
  simp only [X2_fitted_13_0, X2_fitted_13_1, X2_fitted_13_2, X2_fitted_40, X2_fitted_41, X2_fitted_41n, X2_fitted_42, X2_fitted_43, X2_fitted_46, X2_fitted_47, X2_fitted_50, X2_fitted_50n, X2_fitted_51, X2_fitted_52 (ev_parentKeyAt hT hi) hT.o, X2_fitted_55, X2_fitted_55n, X2_fitted_56, X2_fitted_57 (ev_placeAt hT hi) hT.o, X2_fitted_60 (ev_take (e 1) (e 2) (tPK K D i) (nI (tPlace D i))), X2_fitted_63, X2_fitted_63n, iOb_some, iClr_i, iClr_r, iClr_n, iClr_u, iClr_l, rf_s, rf_n, iB_0, iSum_nil, hE.g1, hE.g2, and_self]
theorem ev_fittedG (hE : edAt h p e) (hT : trAt h t n K B D) (h0 : e 0 = 2) {g : Nat} (hg : tWhere K n (e 3) = some g) : iEv mX2_fitted [.ref p, .ref t] h (some (.ref h.2.1)) (eNew h (e7 2 (e 1) (e 2) (e 3) (iMn (e 4) (nI (tKids D n g))) 0 0)) := by
  refine J2_fitted (cat_r t) ?_
  have hgn := (tWhere_lt hg).1
  have eg := ev_whereOf hT (e 3)
  rw [hg] at eg
  simp only [X2_fitted_0, X2_fitted_0n, X2_fitted_1, X2_fitted_2, X2_fitted_5 (ev_whereOf hT (e 1)) hT.o, X2_fitted_8, X2_fitted_9, X2_fitted_10, iOb_some, iClr_i, iClr_r, iClr_n, iClr_u, iClr_l, rf_s, rf_n, iB_0, iSum_nil, hE.g0, hE.g1]
  rw [h0]
  simp only [X2_fitted_13_0, X2_fitted_13_1, X2_fitted_13_2, X2_fitted_40, X2_fitted_41, X2_fitted_41n, X2_fitted_42, X2_fitted_43, X2_fitted_46, X2_fitted_47, X2_fitted_50, X2_fitted_50n, X2_fitted_51, X2_fitted_55, X2_fitted_55n, X2_fitted_56, X2_fitted_63, X2_fitted_63n, X2_fitted_64, X2_fitted_65, X2_fitted_68, X2_fitted_69, X2_fitted_72, X2_fitted_73, X2_fitted_76, X2_fitted_77, X2_fitted_80, X2_fitted_80n, X2_fitted_81, X2_fitted_81n, X2_fitted_82, X2_fitted_83, X2_fitted_86 eg hT.o, X2_fitted_89 (ev_childCount hT hgn) hT.o, X2_fitted_92, iOb_some, iClr_i, iClr_r, iClr_n, iClr_u, iClr_l, rf_s, rf_n, iB_0, iSum_nil, hE.g1, hE.g2, hE.g3, hE.g4, oI_s, iSum_3]
  rw [show (if nI (tKids D n g) < e 4 then nI (tKids D n g) else e 4) = iMn (e 4) (nI (tKids D n g)) from rfl]
  simp only [X2_fitted_95 (ev_give (e 1) (e 2) (e 3) (iMn (e 4) (nI (tKids D n g)))), X2_fitted_98, X2_fitted_98n, iOb_some, iClr_i, iClr_r, iClr_n, iClr_u, iClr_l, rf_s, rf_n, iB_0, iSum_nil, and_self]
theorem ev_fittedM (hE : edAt h p e) (hT : trAt h t n K B D) (h0 : e 0 ≠ 0) (h1 : e 0 ≠ 1) (h2 : e 0 ≠ 2) {i g : Nat} (hw : tWhere K n (e 1) = some i) (hg : tWhere K n (e 5) = some g) : iEv mX2_fitted [.ref p, .ref t] h (some (.ref h.2.1)) (eNew h (e7 3 (e 1) 0 (e 3) (nI (tPlace D i)) (e 5) (iMn (e 6) (eLast n D i g)))) := by
  refine J2_fitted (cat_r t) ?_
  have hi := (tWhere_lt hw).1
  have hgn := (tWhere_lt hg).1
  have ew := ev_whereOf hT (e 1)
  rw [hw] at ew
  have eg := ev_whereOf hT (e 5)
  rw [hg] at eg
  simp only [X2_fitted_0, X2_fitted_0n, X2_fitted_1, X2_fitted_2, X2_fitted_5 ew hT.o, X2_fitted_8, X2_fitted_9, X2_fitted_10, iOb_some, iClr_i, iClr_r, iClr_n, iClr_u, iClr_l, rf_s, rf_n, iB_0, iSum_nil, hE.g0, hE.g1, oI_s]
  rw [X2_fitted_13_d (i_sw3 h0 h1 h2)]
  simp only [X2_fitted_99, X2_fitted_100, X2_fitted_100n, X2_fitted_101, X2_fitted_102, X2_fitted_102n, X2_fitted_103, X2_fitted_104, X2_fitted_107 eg hT.o, X2_fitted_110 (ev_lastPlaceOfMove (p := p) hT hi hgn) hE.o (cat_r t), X2_fitted_113, X2_fitted_114, X2_fitted_115, X2_fitted_118, X2_fitted_119, X2_fitted_122, X2_fitted_122n, X2_fitted_123, X2_fitted_124 (ev_placeAt hT hi) hT.o, X2_fitted_127, X2_fitted_128, X2_fitted_131, X2_fitted_132, X2_fitted_135, X2_fitted_136, iOb_some, iClr_i, iClr_r, iClr_n, iClr_u, iClr_l, rf_s, rf_n, iB_0, iSum_nil, hE.g1, hE.g3, hE.g5, hE.g6, oI_s, iSum_4]
  rw [show (if eLast n D i g < e 6 then eLast n D i g else e 6) = iMn (e 6) (eLast n D i g) from rfl]
  simp only [X2_fitted_139 (ev_move (e 1) (e 3) (nI (tPlace D i)) (e 5) (iMn (e 6) (eLast n D i g))), X2_fitted_142, X2_fitted_142n, iOb_some, iClr_i, iClr_r, iClr_n, iClr_u, iClr_l, rf_s, rf_n, iB_0, iSum_nil, and_self]
end FITTED

/-! one call of the law, by its number -/
section LAWCASES
variable {h : iHp} {o i k L bb : Nat} {W : wW} {xs : Nat → Int32} {Q : Option Value → iHp → Prop}
theorem lw_case0 (hb : bb < o) (hL : L ≤ 3072) (hi : i + 6 ≤ L) (hI : lwI bb o L xs W k h) (next : ∀ W' h2, lwI bb o L xs W' (k + 1) h2 → iWp 60 mL_law 18 [.ref bb, .ref o, .ref (o + 10), .int (nI (i + 6))] [] h2 Q) : iWp 60 mL_law 200 [.ref bb, .ref o, .ref (o + 10), .int (nI i)] [] h Q := by
  have hW := hI.2.2.2.1
  have o8 := cRep_o hI.2.2.1
  have s1 : nI i + 1 = nI (i + 1) := nI_1 i
  have s2 : nI i + 2 = nI (i + 2) := nI_add i 2
  have s3 : nI i + 3 = nI (i + 3) := nI_add i 3
  have s6 : nI i + 6 = nI (i + 6) := nI_add i 6
  obtain ⟨h1, h2, e1, e2, e3, e4, e5⟩ := lw_call hb hI _ (aRow_ok hW) (c8_row_ hI.2.2.1 (xs (i + 1)) (xs (i + 2)) (xs (i + 3))) (fun g s hR => m9_row hR hW (xs (i + 1)) (xs (i + 2)) (xs (i + 3)))
  simp only [XL_law_200, XL_law_200n, XL_law_201, XL_law_201n, XL_law_202, XL_law_203, XL_law_204, XL_law_205, XL_law_206, XL_law_206n, XL_law_207, XL_law_208, XL_law_209, XL_law_210, XL_law_211, XL_law_211n, XL_law_212, XL_law_213, XL_law_214, XL_law_215, XL_law_216 e1 o8, XL_law_219, XL_law_219n, XL_law_220, XL_law_220n, XL_law_221, XL_law_222, XL_law_223, XL_law_224, XL_law_225, XL_law_225n, XL_law_226, XL_law_227, XL_law_228, XL_law_229, XL_law_230, XL_law_230n, XL_law_231, XL_law_232, XL_law_233, XL_law_234, XL_law_235 e2 e4, XL_law_238, iOb_some, iClr_i, iClr_r, iClr_n, iClr_u, iClr_l, rf_s, rf_n, iB_0, iSum_nil, s1, ldS hI.1 (show i + 1 < L by omega) hL, ldS e3 (show i + 1 < L by omega) hL, s2, ldS hI.1 (show i + 2 < L by omega) hL, ldS e3 (show i + 2 < L by omega) hL, s3, ldS hI.1 (show i + 3 < L by omega) hL, ldS e3 (show i + 3 < L by omega) hL, eq_self, if_true]
  simp only [XL_law_1465, XL_law_1468, iOb_some, iClr_i, iClr_r, iClr_n, iClr_u, iClr_l, rf_s, rf_n, iB_0, iSum_nil, s6]
  exact next _ h2 e5
theorem lw_case1 (hb : bb < o) (hL : L ≤ 3072) (hi : i + 6 ≤ L) (hI : lwI bb o L xs W k h) (next : ∀ W' h2, lwI bb o L xs W' (k + 1) h2 → iWp 60 mL_law 18 [.ref bb, .ref o, .ref (o + 10), .int (nI (i + 6))] [] h2 Q) : iWp 60 mL_law 243 [.ref bb, .ref o, .ref (o + 10), .int (nI i)] [] h Q := by
  have hW := hI.2.2.2.1
  have o8 := cRep_o hI.2.2.1
  have s1 : nI i + 1 = nI (i + 1) := nI_1 i
  have s2 : nI i + 2 = nI (i + 2) := nI_add i 2
  have s3 : nI i + 3 = nI (i + 3) := nI_add i 3
  have s4 : nI i + 4 = nI (i + 4) := nI_add i 4
  have s6 : nI i + 6 = nI (i + 6) := nI_add i 6
  obtain ⟨h1, h2, e1, e2, e3, e4, e5⟩ := lw_call hb hI _ (aSet_ok hW) (c8_set hI.2.2.1 hW (xs (i + 1)) (xs (i + 2)) ((xs (i + 3)).toInt64 <<< ((32 : Int32).toInt64 &&& 63) ||| ((xs (i + 4)).toInt64 &&& 4294967295))) (fun g s hR => m9_set hR hW (xs (i + 1)) (xs (i + 2)) ((xs (i + 3)).toInt64 <<< ((32 : Int32).toInt64 &&& 63) ||| ((xs (i + 4)).toInt64 &&& 4294967295)))
  simp only [XL_law_243, XL_law_243n, XL_law_244, XL_law_244n, XL_law_245, XL_law_246, XL_law_247, XL_law_248, XL_law_249, XL_law_249n, XL_law_250, XL_law_251, XL_law_252, XL_law_253, XL_law_254, XL_law_254n, XL_law_255, XL_law_256, XL_law_257, XL_law_258, XL_law_259, XL_law_260, XL_law_262, XL_law_263, XL_law_263n, XL_law_264, XL_law_265, XL_law_266, XL_law_267, XL_law_268, XL_law_269, XL_law_272, XL_law_273, XL_law_274 e1 o8, XL_law_277, XL_law_277n, XL_law_278, XL_law_278n, XL_law_279, XL_law_280, XL_law_281, XL_law_282, XL_law_283, XL_law_283n, XL_law_284, XL_law_285, XL_law_286, XL_law_287, XL_law_288, XL_law_288n, XL_law_289, XL_law_290, XL_law_291, XL_law_292, XL_law_293, XL_law_294, XL_law_296, XL_law_297, XL_law_297n, XL_law_298, XL_law_299, XL_law_300, XL_law_301, XL_law_302, XL_law_303, XL_law_306, XL_law_307, XL_law_308 e2 e4, XL_law_311, iOb_some, iClr_i, iClr_r, iClr_n, iClr_u, iClr_l, rf_s, rf_n, iB_0, iSum_nil, s1, ldS hI.1 (show i + 1 < L by omega) hL, ldS e3 (show i + 1 < L by omega) hL, s2, ldS hI.1 (show i + 2 < L by omega) hL, ldS e3 (show i + 2 < L by omega) hL, s3, ldS hI.1 (show i + 3 < L by omega) hL, ldS e3 (show i + 3 < L by omega) hL, s4, ldS hI.1 (show i + 4 < L by omega) hL, ldS e3 (show i + 4 < L by omega) hL, eq_self, if_true]
  simp only [XL_law_1465, XL_law_1468, iOb_some, iClr_i, iClr_r, iClr_n, iClr_u, iClr_l, rf_s, rf_n, iB_0, iSum_nil, s6]
  exact next _ h2 e5
theorem lw_case2 (hb : bb < o) (hL : L ≤ 3072) (hi : i + 6 ≤ L) (hI : lwI bb o L xs W k h) (next : ∀ W' h2, lwI bb o L xs W' (k + 1) h2 → iWp 60 mL_law 18 [.ref bb, .ref o, .ref (o + 10), .int (nI (i + 6))] [] h2 Q) : iWp 60 mL_law 316 [.ref bb, .ref o, .ref (o + 10), .int (nI i)] [] h Q := by
  have hW := hI.2.2.2.1
  have o8 := cRep_o hI.2.2.1
  have s1 : nI i + 1 = nI (i + 1) := nI_1 i
  have s2 : nI i + 2 = nI (i + 2) := nI_add i 2
  have s3 : nI i + 3 = nI (i + 3) := nI_add i 3
  have s4 : nI i + 4 = nI (i + 4) := nI_add i 4
  have s5 : nI i + 5 = nI (i + 5) := nI_add i 5
  have s6 : nI i + 6 = nI (i + 6) := nI_add i 6
  obtain ⟨h1, h2, e1, e2, e3, e4, e5⟩ := lw_call hb hI _ (aCopy_ok hW) (c8_copy hI.2.2.1 hW (xs (i + 1)) (xs (i + 2)) (xs (i + 3)) (xs (i + 4)) (xs (i + 5))) (fun g s hR => m9_copy hR hW (xs (i + 1)) (xs (i + 2)) (xs (i + 3)) (xs (i + 4)) (xs (i + 5)))
  simp only [XL_law_316, XL_law_316n, XL_law_317, XL_law_317n, XL_law_318, XL_law_319, XL_law_320, XL_law_321, XL_law_322, XL_law_322n, XL_law_323, XL_law_324, XL_law_325, XL_law_326, XL_law_327, XL_law_327n, XL_law_328, XL_law_329, XL_law_330, XL_law_331, XL_law_332, XL_law_332n, XL_law_333, XL_law_334, XL_law_335, XL_law_336, XL_law_337, XL_law_337n, XL_law_338, XL_law_339, XL_law_340, XL_law_341, XL_law_342 e1 o8, XL_law_345, XL_law_345n, XL_law_346, XL_law_346n, XL_law_347, XL_law_348, XL_law_349, XL_law_350, XL_law_351, XL_law_351n, XL_law_352, XL_law_353, XL_law_354, XL_law_355, XL_law_356, XL_law_356n, XL_law_357, XL_law_358, XL_law_359, XL_law_360, XL_law_361, XL_law_361n, XL_law_362, XL_law_363, XL_law_364, XL_law_365, XL_law_366, XL_law_366n, XL_law_367, XL_law_368, XL_law_369, XL_law_370, XL_law_371 e2 e4, XL_law_374, iOb_some, iClr_i, iClr_r, iClr_n, iClr_u, iClr_l, rf_s, rf_n, iB_0, iSum_nil, s1, ldS hI.1 (show i + 1 < L by omega) hL, ldS e3 (show i + 1 < L by omega) hL, s2, ldS hI.1 (show i + 2 < L by omega) hL, ldS e3 (show i + 2 < L by omega) hL, s3, ldS hI.1 (show i + 3 < L by omega) hL, ldS e3 (show i + 3 < L by omega) hL, s4, ldS hI.1 (show i + 4 < L by omega) hL, ldS e3 (show i + 4 < L by omega) hL, s5, ldS hI.1 (show i + 5 < L by omega) hL, ldS e3 (show i + 5 < L by omega) hL, eq_self, if_true]
  simp only [XL_law_1465, XL_law_1468, iOb_some, iClr_i, iClr_r, iClr_n, iClr_u, iClr_l, rf_s, rf_n, iB_0, iSum_nil, s6]
  exact next _ h2 e5
theorem lw_case3 (hb : bb < o) (hL : L ≤ 3072) (hi : i + 6 ≤ L) (hI : lwI bb o L xs W k h) (next : ∀ W' h2, lwI bb o L xs W' (k + 1) h2 → iWp 60 mL_law 18 [.ref bb, .ref o, .ref (o + 10), .int (nI (i + 6))] [] h2 Q) : iWp 60 mL_law 379 [.ref bb, .ref o, .ref (o + 10), .int (nI i)] [] h Q := by
  have hW := hI.2.2.2.1
  have o8 := cRep_o hI.2.2.1
  have s1 : nI i + 1 = nI (i + 1) := nI_1 i
  have s2 : nI i + 2 = nI (i + 2) := nI_add i 2
  have s6 : nI i + 6 = nI (i + 6) := nI_add i 6
  have lcz : ∀ y : Int64, lg_cmp y y = 0 := fun y => (lg_cmp_eq y y).mpr rfl
  obtain ⟨h1, h2, e1, e2, e3, e4, e5⟩ := lw_callL hb hI _ (aElement_ok hW) (c8_element hI.2.2.1 hW (xs (i + 1)) (xs (i + 2))) (fun g s hR => m9_element hR hW (xs (i + 1)) (xs (i + 2)))
  simp only [XL_law_379, XL_law_379n, XL_law_380, XL_law_380n, XL_law_381, XL_law_382, XL_law_383, XL_law_384, XL_law_385, XL_law_385n, XL_law_386, XL_law_387, XL_law_388, XL_law_389, XL_law_390 e1 o8, XL_law_393, XL_law_393n, XL_law_394, XL_law_394n, XL_law_395, XL_law_396, XL_law_397, XL_law_398, XL_law_399, XL_law_399n, XL_law_400, XL_law_401, XL_law_402, XL_law_403, XL_law_404 e2 e4, XL_law_407, XL_law_408, iOb_some, iClr_i, iClr_r, iClr_n, iClr_u, iClr_l, rf_s, rf_n, iB_0, iSum_nil, s1, ldS hI.1 (show i + 1 < L by omega) hL, ldS e3 (show i + 1 < L by omega) hL, s2, ldS hI.1 (show i + 2 < L by omega) hL, ldS e3 (show i + 2 < L by omega) hL, eq_self, if_true, lcz]
  simp only [XL_law_1465, XL_law_1468, iOb_some, iClr_i, iClr_r, iClr_n, iClr_u, iClr_l, rf_s, rf_n, iB_0, iSum_nil, s6]
  exact next _ h2 e5
theorem lw_case4 (hb : bb < o) (hL : L ≤ 3072) (hi : i + 6 ≤ L) (hI : lwI bb o L xs W k h) (next : ∀ W' h2, lwI bb o L xs W' (k + 1) h2 → iWp 60 mL_law 18 [.ref bb, .ref o, .ref (o + 10), .int (nI (i + 6))] [] h2 Q) : iWp 60 mL_law 413 [.ref bb, .ref o, .ref (o + 10), .int (nI i)] [] h Q := by
  have hW := hI.2.2.2.1
  have o8 := cRep_o hI.2.2.1
  have s1 : nI i + 1 = nI (i + 1) := nI_1 i
  have s2 : nI i + 2 = nI (i + 2) := nI_add i 2
  have s6 : nI i + 6 = nI (i + 6) := nI_add i 6
  obtain ⟨h1, h2, e1, e2, e3, e4, e5⟩ := lw_call hb hI _ (aShow_ok hW) (c8_show hI.2.2.1 hW (xs (i + 1)) (xs (i + 2))) (fun g s hR => m9_show hR hW (xs (i + 1)) (xs (i + 2)))
  simp only [XL_law_413, XL_law_413n, XL_law_414, XL_law_414n, XL_law_415, XL_law_416, XL_law_417, XL_law_418, XL_law_419, XL_law_419n, XL_law_420, XL_law_421, XL_law_422, XL_law_423, XL_law_424 e1 o8, XL_law_427, XL_law_427n, XL_law_428, XL_law_428n, XL_law_429, XL_law_430, XL_law_431, XL_law_432, XL_law_433, XL_law_433n, XL_law_434, XL_law_435, XL_law_436, XL_law_437, XL_law_438 e2 e4, XL_law_441, iOb_some, iClr_i, iClr_r, iClr_n, iClr_u, iClr_l, rf_s, rf_n, iB_0, iSum_nil, s1, ldS hI.1 (show i + 1 < L by omega) hL, ldS e3 (show i + 1 < L by omega) hL, s2, ldS hI.1 (show i + 2 < L by omega) hL, ldS e3 (show i + 2 < L by omega) hL, eq_self, if_true]
  simp only [XL_law_1465, XL_law_1468, iOb_some, iClr_i, iClr_r, iClr_n, iClr_u, iClr_l, rf_s, rf_n, iB_0, iSum_nil, s6]
  exact next _ h2 e5
theorem lw_case5 (hb : bb < o) (hL : L ≤ 3072) (hi : i + 6 ≤ L) (hI : lwI bb o L xs W k h) (next : ∀ W' h2, lwI bb o L xs W' (k + 1) h2 → iWp 60 mL_law 18 [.ref bb, .ref o, .ref (o + 10), .int (nI (i + 6))] [] h2 Q) : iWp 60 mL_law 446 [.ref bb, .ref o, .ref (o + 10), .int (nI i)] [] h Q := by
  have hW := hI.2.2.2.1
  have o8 := cRep_o hI.2.2.1
  have s1 : nI i + 1 = nI (i + 1) := nI_1 i
  have s6 : nI i + 6 = nI (i + 6) := nI_add i 6
  obtain ⟨h1, h2, e1, e2, e3, e4, e5⟩ := lw_call hb hI _ (aHolds_ok hW) (c8_holds hI.2.2.1 hW (xs (i + 1))) (fun g s hR => m9_holds hR hW (xs (i + 1)))
  simp only [XL_law_446, XL_law_446n, XL_law_447, XL_law_447n, XL_law_448, XL_law_449, XL_law_450, XL_law_451, XL_law_452 e1 o8, XL_law_455, XL_law_455n, XL_law_456, XL_law_456n, XL_law_457, XL_law_458, XL_law_459, XL_law_460, XL_law_461 e2 e4, XL_law_464, iOb_some, iClr_i, iClr_r, iClr_n, iClr_u, iClr_l, rf_s, rf_n, iB_0, iSum_nil, s1, ldS hI.1 (show i + 1 < L by omega) hL, ldS e3 (show i + 1 < L by omega) hL, eq_self, if_true]
  simp only [XL_law_1465, XL_law_1468, iOb_some, iClr_i, iClr_r, iClr_n, iClr_u, iClr_l, rf_s, rf_n, iB_0, iSum_nil, s6]
  exact next _ h2 e5
theorem lw_case6 (hb : bb < o) (hL : L ≤ 3072) (hi : i + 6 ≤ L) (hI : lwI bb o L xs W k h) (next : ∀ W' h2, lwI bb o L xs W' (k + 1) h2 → iWp 60 mL_law 18 [.ref bb, .ref o, .ref (o + 10), .int (nI (i + 6))] [] h2 Q) : iWp 60 mL_law 469 [.ref bb, .ref o, .ref (o + 10), .int (nI i)] [] h Q := by
  have hW := hI.2.2.2.1
  have o8 := cRep_o hI.2.2.1
  have s1 : nI i + 1 = nI (i + 1) := nI_1 i
  have s2 : nI i + 2 = nI (i + 2) := nI_add i 2
  have s6 : nI i + 6 = nI (i + 6) := nI_add i 6
  obtain ⟨h1, h2, e1, e2, e3, e4, e5⟩ := lw_call hb hI _ (aSays_ok hW) (c8_says hI.2.2.1 hW (xs (i + 1)) (xs (i + 2))) (fun g s hR => m9_says hR hW (xs (i + 1)) (xs (i + 2)))
  simp only [XL_law_469, XL_law_469n, XL_law_470, XL_law_470n, XL_law_471, XL_law_472, XL_law_473, XL_law_474, XL_law_475, XL_law_475n, XL_law_476, XL_law_477, XL_law_478, XL_law_479, XL_law_480 e1 o8, XL_law_483, XL_law_483n, XL_law_484, XL_law_484n, XL_law_485, XL_law_486, XL_law_487, XL_law_488, XL_law_489, XL_law_489n, XL_law_490, XL_law_491, XL_law_492, XL_law_493, XL_law_494 e2 e4, XL_law_497, iOb_some, iClr_i, iClr_r, iClr_n, iClr_u, iClr_l, rf_s, rf_n, iB_0, iSum_nil, s1, ldS hI.1 (show i + 1 < L by omega) hL, ldS e3 (show i + 1 < L by omega) hL, s2, ldS hI.1 (show i + 2 < L by omega) hL, ldS e3 (show i + 2 < L by omega) hL, eq_self, if_true]
  simp only [XL_law_1465, XL_law_1468, iOb_some, iClr_i, iClr_r, iClr_n, iClr_u, iClr_l, rf_s, rf_n, iB_0, iSum_nil, s6]
  exact next _ h2 e5
theorem lw_case7 (hb : bb < o) (hL : L ≤ 3072) (hi : i + 6 ≤ L) (hI : lwI bb o L xs W k h) (next : ∀ W' h2, lwI bb o L xs W' (k + 1) h2 → iWp 60 mL_law 18 [.ref bb, .ref o, .ref (o + 10), .int (nI (i + 6))] [] h2 Q) : iWp 60 mL_law 502 [.ref bb, .ref o, .ref (o + 10), .int (nI i)] [] h Q := by
  have hW := hI.2.2.2.1
  have o8 := cRep_o hI.2.2.1
  have s1 : nI i + 1 = nI (i + 1) := nI_1 i
  have s6 : nI i + 6 = nI (i + 6) := nI_add i 6
  obtain ⟨h1, h2, e1, e2, e3, e4, e5⟩ := lw_call hb hI _ (aTree_ok hW) (c8_doTree hI.2.2.1 hW (xs (i + 1))) (fun g s hR => m9_tree hR hW (xs (i + 1)))
  simp only [XL_law_502, XL_law_502n, XL_law_503, XL_law_503n, XL_law_504, XL_law_505, XL_law_506, XL_law_507, XL_law_508 e1 o8, XL_law_511, XL_law_511n, XL_law_512, XL_law_512n, XL_law_513, XL_law_514, XL_law_515, XL_law_516, XL_law_517 e2 e4, XL_law_520, iOb_some, iClr_i, iClr_r, iClr_n, iClr_u, iClr_l, rf_s, rf_n, iB_0, iSum_nil, s1, ldS hI.1 (show i + 1 < L by omega) hL, ldS e3 (show i + 1 < L by omega) hL, eq_self, if_true]
  simp only [XL_law_1465, XL_law_1468, iOb_some, iClr_i, iClr_r, iClr_n, iClr_u, iClr_l, rf_s, rf_n, iB_0, iSum_nil, s6]
  exact next _ h2 e5
theorem lw_case8 (hb : bb < o) (hL : L ≤ 3072) (hi : i + 6 ≤ L) (hI : lwI bb o L xs W k h) (next : ∀ W' h2, lwI bb o L xs W' (k + 1) h2 → iWp 60 mL_law 18 [.ref bb, .ref o, .ref (o + 10), .int (nI (i + 6))] [] h2 Q) : iWp 60 mL_law 525 [.ref bb, .ref o, .ref (o + 10), .int (nI i)] [] h Q := by
  have hW := hI.2.2.2.1
  have o8 := cRep_o hI.2.2.1
  have s6 : nI i + 6 = nI (i + 6) := nI_add i 6
  obtain ⟨h1, h2, e1, e2, e3, e4, e5⟩ := lw_call hb hI _ (aFault_ok hW) (c8_fault hI.2.2.1) (fun g s hR => m9_fault hR)
  simp only [XL_law_525, XL_law_525n, XL_law_526 e1 o8, XL_law_529, XL_law_529n, XL_law_530 e2 e4, XL_law_533, iOb_some, iClr_i, iClr_r, iClr_n, iClr_u, iClr_l, rf_s, rf_n, iB_0, iSum_nil, eq_self, if_true]
  simp only [XL_law_1465, XL_law_1468, iOb_some, iClr_i, iClr_r, iClr_n, iClr_u, iClr_l, rf_s, rf_n, iB_0, iSum_nil, s6]
  exact next _ h2 e5
theorem lw_case9 (hb : bb < o) (hL : L ≤ 3072) (hi : i + 6 ≤ L) (hI : lwI bb o L xs W k h) (next : ∀ W' h2, lwI bb o L xs W' (k + 1) h2 → iWp 60 mL_law 18 [.ref bb, .ref o, .ref (o + 10), .int (nI (i + 6))] [] h2 Q) : iWp 60 mL_law 538 [.ref bb, .ref o, .ref (o + 10), .int (nI i)] [] h Q := by
  have hW := hI.2.2.2.1
  have o8 := cRep_o hI.2.2.1
  have s1 : nI i + 1 = nI (i + 1) := nI_1 i
  have s6 : nI i + 6 = nI (i + 6) := nI_add i 6
  obtain ⟨h1, h2, e1, e2, e3, e4, e5⟩ := lw_call hb hI _ (aNodes_ok hW) (c8_nodes hI.2.2.1 hW (xs (i + 1))) (fun g s hR => m9_nodes hR hW (xs (i + 1)))
  simp only [XL_law_538, XL_law_538n, XL_law_539, XL_law_539n, XL_law_540, XL_law_541, XL_law_542, XL_law_543, XL_law_544 e1 o8, XL_law_547, XL_law_547n, XL_law_548, XL_law_548n, XL_law_549, XL_law_550, XL_law_551, XL_law_552, XL_law_553 e2 e4, XL_law_556, iOb_some, iClr_i, iClr_r, iClr_n, iClr_u, iClr_l, rf_s, rf_n, iB_0, iSum_nil, s1, ldS hI.1 (show i + 1 < L by omega) hL, ldS e3 (show i + 1 < L by omega) hL, eq_self, if_true]
  simp only [XL_law_1465, XL_law_1468, iOb_some, iClr_i, iClr_r, iClr_n, iClr_u, iClr_l, rf_s, rf_n, iB_0, iSum_nil, s6]
  exact next _ h2 e5
theorem lw_case10 (hb : bb < o) (hL : L ≤ 3072) (hi : i + 6 ≤ L) (hI : lwI bb o L xs W k h) (next : ∀ W' h2, lwI bb o L xs W' (k + 1) h2 → iWp 60 mL_law 18 [.ref bb, .ref o, .ref (o + 10), .int (nI (i + 6))] [] h2 Q) : iWp 60 mL_law 561 [.ref bb, .ref o, .ref (o + 10), .int (nI i)] [] h Q := by
  have hW := hI.2.2.2.1
  have o8 := cRep_o hI.2.2.1
  have s1 : nI i + 1 = nI (i + 1) := nI_1 i
  have s2 : nI i + 2 = nI (i + 2) := nI_add i 2
  have s3 : nI i + 3 = nI (i + 3) := nI_add i 3
  have s6 : nI i + 6 = nI (i + 6) := nI_add i 6
  obtain ⟨h1, h2, e1, e2, e3, e4, e5⟩ := lw_call hb hI _ (aNode_ok hW) (c8_node hI.2.2.1 hW (xs (i + 1)) (xs (i + 2)) (xs (i + 3))) (fun g s hR => m9_node hR hW (xs (i + 1)) (xs (i + 2)) (xs (i + 3)))
  simp only [XL_law_561, XL_law_561n, XL_law_562, XL_law_562n, XL_law_563, XL_law_564, XL_law_565, XL_law_566, XL_law_567, XL_law_567n, XL_law_568, XL_law_569, XL_law_570, XL_law_571, XL_law_572, XL_law_572n, XL_law_573, XL_law_574, XL_law_575, XL_law_576, XL_law_577 e1 o8, XL_law_580, XL_law_580n, XL_law_581, XL_law_581n, XL_law_582, XL_law_583, XL_law_584, XL_law_585, XL_law_586, XL_law_586n, XL_law_587, XL_law_588, XL_law_589, XL_law_590, XL_law_591, XL_law_591n, XL_law_592, XL_law_593, XL_law_594, XL_law_595, XL_law_596 e2 e4, XL_law_599, iOb_some, iClr_i, iClr_r, iClr_n, iClr_u, iClr_l, rf_s, rf_n, iB_0, iSum_nil, s1, ldS hI.1 (show i + 1 < L by omega) hL, ldS e3 (show i + 1 < L by omega) hL, s2, ldS hI.1 (show i + 2 < L by omega) hL, ldS e3 (show i + 2 < L by omega) hL, s3, ldS hI.1 (show i + 3 < L by omega) hL, ldS e3 (show i + 3 < L by omega) hL, eq_self, if_true]
  simp only [XL_law_1465, XL_law_1468, iOb_some, iClr_i, iClr_r, iClr_n, iClr_u, iClr_l, rf_s, rf_n, iB_0, iSum_nil, s6]
  exact next _ h2 e5
theorem lw_case11 (hb : bb < o) (hL : L ≤ 3072) (hi : i + 6 ≤ L) (hI : lwI bb o L xs W k h) (next : ∀ W' h2, lwI bb o L xs W' (k + 1) h2 → iWp 60 mL_law 18 [.ref bb, .ref o, .ref (o + 10), .int (nI (i + 6))] [] h2 Q) : iWp 60 mL_law 604 [.ref bb, .ref o, .ref (o + 10), .int (nI i)] [] h Q := by
  have hW := hI.2.2.2.1
  have o8 := cRep_o hI.2.2.1
  have s1 : nI i + 1 = nI (i + 1) := nI_1 i
  have s2 : nI i + 2 = nI (i + 2) := nI_add i 2
  have s6 : nI i + 6 = nI (i + 6) := nI_add i 6
  obtain ⟨h1, h2, e1, e2, e3, e4, e5⟩ := lw_call hb hI _ (aFind_ok hW) (c8_find hI.2.2.1 hW (xs (i + 1)) (xs (i + 2))) (fun g s hR => m9_find hR hW (xs (i + 1)) (xs (i + 2)))
  simp only [XL_law_604, XL_law_604n, XL_law_605, XL_law_605n, XL_law_606, XL_law_607, XL_law_608, XL_law_609, XL_law_610, XL_law_610n, XL_law_611, XL_law_612, XL_law_613, XL_law_614, XL_law_615 e1 o8, XL_law_618, XL_law_618n, XL_law_619, XL_law_619n, XL_law_620, XL_law_621, XL_law_622, XL_law_623, XL_law_624, XL_law_624n, XL_law_625, XL_law_626, XL_law_627, XL_law_628, XL_law_629 e2 e4, XL_law_632, iOb_some, iClr_i, iClr_r, iClr_n, iClr_u, iClr_l, rf_s, rf_n, iB_0, iSum_nil, s1, ldS hI.1 (show i + 1 < L by omega) hL, ldS e3 (show i + 1 < L by omega) hL, s2, ldS hI.1 (show i + 2 < L by omega) hL, ldS e3 (show i + 2 < L by omega) hL, eq_self, if_true]
  simp only [XL_law_1465, XL_law_1468, iOb_some, iClr_i, iClr_r, iClr_n, iClr_u, iClr_l, rf_s, rf_n, iB_0, iSum_nil, s6]
  exact next _ h2 e5
theorem lw_case12 (hb : bb < o) (hL : L ≤ 3072) (hi : i + 6 ≤ L) (hI : lwI bb o L xs W k h) (next : ∀ W' h2, lwI bb o L xs W' (k + 1) h2 → iWp 60 mL_law 18 [.ref bb, .ref o, .ref (o + 10), .int (nI (i + 6))] [] h2 Q) : iWp 60 mL_law 637 [.ref bb, .ref o, .ref (o + 10), .int (nI i)] [] h Q := by
  have hW := hI.2.2.2.1
  have o8 := cRep_o hI.2.2.1
  have s1 : nI i + 1 = nI (i + 1) := nI_1 i
  have s2 : nI i + 2 = nI (i + 2) := nI_add i 2
  have s3 : nI i + 3 = nI (i + 3) := nI_add i 3
  have s6 : nI i + 6 = nI (i + 6) := nI_add i 6
  obtain ⟨h1, h2, e1, e2, e3, e4, e5⟩ := lw_call hb hI _ (aChild_ok hW) (c8_child hI.2.2.1 hW (xs (i + 1)) (xs (i + 2)) (xs (i + 3))) (fun g s hR => m9_child hR hW (xs (i + 1)) (xs (i + 2)) (xs (i + 3)))
  simp only [XL_law_637, XL_law_637n, XL_law_638, XL_law_638n, XL_law_639, XL_law_640, XL_law_641, XL_law_642, XL_law_643, XL_law_643n, XL_law_644, XL_law_645, XL_law_646, XL_law_647, XL_law_648, XL_law_648n, XL_law_649, XL_law_650, XL_law_651, XL_law_652, XL_law_653 e1 o8, XL_law_656, XL_law_656n, XL_law_657, XL_law_657n, XL_law_658, XL_law_659, XL_law_660, XL_law_661, XL_law_662, XL_law_662n, XL_law_663, XL_law_664, XL_law_665, XL_law_666, XL_law_667, XL_law_667n, XL_law_668, XL_law_669, XL_law_670, XL_law_671, XL_law_672 e2 e4, XL_law_675, iOb_some, iClr_i, iClr_r, iClr_n, iClr_u, iClr_l, rf_s, rf_n, iB_0, iSum_nil, s1, ldS hI.1 (show i + 1 < L by omega) hL, ldS e3 (show i + 1 < L by omega) hL, s2, ldS hI.1 (show i + 2 < L by omega) hL, ldS e3 (show i + 2 < L by omega) hL, s3, ldS hI.1 (show i + 3 < L by omega) hL, ldS e3 (show i + 3 < L by omega) hL, eq_self, if_true]
  simp only [XL_law_1465, XL_law_1468, iOb_some, iClr_i, iClr_r, iClr_n, iClr_u, iClr_l, rf_s, rf_n, iB_0, iSum_nil, s6]
  exact next _ h2 e5
theorem lw_case13 (hb : bb < o) (hL : L ≤ 3072) (hi : i + 6 ≤ L) (hI : lwI bb o L xs W k h) (next : ∀ W' h2, lwI bb o L xs W' (k + 1) h2 → iWp 60 mL_law 18 [.ref bb, .ref o, .ref (o + 10), .int (nI (i + 6))] [] h2 Q) : iWp 60 mL_law 680 [.ref bb, .ref o, .ref (o + 10), .int (nI i)] [] h Q := by
  have hW := hI.2.2.2.1
  have o8 := cRep_o hI.2.2.1
  have s1 : nI i + 1 = nI (i + 1) := nI_1 i
  have s2 : nI i + 2 = nI (i + 2) := nI_add i 2
  have s3 : nI i + 3 = nI (i + 3) := nI_add i 3
  have s6 : nI i + 6 = nI (i + 6) := nI_add i 6
  obtain ⟨h1, h2, e1, e2, e3, e4, e5⟩ := lw_call hb hI _ (aAbove_ok hW) (c8_above hI.2.2.1 hW (xs (i + 1)) (xs (i + 2)) (xs (i + 3))) (fun g s hR => m9_above hR hW (xs (i + 1)) (xs (i + 2)) (xs (i + 3)))
  simp only [XL_law_680, XL_law_680n, XL_law_681, XL_law_681n, XL_law_682, XL_law_683, XL_law_684, XL_law_685, XL_law_686, XL_law_686n, XL_law_687, XL_law_688, XL_law_689, XL_law_690, XL_law_691, XL_law_691n, XL_law_692, XL_law_693, XL_law_694, XL_law_695, XL_law_696 e1 o8, XL_law_699, XL_law_699n, XL_law_700, XL_law_700n, XL_law_701, XL_law_702, XL_law_703, XL_law_704, XL_law_705, XL_law_705n, XL_law_706, XL_law_707, XL_law_708, XL_law_709, XL_law_710, XL_law_710n, XL_law_711, XL_law_712, XL_law_713, XL_law_714, XL_law_715 e2 e4, XL_law_718, iOb_some, iClr_i, iClr_r, iClr_n, iClr_u, iClr_l, rf_s, rf_n, iB_0, iSum_nil, s1, ldS hI.1 (show i + 1 < L by omega) hL, ldS e3 (show i + 1 < L by omega) hL, s2, ldS hI.1 (show i + 2 < L by omega) hL, ldS e3 (show i + 2 < L by omega) hL, s3, ldS hI.1 (show i + 3 < L by omega) hL, ldS e3 (show i + 3 < L by omega) hL, eq_self, if_true]
  simp only [XL_law_1465, XL_law_1468, iOb_some, iClr_i, iClr_r, iClr_n, iClr_u, iClr_l, rf_s, rf_n, iB_0, iSum_nil, s6]
  exact next _ h2 e5
theorem lw_case14 (hb : bb < o) (hL : L ≤ 3072) (hi : i + 6 ≤ L) (hI : lwI bb o L xs W k h) (next : ∀ W' h2, lwI bb o L xs W' (k + 1) h2 → iWp 60 mL_law 18 [.ref bb, .ref o, .ref (o + 10), .int (nI (i + 6))] [] h2 Q) : iWp 60 mL_law 723 [.ref bb, .ref o, .ref (o + 10), .int (nI i)] [] h Q := by
  have hW := hI.2.2.2.1
  have o8 := cRep_o hI.2.2.1
  have s1 : nI i + 1 = nI (i + 1) := nI_1 i
  have s2 : nI i + 2 = nI (i + 2) := nI_add i 2
  have s6 : nI i + 6 = nI (i + 6) := nI_add i 6
  obtain ⟨h1, h2, e1, e2, e3, e4, e5⟩ := lw_call hb hI _ (aSame_ok hW) (c8_same_ hI.2.2.1 hW (xs (i + 1)) (xs (i + 2))) (fun g s hR => m9_same_ hR hW (xs (i + 1)) (xs (i + 2)))
  simp only [XL_law_723, XL_law_723n, XL_law_724, XL_law_724n, XL_law_725, XL_law_726, XL_law_727, XL_law_728, XL_law_729, XL_law_729n, XL_law_730, XL_law_731, XL_law_732, XL_law_733, XL_law_734 e1 o8, XL_law_737, XL_law_737n, XL_law_738, XL_law_738n, XL_law_739, XL_law_740, XL_law_741, XL_law_742, XL_law_743, XL_law_743n, XL_law_744, XL_law_745, XL_law_746, XL_law_747, XL_law_748 e2 e4, XL_law_751, iOb_some, iClr_i, iClr_r, iClr_n, iClr_u, iClr_l, rf_s, rf_n, iB_0, iSum_nil, s1, ldS hI.1 (show i + 1 < L by omega) hL, ldS e3 (show i + 1 < L by omega) hL, s2, ldS hI.1 (show i + 2 < L by omega) hL, ldS e3 (show i + 2 < L by omega) hL, eq_self, if_true]
  simp only [XL_law_1465, XL_law_1468, iOb_some, iClr_i, iClr_r, iClr_n, iClr_u, iClr_l, rf_s, rf_n, iB_0, iSum_nil, s6]
  exact next _ h2 e5
theorem lw_case15 (hb : bb < o) (hL : L ≤ 3072) (hi : i + 6 ≤ L) (hI : lwI bb o L xs W k h) (next : ∀ W' h2, lwI bb o L xs W' (k + 1) h2 → iWp 60 mL_law 18 [.ref bb, .ref o, .ref (o + 10), .int (nI (i + 6))] [] h2 Q) : iWp 60 mL_law 756 [.ref bb, .ref o, .ref (o + 10), .int (nI i)] [] h Q := by
  have hW := hI.2.2.2.1
  have o8 := cRep_o hI.2.2.1
  have s1 : nI i + 1 = nI (i + 1) := nI_1 i
  have s6 : nI i + 6 = nI (i + 6) := nI_add i 6
  obtain ⟨h1, h2, e1, e2, e3, e4, e5⟩ := lw_call hb hI _ (aDrop_ok hW) (c8_drop hI.2.2.1 hW (xs (i + 1))) (fun g s hR => m9_drop hR hW (xs (i + 1)))
  simp only [XL_law_756, XL_law_756n, XL_law_757, XL_law_757n, XL_law_758, XL_law_759, XL_law_760, XL_law_761, XL_law_762 e1 o8, XL_law_765, XL_law_765n, XL_law_766, XL_law_766n, XL_law_767, XL_law_768, XL_law_769, XL_law_770, XL_law_771 e2 e4, XL_law_774, iOb_some, iClr_i, iClr_r, iClr_n, iClr_u, iClr_l, rf_s, rf_n, iB_0, iSum_nil, s1, ldS hI.1 (show i + 1 < L by omega) hL, ldS e3 (show i + 1 < L by omega) hL, eq_self, if_true]
  simp only [XL_law_1465, XL_law_1468, iOb_some, iClr_i, iClr_r, iClr_n, iClr_u, iClr_l, rf_s, rf_n, iB_0, iSum_nil, s6]
  exact next _ h2 e5
theorem lw_case16 (hb : bb < o) (hL : L ≤ 3072) (hi : i + 6 ≤ L) (hI : lwI bb o L xs W k h) (next : ∀ W' h2, lwI bb o L xs W' (k + 1) h2 → iWp 60 mL_law 18 [.ref bb, .ref o, .ref (o + 10), .int (nI (i + 6))] [] h2 Q) : iWp 60 mL_law 779 [.ref bb, .ref o, .ref (o + 10), .int (nI i)] [] h Q := by
  have hW := hI.2.2.2.1
  have o8 := cRep_o hI.2.2.1
  have s1 : nI i + 1 = nI (i + 1) := nI_1 i
  have s2 : nI i + 2 = nI (i + 2) := nI_add i 2
  have s6 : nI i + 6 = nI (i + 6) := nI_add i 6
  obtain ⟨h1, h2, e1, e2, e3, e4, e5⟩ := lw_call hb hI _ (aDiff_ok hW) (c8_diff hI.2.2.1 hW (xs (i + 1)) (xs (i + 2))) (fun g s hR => m9_diff hR hW (xs (i + 1)) (xs (i + 2)))
  simp only [XL_law_779, XL_law_779n, XL_law_780, XL_law_780n, XL_law_781, XL_law_782, XL_law_783, XL_law_784, XL_law_785, XL_law_785n, XL_law_786, XL_law_787, XL_law_788, XL_law_789, XL_law_790 e1 o8, XL_law_793, XL_law_793n, XL_law_794, XL_law_794n, XL_law_795, XL_law_796, XL_law_797, XL_law_798, XL_law_799, XL_law_799n, XL_law_800, XL_law_801, XL_law_802, XL_law_803, XL_law_804 e2 e4, XL_law_807, iOb_some, iClr_i, iClr_r, iClr_n, iClr_u, iClr_l, rf_s, rf_n, iB_0, iSum_nil, s1, ldS hI.1 (show i + 1 < L by omega) hL, ldS e3 (show i + 1 < L by omega) hL, s2, ldS hI.1 (show i + 2 < L by omega) hL, ldS e3 (show i + 2 < L by omega) hL, eq_self, if_true]
  simp only [XL_law_1465, XL_law_1468, iOb_some, iClr_i, iClr_r, iClr_n, iClr_u, iClr_l, rf_s, rf_n, iB_0, iSum_nil, s6]
  exact next _ h2 e5
theorem lw_case17 (hb : bb < o) (hL : L ≤ 3072) (hi : i + 6 ≤ L) (hI : lwI bb o L xs W k h) (next : ∀ W' h2, lwI bb o L xs W' (k + 1) h2 → iWp 60 mL_law 18 [.ref bb, .ref o, .ref (o + 10), .int (nI (i + 6))] [] h2 Q) : iWp 60 mL_law 812 [.ref bb, .ref o, .ref (o + 10), .int (nI i)] [] h Q := by
  have hW := hI.2.2.2.1
  have o8 := cRep_o hI.2.2.1
  have s1 : nI i + 1 = nI (i + 1) := nI_1 i
  have s2 : nI i + 2 = nI (i + 2) := nI_add i 2
  have s6 : nI i + 6 = nI (i + 6) := nI_add i 6
  obtain ⟨h1, h2, e1, e2, e3, e4, e5⟩ := lw_call hb hI _ (aFar_ok hW) (c8_far hI.2.2.1 hW (xs (i + 1)) (xs (i + 2))) (fun g s hR => m9_far hR hW (xs (i + 1)) (xs (i + 2)))
  simp only [XL_law_812, XL_law_812n, XL_law_813, XL_law_813n, XL_law_814, XL_law_815, XL_law_816, XL_law_817, XL_law_818, XL_law_818n, XL_law_819, XL_law_820, XL_law_821, XL_law_822, XL_law_823 e1 o8, XL_law_826, XL_law_826n, XL_law_827, XL_law_827n, XL_law_828, XL_law_829, XL_law_830, XL_law_831, XL_law_832, XL_law_832n, XL_law_833, XL_law_834, XL_law_835, XL_law_836, XL_law_837 e2 e4, XL_law_840, iOb_some, iClr_i, iClr_r, iClr_n, iClr_u, iClr_l, rf_s, rf_n, iB_0, iSum_nil, s1, ldS hI.1 (show i + 1 < L by omega) hL, ldS e3 (show i + 1 < L by omega) hL, s2, ldS hI.1 (show i + 2 < L by omega) hL, ldS e3 (show i + 2 < L by omega) hL, eq_self, if_true]
  simp only [XL_law_1465, XL_law_1468, iOb_some, iClr_i, iClr_r, iClr_n, iClr_u, iClr_l, rf_s, rf_n, iB_0, iSum_nil, s6]
  exact next _ h2 e5
theorem lw_case18 (hb : bb < o) (hL : L ≤ 3072) (hi : i + 6 ≤ L) (hI : lwI bb o L xs W k h) (next : ∀ W' h2, lwI bb o L xs W' (k + 1) h2 → iWp 60 mL_law 18 [.ref bb, .ref o, .ref (o + 10), .int (nI (i + 6))] [] h2 Q) : iWp 60 mL_law 845 [.ref bb, .ref o, .ref (o + 10), .int (nI i)] [] h Q := by
  have hW := hI.2.2.2.1
  have o8 := cRep_o hI.2.2.1
  have s1 : nI i + 1 = nI (i + 1) := nI_1 i
  have s2 : nI i + 2 = nI (i + 2) := nI_add i 2
  have s6 : nI i + 6 = nI (i + 6) := nI_add i 6
  obtain ⟨h1, h2, e1, e2, e3, e4, e5⟩ := lw_call hb hI _ (aMoves_ok hW) (c8_moves hI.2.2.1 hW (xs (i + 1)) (xs (i + 2))) (fun g s hR => m9_moves hR hW (xs (i + 1)) (xs (i + 2)))
  simp only [XL_law_845, XL_law_845n, XL_law_846, XL_law_846n, XL_law_847, XL_law_848, XL_law_849, XL_law_850, XL_law_851, XL_law_851n, XL_law_852, XL_law_853, XL_law_854, XL_law_855, XL_law_856 e1 o8, XL_law_859, XL_law_859n, XL_law_860, XL_law_860n, XL_law_861, XL_law_862, XL_law_863, XL_law_864, XL_law_865, XL_law_865n, XL_law_866, XL_law_867, XL_law_868, XL_law_869, XL_law_870 e2 e4, XL_law_873, iOb_some, iClr_i, iClr_r, iClr_n, iClr_u, iClr_l, rf_s, rf_n, iB_0, iSum_nil, s1, ldS hI.1 (show i + 1 < L by omega) hL, ldS e3 (show i + 1 < L by omega) hL, s2, ldS hI.1 (show i + 2 < L by omega) hL, ldS e3 (show i + 2 < L by omega) hL, eq_self, if_true]
  simp only [XL_law_1465, XL_law_1468, iOb_some, iClr_i, iClr_r, iClr_n, iClr_u, iClr_l, rf_s, rf_n, iB_0, iSum_nil, s6]
  exact next _ h2 e5
theorem lw_case19 (hb : bb < o) (hL : L ≤ 3072) (hi : i + 6 ≤ L) (hI : lwI bb o L xs W k h) (next : ∀ W' h2, lwI bb o L xs W' (k + 1) h2 → iWp 60 mL_law 18 [.ref bb, .ref o, .ref (o + 10), .int (nI (i + 6))] [] h2 Q) : iWp 60 mL_law 878 [.ref bb, .ref o, .ref (o + 10), .int (nI i)] [] h Q := by
  have hW := hI.2.2.2.1
  have o8 := cRep_o hI.2.2.1
  have s1 : nI i + 1 = nI (i + 1) := nI_1 i
  have s2 : nI i + 2 = nI (i + 2) := nI_add i 2
  have s6 : nI i + 6 = nI (i + 6) := nI_add i 6
  obtain ⟨h1, h2, e1, e2, e3, e4, e5⟩ := lw_call hb hI _ (aPatchOf_ok hW) (c8_patchOf hI.2.2.1 hW (xs (i + 1)) (xs (i + 2))) (fun g s hR => m9_patchOf hR hW (xs (i + 1)) (xs (i + 2)))
  simp only [XL_law_878, XL_law_878n, XL_law_879, XL_law_879n, XL_law_880, XL_law_881, XL_law_882, XL_law_883, XL_law_884, XL_law_884n, XL_law_885, XL_law_886, XL_law_887, XL_law_888, XL_law_889 e1 o8, XL_law_892, XL_law_892n, XL_law_893, XL_law_893n, XL_law_894, XL_law_895, XL_law_896, XL_law_897, XL_law_898, XL_law_898n, XL_law_899, XL_law_900, XL_law_901, XL_law_902, XL_law_903 e2 e4, XL_law_906, iOb_some, iClr_i, iClr_r, iClr_n, iClr_u, iClr_l, rf_s, rf_n, iB_0, iSum_nil, s1, ldS hI.1 (show i + 1 < L by omega) hL, ldS e3 (show i + 1 < L by omega) hL, s2, ldS hI.1 (show i + 2 < L by omega) hL, ldS e3 (show i + 2 < L by omega) hL, eq_self, if_true]
  simp only [XL_law_1465, XL_law_1468, iOb_some, iClr_i, iClr_r, iClr_n, iClr_u, iClr_l, rf_s, rf_n, iB_0, iSum_nil, s6]
  exact next _ h2 e5
theorem lw_case20 (hb : bb < o) (hL : L ≤ 3072) (hi : i + 6 ≤ L) (hI : lwI bb o L xs W k h) (next : ∀ W' h2, lwI bb o L xs W' (k + 1) h2 → iWp 60 mL_law 18 [.ref bb, .ref o, .ref (o + 10), .int (nI (i + 6))] [] h2 Q) : iWp 60 mL_law 911 [.ref bb, .ref o, .ref (o + 10), .int (nI i)] [] h Q := by
  have hW := hI.2.2.2.1
  have o8 := cRep_o hI.2.2.1
  have s1 : nI i + 1 = nI (i + 1) := nI_1 i
  have s2 : nI i + 2 = nI (i + 2) := nI_add i 2
  have s3 : nI i + 3 = nI (i + 3) := nI_add i 3
  have s6 : nI i + 6 = nI (i + 6) := nI_add i 6
  obtain ⟨h1, h2, e1, e2, e3, e4, e5⟩ := lw_call hb hI _ (aEdit_ok hW) (c8_edit hI.2.2.1 hW (xs (i + 1)) (xs (i + 2)) (xs (i + 3))) (fun g s hR => m9_edit hR hW (xs (i + 1)) (xs (i + 2)) (xs (i + 3)))
  simp only [XL_law_911, XL_law_911n, XL_law_912, XL_law_912n, XL_law_913, XL_law_914, XL_law_915, XL_law_916, XL_law_917, XL_law_917n, XL_law_918, XL_law_919, XL_law_920, XL_law_921, XL_law_922, XL_law_922n, XL_law_923, XL_law_924, XL_law_925, XL_law_926, XL_law_927 e1 o8, XL_law_930, XL_law_930n, XL_law_931, XL_law_931n, XL_law_932, XL_law_933, XL_law_934, XL_law_935, XL_law_936, XL_law_936n, XL_law_937, XL_law_938, XL_law_939, XL_law_940, XL_law_941, XL_law_941n, XL_law_942, XL_law_943, XL_law_944, XL_law_945, XL_law_946 e2 e4, XL_law_949, iOb_some, iClr_i, iClr_r, iClr_n, iClr_u, iClr_l, rf_s, rf_n, iB_0, iSum_nil, s1, ldS hI.1 (show i + 1 < L by omega) hL, ldS e3 (show i + 1 < L by omega) hL, s2, ldS hI.1 (show i + 2 < L by omega) hL, ldS e3 (show i + 2 < L by omega) hL, s3, ldS hI.1 (show i + 3 < L by omega) hL, ldS e3 (show i + 3 < L by omega) hL, eq_self, if_true]
  simp only [XL_law_1465, XL_law_1468, iOb_some, iClr_i, iClr_r, iClr_n, iClr_u, iClr_l, rf_s, rf_n, iB_0, iSum_nil, s6]
  exact next _ h2 e5
theorem lw_case21 (hb : bb < o) (hL : L ≤ 3072) (hi : i + 6 ≤ L) (hI : lwI bb o L xs W k h) (next : ∀ W' h2, lwI bb o L xs W' (k + 1) h2 → iWp 60 mL_law 18 [.ref bb, .ref o, .ref (o + 10), .int (nI (i + 6))] [] h2 Q) : iWp 60 mL_law 954 [.ref bb, .ref o, .ref (o + 10), .int (nI i)] [] h Q := by
  have hW := hI.2.2.2.1
  have o8 := cRep_o hI.2.2.1
  have s1 : nI i + 1 = nI (i + 1) := nI_1 i
  have s2 : nI i + 2 = nI (i + 2) := nI_add i 2
  have s6 : nI i + 6 = nI (i + 6) := nI_add i 6
  obtain ⟨h1, h2, e1, e2, e3, e4, e5⟩ := lw_call hb hI _ (aTouched_ok hW) (c8_touched hI.2.2.1 hW (xs (i + 1)) (xs (i + 2))) (fun g s hR => m9_touched hR hW (xs (i + 1)) (xs (i + 2)))
  simp only [XL_law_954, XL_law_954n, XL_law_955, XL_law_955n, XL_law_956, XL_law_957, XL_law_958, XL_law_959, XL_law_960, XL_law_960n, XL_law_961, XL_law_962, XL_law_963, XL_law_964, XL_law_965 e1 o8, XL_law_968, XL_law_968n, XL_law_969, XL_law_969n, XL_law_970, XL_law_971, XL_law_972, XL_law_973, XL_law_974, XL_law_974n, XL_law_975, XL_law_976, XL_law_977, XL_law_978, XL_law_979 e2 e4, XL_law_982, iOb_some, iClr_i, iClr_r, iClr_n, iClr_u, iClr_l, rf_s, rf_n, iB_0, iSum_nil, s1, ldS hI.1 (show i + 1 < L by omega) hL, ldS e3 (show i + 1 < L by omega) hL, s2, ldS hI.1 (show i + 2 < L by omega) hL, ldS e3 (show i + 2 < L by omega) hL, eq_self, if_true]
  simp only [XL_law_1465, XL_law_1468, iOb_some, iClr_i, iClr_r, iClr_n, iClr_u, iClr_l, rf_s, rf_n, iB_0, iSum_nil, s6]
  exact next _ h2 e5
theorem lw_case22 (hb : bb < o) (hL : L ≤ 3072) (hi : i + 6 ≤ L) (hI : lwI bb o L xs W k h) (next : ∀ W' h2, lwI bb o L xs W' (k + 1) h2 → iWp 60 mL_law 18 [.ref bb, .ref o, .ref (o + 10), .int (nI (i + 6))] [] h2 Q) : iWp 60 mL_law 987 [.ref bb, .ref o, .ref (o + 10), .int (nI i)] [] h Q := by
  have hW := hI.2.2.2.1
  have o8 := cRep_o hI.2.2.1
  have s1 : nI i + 1 = nI (i + 1) := nI_1 i
  have s2 : nI i + 2 = nI (i + 2) := nI_add i 2
  have s6 : nI i + 6 = nI (i + 6) := nI_add i 6
  obtain ⟨h1, h2, e1, e2, e3, e4, e5⟩ := lw_call hb hI _ (aApply_ok hW) (c8_apply hI.2.2.1 hW (xs (i + 1)) (xs (i + 2))) (fun g s hR => m9_apply hR hW (xs (i + 1)) (xs (i + 2)))
  simp only [XL_law_987, XL_law_987n, XL_law_988, XL_law_988n, XL_law_989, XL_law_990, XL_law_991, XL_law_992, XL_law_993, XL_law_993n, XL_law_994, XL_law_995, XL_law_996, XL_law_997, XL_law_998 e1 o8, XL_law_1001, XL_law_1001n, XL_law_1002, XL_law_1002n, XL_law_1003, XL_law_1004, XL_law_1005, XL_law_1006, XL_law_1007, XL_law_1007n, XL_law_1008, XL_law_1009, XL_law_1010, XL_law_1011, XL_law_1012 e2 e4, XL_law_1015, iOb_some, iClr_i, iClr_r, iClr_n, iClr_u, iClr_l, rf_s, rf_n, iB_0, iSum_nil, s1, ldS hI.1 (show i + 1 < L by omega) hL, ldS e3 (show i + 1 < L by omega) hL, s2, ldS hI.1 (show i + 2 < L by omega) hL, ldS e3 (show i + 2 < L by omega) hL, eq_self, if_true]
  simp only [XL_law_1465, XL_law_1468, iOb_some, iClr_i, iClr_r, iClr_n, iClr_u, iClr_l, rf_s, rf_n, iB_0, iSum_nil, s6]
  exact next _ h2 e5
theorem lw_case23 (hb : bb < o) (hL : L ≤ 3072) (hi : i + 6 ≤ L) (hI : lwI bb o L xs W k h) (next : ∀ W' h2, lwI bb o L xs W' (k + 1) h2 → iWp 60 mL_law 18 [.ref bb, .ref o, .ref (o + 10), .int (nI (i + 6))] [] h2 Q) : iWp 60 mL_law 1020 [.ref bb, .ref o, .ref (o + 10), .int (nI i)] [] h Q := by
  have hW := hI.2.2.2.1
  have o8 := cRep_o hI.2.2.1
  have s1 : nI i + 1 = nI (i + 1) := nI_1 i
  have s2 : nI i + 2 = nI (i + 2) := nI_add i 2
  have s6 : nI i + 6 = nI (i + 6) := nI_add i 6
  obtain ⟨h1, h2, e1, e2, e3, e4, e5⟩ := lw_call hb hI _ (aSticks_ok hW) (c8_sticks hI.2.2.1 hW (xs (i + 1)) (xs (i + 2))) (fun g s hR => m9_sticks hR hW (xs (i + 1)) (xs (i + 2)))
  simp only [XL_law_1020, XL_law_1020n, XL_law_1021, XL_law_1021n, XL_law_1022, XL_law_1023, XL_law_1024, XL_law_1025, XL_law_1026, XL_law_1026n, XL_law_1027, XL_law_1028, XL_law_1029, XL_law_1030, XL_law_1031 e1 o8, XL_law_1034, XL_law_1034n, XL_law_1035, XL_law_1035n, XL_law_1036, XL_law_1037, XL_law_1038, XL_law_1039, XL_law_1040, XL_law_1040n, XL_law_1041, XL_law_1042, XL_law_1043, XL_law_1044, XL_law_1045 e2 e4, XL_law_1048, iOb_some, iClr_i, iClr_r, iClr_n, iClr_u, iClr_l, rf_s, rf_n, iB_0, iSum_nil, s1, ldS hI.1 (show i + 1 < L by omega) hL, ldS e3 (show i + 1 < L by omega) hL, s2, ldS hI.1 (show i + 2 < L by omega) hL, ldS e3 (show i + 2 < L by omega) hL, eq_self, if_true]
  simp only [XL_law_1465, XL_law_1468, iOb_some, iClr_i, iClr_r, iClr_n, iClr_u, iClr_l, rf_s, rf_n, iB_0, iSum_nil, s6]
  exact next _ h2 e5
theorem lw_case24 (hb : bb < o) (hL : L ≤ 3072) (hi : i + 6 ≤ L) (hI : lwI bb o L xs W k h) (next : ∀ W' h2, lwI bb o L xs W' (k + 1) h2 → iWp 60 mL_law 18 [.ref bb, .ref o, .ref (o + 10), .int (nI (i + 6))] [] h2 Q) : iWp 60 mL_law 1053 [.ref bb, .ref o, .ref (o + 10), .int (nI i)] [] h Q := by
  have hW := hI.2.2.2.1
  have o8 := cRep_o hI.2.2.1
  have s1 : nI i + 1 = nI (i + 1) := nI_1 i
  have s6 : nI i + 6 = nI (i + 6) := nI_add i 6
  obtain ⟨h1, h2, e1, e2, e3, e4, e5⟩ := lw_call hb hI _ (aInvert_ok hW) (c8_invert hI.2.2.1 hW (xs (i + 1))) (fun g s hR => m9_invert hR hW (xs (i + 1)))
  simp only [XL_law_1053, XL_law_1053n, XL_law_1054, XL_law_1054n, XL_law_1055, XL_law_1056, XL_law_1057, XL_law_1058, XL_law_1059 e1 o8, XL_law_1062, XL_law_1062n, XL_law_1063, XL_law_1063n, XL_law_1064, XL_law_1065, XL_law_1066, XL_law_1067, XL_law_1068 e2 e4, XL_law_1071, iOb_some, iClr_i, iClr_r, iClr_n, iClr_u, iClr_l, rf_s, rf_n, iB_0, iSum_nil, s1, ldS hI.1 (show i + 1 < L by omega) hL, ldS e3 (show i + 1 < L by omega) hL, eq_self, if_true]
  simp only [XL_law_1465, XL_law_1468, iOb_some, iClr_i, iClr_r, iClr_n, iClr_u, iClr_l, rf_s, rf_n, iB_0, iSum_nil, s6]
  exact next _ h2 e5
theorem lw_case25 (hb : bb < o) (hL : L ≤ 3072) (hi : i + 6 ≤ L) (hI : lwI bb o L xs W k h) (next : ∀ W' h2, lwI bb o L xs W' (k + 1) h2 → iWp 60 mL_law 18 [.ref bb, .ref o, .ref (o + 10), .int (nI (i + 6))] [] h2 Q) : iWp 60 mL_law 1076 [.ref bb, .ref o, .ref (o + 10), .int (nI i)] [] h Q := by
  have hW := hI.2.2.2.1
  have o8 := cRep_o hI.2.2.1
  have s1 : nI i + 1 = nI (i + 1) := nI_1 i
  have s2 : nI i + 2 = nI (i + 2) := nI_add i 2
  have s6 : nI i + 6 = nI (i + 6) := nI_add i 6
  obtain ⟨h1, h2, e1, e2, e3, e4, e5⟩ := lw_call hb hI _ (aBehind_ok hW) (c8_behind hI.2.2.1 hW (xs (i + 1)) (xs (i + 2))) (fun g s hR => m9_behind hR hW (xs (i + 1)) (xs (i + 2)))
  simp only [XL_law_1076, XL_law_1076n, XL_law_1077, XL_law_1077n, XL_law_1078, XL_law_1079, XL_law_1080, XL_law_1081, XL_law_1082, XL_law_1082n, XL_law_1083, XL_law_1084, XL_law_1085, XL_law_1086, XL_law_1087 e1 o8, XL_law_1090, XL_law_1090n, XL_law_1091, XL_law_1091n, XL_law_1092, XL_law_1093, XL_law_1094, XL_law_1095, XL_law_1096, XL_law_1096n, XL_law_1097, XL_law_1098, XL_law_1099, XL_law_1100, XL_law_1101 e2 e4, XL_law_1104, iOb_some, iClr_i, iClr_r, iClr_n, iClr_u, iClr_l, rf_s, rf_n, iB_0, iSum_nil, s1, ldS hI.1 (show i + 1 < L by omega) hL, ldS e3 (show i + 1 < L by omega) hL, s2, ldS hI.1 (show i + 2 < L by omega) hL, ldS e3 (show i + 2 < L by omega) hL, eq_self, if_true]
  simp only [XL_law_1465, XL_law_1468, iOb_some, iClr_i, iClr_r, iClr_n, iClr_u, iClr_l, rf_s, rf_n, iB_0, iSum_nil, s6]
  exact next _ h2 e5
theorem lw_case26 (hb : bb < o) (hL : L ≤ 3072) (hi : i + 6 ≤ L) (hI : lwI bb o L xs W k h) (next : ∀ W' h2, lwI bb o L xs W' (k + 1) h2 → iWp 60 mL_law 18 [.ref bb, .ref o, .ref (o + 10), .int (nI (i + 6))] [] h2 Q) : iWp 60 mL_law 1109 [.ref bb, .ref o, .ref (o + 10), .int (nI i)] [] h Q := by
  have hW := hI.2.2.2.1
  have o8 := cRep_o hI.2.2.1
  have s1 : nI i + 1 = nI (i + 1) := nI_1 i
  have s6 : nI i + 6 = nI (i + 6) := nI_add i 6
  obtain ⟨h1, h2, e1, e2, e3, e4, e5⟩ := lw_call hb hI _ (aSqueeze_ok hW) (c8_squeeze hI.2.2.1 hW (xs (i + 1))) (fun g s hR => m9_squeeze hR hW (xs (i + 1)))
  simp only [XL_law_1109, XL_law_1109n, XL_law_1110, XL_law_1110n, XL_law_1111, XL_law_1112, XL_law_1113, XL_law_1114, XL_law_1115 e1 o8, XL_law_1118, XL_law_1118n, XL_law_1119, XL_law_1119n, XL_law_1120, XL_law_1121, XL_law_1122, XL_law_1123, XL_law_1124 e2 e4, XL_law_1127, iOb_some, iClr_i, iClr_r, iClr_n, iClr_u, iClr_l, rf_s, rf_n, iB_0, iSum_nil, s1, ldS hI.1 (show i + 1 < L by omega) hL, ldS e3 (show i + 1 < L by omega) hL, eq_self, if_true]
  simp only [XL_law_1465, XL_law_1468, iOb_some, iClr_i, iClr_r, iClr_n, iClr_u, iClr_l, rf_s, rf_n, iB_0, iSum_nil, s6]
  exact next _ h2 e5
theorem lw_case27 (hb : bb < o) (hL : L ≤ 3072) (hi : i + 6 ≤ L) (hI : lwI bb o L xs W k h) (next : ∀ W' h2, lwI bb o L xs W' (k + 1) h2 → iWp 60 mL_law 18 [.ref bb, .ref o, .ref (o + 10), .int (nI (i + 6))] [] h2 Q) : iWp 60 mL_law 1132 [.ref bb, .ref o, .ref (o + 10), .int (nI i)] [] h Q := by
  have hW := hI.2.2.2.1
  have o8 := cRep_o hI.2.2.1
  have s1 : nI i + 1 = nI (i + 1) := nI_1 i
  have s2 : nI i + 2 = nI (i + 2) := nI_add i 2
  have s6 : nI i + 6 = nI (i + 6) := nI_add i 6
  obtain ⟨h1, h2, e1, e2, e3, e4, e5⟩ := lw_call hb hI _ (aRebase_ok hW) (c8_rebase hI.2.2.1 hW (xs (i + 1)) (xs (i + 2))) (fun g s hR => m9_rebase hR hW (xs (i + 1)) (xs (i + 2)))
  simp only [XL_law_1132, XL_law_1132n, XL_law_1133, XL_law_1133n, XL_law_1134, XL_law_1135, XL_law_1136, XL_law_1137, XL_law_1138, XL_law_1138n, XL_law_1139, XL_law_1140, XL_law_1141, XL_law_1142, XL_law_1143 e1 o8, XL_law_1146, XL_law_1146n, XL_law_1147, XL_law_1147n, XL_law_1148, XL_law_1149, XL_law_1150, XL_law_1151, XL_law_1152, XL_law_1152n, XL_law_1153, XL_law_1154, XL_law_1155, XL_law_1156, XL_law_1157 e2 e4, XL_law_1160, iOb_some, iClr_i, iClr_r, iClr_n, iClr_u, iClr_l, rf_s, rf_n, iB_0, iSum_nil, s1, ldS hI.1 (show i + 1 < L by omega) hL, ldS e3 (show i + 1 < L by omega) hL, s2, ldS hI.1 (show i + 2 < L by omega) hL, ldS e3 (show i + 2 < L by omega) hL, eq_self, if_true]
  simp only [XL_law_1465, XL_law_1468, iOb_some, iClr_i, iClr_r, iClr_n, iClr_u, iClr_l, rf_s, rf_n, iB_0, iSum_nil, s6]
  exact next _ h2 e5
theorem lw_case28 (hb : bb < o) (hL : L ≤ 3072) (hi : i + 6 ≤ L) (hI : lwI bb o L xs W k h) (next : ∀ W' h2, lwI bb o L xs W' (k + 1) h2 → iWp 60 mL_law 18 [.ref bb, .ref o, .ref (o + 10), .int (nI (i + 6))] [] h2 Q) : iWp 60 mL_law 1165 [.ref bb, .ref o, .ref (o + 10), .int (nI i)] [] h Q := by
  have hW := hI.2.2.2.1
  have o8 := cRep_o hI.2.2.1
  have s1 : nI i + 1 = nI (i + 1) := nI_1 i
  have s2 : nI i + 2 = nI (i + 2) := nI_add i 2
  have s3 : nI i + 3 = nI (i + 3) := nI_add i 3
  have s6 : nI i + 6 = nI (i + 6) := nI_add i 6
  obtain ⟨h1, h2, e1, e2, e3, e4, e5⟩ := lw_call hb hI _ (aConflict_ok hW) (c8_conflict hI.2.2.1 hW (xs (i + 1)) (xs (i + 2)) (xs (i + 3))) (fun g s hR => m9_conflict hR hW (xs (i + 1)) (xs (i + 2)) (xs (i + 3)))
  simp only [XL_law_1165, XL_law_1165n, XL_law_1166, XL_law_1166n, XL_law_1167, XL_law_1168, XL_law_1169, XL_law_1170, XL_law_1171, XL_law_1171n, XL_law_1172, XL_law_1173, XL_law_1174, XL_law_1175, XL_law_1176, XL_law_1176n, XL_law_1177, XL_law_1178, XL_law_1179, XL_law_1180, XL_law_1181 e1 o8, XL_law_1184, XL_law_1184n, XL_law_1185, XL_law_1185n, XL_law_1186, XL_law_1187, XL_law_1188, XL_law_1189, XL_law_1190, XL_law_1190n, XL_law_1191, XL_law_1192, XL_law_1193, XL_law_1194, XL_law_1195, XL_law_1195n, XL_law_1196, XL_law_1197, XL_law_1198, XL_law_1199, XL_law_1200 e2 e4, XL_law_1203, iOb_some, iClr_i, iClr_r, iClr_n, iClr_u, iClr_l, rf_s, rf_n, iB_0, iSum_nil, s1, ldS hI.1 (show i + 1 < L by omega) hL, ldS e3 (show i + 1 < L by omega) hL, s2, ldS hI.1 (show i + 2 < L by omega) hL, ldS e3 (show i + 2 < L by omega) hL, s3, ldS hI.1 (show i + 3 < L by omega) hL, ldS e3 (show i + 3 < L by omega) hL, eq_self, if_true]
  simp only [XL_law_1465, XL_law_1468, iOb_some, iClr_i, iClr_r, iClr_n, iClr_u, iClr_l, rf_s, rf_n, iB_0, iSum_nil, s6]
  exact next _ h2 e5
theorem lw_case29 (hb : bb < o) (hL : L ≤ 3072) (hi : i + 6 ≤ L) (hI : lwI bb o L xs W k h) (next : ∀ W' h2, lwI bb o L xs W' (k + 1) h2 → iWp 60 mL_law 18 [.ref bb, .ref o, .ref (o + 10), .int (nI (i + 6))] [] h2 Q) : iWp 60 mL_law 1208 [.ref bb, .ref o, .ref (o + 10), .int (nI i)] [] h Q := by
  have hW := hI.2.2.2.1
  have o8 := cRep_o hI.2.2.1
  have s1 : nI i + 1 = nI (i + 1) := nI_1 i
  have s2 : nI i + 2 = nI (i + 2) := nI_add i 2
  have s3 : nI i + 3 = nI (i + 3) := nI_add i 3
  have s6 : nI i + 6 = nI (i + 6) := nI_add i 6
  obtain ⟨h1, h2, e1, e2, e3, e4, e5⟩ := lw_call hb hI _ (aHand_ok hW) (c8_hand hI.2.2.1 hW (xs (i + 1)) (xs (i + 2)) (xs (i + 3))) (fun g s hR => m9_hand hR hW (xs (i + 1)) (xs (i + 2)) (xs (i + 3)))
  simp only [XL_law_1208, XL_law_1208n, XL_law_1209, XL_law_1209n, XL_law_1210, XL_law_1211, XL_law_1212, XL_law_1213, XL_law_1214, XL_law_1214n, XL_law_1215, XL_law_1216, XL_law_1217, XL_law_1218, XL_law_1219, XL_law_1219n, XL_law_1220, XL_law_1221, XL_law_1222, XL_law_1223, XL_law_1224 e1 o8, XL_law_1227, XL_law_1227n, XL_law_1228, XL_law_1228n, XL_law_1229, XL_law_1230, XL_law_1231, XL_law_1232, XL_law_1233, XL_law_1233n, XL_law_1234, XL_law_1235, XL_law_1236, XL_law_1237, XL_law_1238, XL_law_1238n, XL_law_1239, XL_law_1240, XL_law_1241, XL_law_1242, XL_law_1243 e2 e4, XL_law_1246, iOb_some, iClr_i, iClr_r, iClr_n, iClr_u, iClr_l, rf_s, rf_n, iB_0, iSum_nil, s1, ldS hI.1 (show i + 1 < L by omega) hL, ldS e3 (show i + 1 < L by omega) hL, s2, ldS hI.1 (show i + 2 < L by omega) hL, ldS e3 (show i + 2 < L by omega) hL, s3, ldS hI.1 (show i + 3 < L by omega) hL, ldS e3 (show i + 3 < L by omega) hL, eq_self, if_true]
  simp only [XL_law_1465, XL_law_1468, iOb_some, iClr_i, iClr_r, iClr_n, iClr_u, iClr_l, rf_s, rf_n, iB_0, iSum_nil, s6]
  exact next _ h2 e5
theorem lw_case30 (hb : bb < o) (hL : L ≤ 3072) (hi : i + 6 ≤ L) (hI : lwI bb o L xs W k h) (next : ∀ W' h2, lwI bb o L xs W' (k + 1) h2 → iWp 60 mL_law 18 [.ref bb, .ref o, .ref (o + 10), .int (nI (i + 6))] [] h2 Q) : iWp 60 mL_law 1251 [.ref bb, .ref o, .ref (o + 10), .int (nI i)] [] h Q := by
  have hW := hI.2.2.2.1
  have o8 := cRep_o hI.2.2.1
  have s1 : nI i + 1 = nI (i + 1) := nI_1 i
  have s2 : nI i + 2 = nI (i + 2) := nI_add i 2
  have s3 : nI i + 3 = nI (i + 3) := nI_add i 3
  have s4 : nI i + 4 = nI (i + 4) := nI_add i 4
  have s6 : nI i + 6 = nI (i + 6) := nI_add i 6
  obtain ⟨h1, h2, e1, e2, e3, e4, e5⟩ := lw_call hb hI _ (aPut_ok hW) (c8_put hI.2.2.1 hW (xs (i + 1)) (xs (i + 2)) (xs (i + 3)) (xs (i + 4))) (fun g s hR => m9_put hR hW (xs (i + 1)) (xs (i + 2)) (xs (i + 3)) (xs (i + 4)))
  simp only [XL_law_1251, XL_law_1251n, XL_law_1252, XL_law_1252n, XL_law_1253, XL_law_1254, XL_law_1255, XL_law_1256, XL_law_1257, XL_law_1257n, XL_law_1258, XL_law_1259, XL_law_1260, XL_law_1261, XL_law_1262, XL_law_1262n, XL_law_1263, XL_law_1264, XL_law_1265, XL_law_1266, XL_law_1267, XL_law_1267n, XL_law_1268, XL_law_1269, XL_law_1270, XL_law_1271, XL_law_1272 e1 o8, XL_law_1275, XL_law_1275n, XL_law_1276, XL_law_1276n, XL_law_1277, XL_law_1278, XL_law_1279, XL_law_1280, XL_law_1281, XL_law_1281n, XL_law_1282, XL_law_1283, XL_law_1284, XL_law_1285, XL_law_1286, XL_law_1286n, XL_law_1287, XL_law_1288, XL_law_1289, XL_law_1290, XL_law_1291, XL_law_1291n, XL_law_1292, XL_law_1293, XL_law_1294, XL_law_1295, XL_law_1296 e2 e4, XL_law_1299, iOb_some, iClr_i, iClr_r, iClr_n, iClr_u, iClr_l, rf_s, rf_n, iB_0, iSum_nil, s1, ldS hI.1 (show i + 1 < L by omega) hL, ldS e3 (show i + 1 < L by omega) hL, s2, ldS hI.1 (show i + 2 < L by omega) hL, ldS e3 (show i + 2 < L by omega) hL, s3, ldS hI.1 (show i + 3 < L by omega) hL, ldS e3 (show i + 3 < L by omega) hL, s4, ldS hI.1 (show i + 4 < L by omega) hL, ldS e3 (show i + 4 < L by omega) hL, eq_self, if_true]
  simp only [XL_law_1465, XL_law_1468, iOb_some, iClr_i, iClr_r, iClr_n, iClr_u, iClr_l, rf_s, rf_n, iB_0, iSum_nil, s6]
  exact next _ h2 e5
theorem lw_case31 (hb : bb < o) (hL : L ≤ 3072) (hi : i + 6 ≤ L) (hI : lwI bb o L xs W k h) (next : ∀ W' h2, lwI bb o L xs W' (k + 1) h2 → iWp 60 mL_law 18 [.ref bb, .ref o, .ref (o + 10), .int (nI (i + 6))] [] h2 Q) : iWp 60 mL_law 1304 [.ref bb, .ref o, .ref (o + 10), .int (nI i)] [] h Q := by
  have hW := hI.2.2.2.1
  have o8 := cRep_o hI.2.2.1
  have s6 : nI i + 6 = nI (i + 6) := nI_add i 6
  obtain ⟨h1, h2, e1, e2, e3, e4, e5⟩ := lw_call hb hI _ (aForget_ok hW) (c8_forget hI.2.2.1 hW) (fun g s hR => m9_forget hR hW)
  simp only [XL_law_1304, XL_law_1304n, XL_law_1305 e1 o8, XL_law_1308, XL_law_1308n, XL_law_1309 e2 e4, XL_law_1312, iOb_some, iClr_i, iClr_r, iClr_n, iClr_u, iClr_l, rf_s, rf_n, iB_0, iSum_nil, eq_self, if_true]
  simp only [XL_law_1465, XL_law_1468, iOb_some, iClr_i, iClr_r, iClr_n, iClr_u, iClr_l, rf_s, rf_n, iB_0, iSum_nil, s6]
  exact next _ h2 e5
theorem lw_case32 (hb : bb < o) (hL : L ≤ 3072) (hi : i + 6 ≤ L) (hI : lwI bb o L xs W k h) (next : ∀ W' h2, lwI bb o L xs W' (k + 1) h2 → iWp 60 mL_law 18 [.ref bb, .ref o, .ref (o + 10), .int (nI (i + 6))] [] h2 Q) : iWp 60 mL_law 1317 [.ref bb, .ref o, .ref (o + 10), .int (nI i)] [] h Q := by
  have hW := hI.2.2.2.1
  have o8 := cRep_o hI.2.2.1
  have s1 : nI i + 1 = nI (i + 1) := nI_1 i
  have s2 : nI i + 2 = nI (i + 2) := nI_add i 2
  have s3 : nI i + 3 = nI (i + 3) := nI_add i 3
  have s6 : nI i + 6 = nI (i + 6) := nI_add i 6
  obtain ⟨h1, h2, e1, e2, e3, e4, e5⟩ := lw_call hb hI _ (aJudge_ok hW) (c8_judge hI.2.2.1 hW (xs (i + 1)) (xs (i + 2)) (xs (i + 3))) (fun g s hR => m9_judge hR hW (xs (i + 1)) (xs (i + 2)) (xs (i + 3)))
  simp only [XL_law_1317, XL_law_1317n, XL_law_1318, XL_law_1318n, XL_law_1319, XL_law_1320, XL_law_1321, XL_law_1322, XL_law_1323, XL_law_1323n, XL_law_1324, XL_law_1325, XL_law_1326, XL_law_1327, XL_law_1328, XL_law_1328n, XL_law_1329, XL_law_1330, XL_law_1331, XL_law_1332, XL_law_1333 e1 o8, XL_law_1336, XL_law_1336n, XL_law_1337, XL_law_1337n, XL_law_1338, XL_law_1339, XL_law_1340, XL_law_1341, XL_law_1342, XL_law_1342n, XL_law_1343, XL_law_1344, XL_law_1345, XL_law_1346, XL_law_1347, XL_law_1347n, XL_law_1348, XL_law_1349, XL_law_1350, XL_law_1351, XL_law_1352 e2 e4, XL_law_1355, iOb_some, iClr_i, iClr_r, iClr_n, iClr_u, iClr_l, rf_s, rf_n, iB_0, iSum_nil, s1, ldS hI.1 (show i + 1 < L by omega) hL, ldS e3 (show i + 1 < L by omega) hL, s2, ldS hI.1 (show i + 2 < L by omega) hL, ldS e3 (show i + 2 < L by omega) hL, s3, ldS hI.1 (show i + 3 < L by omega) hL, ldS e3 (show i + 3 < L by omega) hL, eq_self, if_true]
  simp only [XL_law_1465, XL_law_1468, iOb_some, iClr_i, iClr_r, iClr_n, iClr_u, iClr_l, rf_s, rf_n, iB_0, iSum_nil, s6]
  exact next _ h2 e5
theorem lw_case33 (hb : bb < o) (hL : L ≤ 3072) (hi : i + 6 ≤ L) (hI : lwI bb o L xs W k h) (next : ∀ W' h2, lwI bb o L xs W' (k + 1) h2 → iWp 60 mL_law 18 [.ref bb, .ref o, .ref (o + 10), .int (nI (i + 6))] [] h2 Q) : iWp 60 mL_law 1360 [.ref bb, .ref o, .ref (o + 10), .int (nI i)] [] h Q := by
  have hW := hI.2.2.2.1
  have o8 := cRep_o hI.2.2.1
  have s1 : nI i + 1 = nI (i + 1) := nI_1 i
  have s2 : nI i + 2 = nI (i + 2) := nI_add i 2
  have s6 : nI i + 6 = nI (i + 6) := nI_add i 6
  obtain ⟨h1, h2, e1, e2, e3, e4, e5⟩ := lw_call hb hI _ (aDays_ok hW) (c8_days hI.2.2.1 hW (xs (i + 1)) (xs (i + 2))) (fun g s hR => m9_days hR hW (xs (i + 1)) (xs (i + 2)))
  simp only [XL_law_1360, XL_law_1360n, XL_law_1361, XL_law_1361n, XL_law_1362, XL_law_1363, XL_law_1364, XL_law_1365, XL_law_1366, XL_law_1366n, XL_law_1367, XL_law_1368, XL_law_1369, XL_law_1370, XL_law_1371 e1 o8, XL_law_1374, XL_law_1374n, XL_law_1375, XL_law_1375n, XL_law_1376, XL_law_1377, XL_law_1378, XL_law_1379, XL_law_1380, XL_law_1380n, XL_law_1381, XL_law_1382, XL_law_1383, XL_law_1384, XL_law_1385 e2 e4, XL_law_1388, iOb_some, iClr_i, iClr_r, iClr_n, iClr_u, iClr_l, rf_s, rf_n, iB_0, iSum_nil, s1, ldS hI.1 (show i + 1 < L by omega) hL, ldS e3 (show i + 1 < L by omega) hL, s2, ldS hI.1 (show i + 2 < L by omega) hL, ldS e3 (show i + 2 < L by omega) hL, eq_self, if_true]
  simp only [XL_law_1465, XL_law_1468, iOb_some, iClr_i, iClr_r, iClr_n, iClr_u, iClr_l, rf_s, rf_n, iB_0, iSum_nil, s6]
  exact next _ h2 e5
theorem lw_case34 (hb : bb < o) (hL : L ≤ 3072) (hi : i + 6 ≤ L) (hI : lwI bb o L xs W k h) (next : ∀ W' h2, lwI bb o L xs W' (k + 1) h2 → iWp 60 mL_law 18 [.ref bb, .ref o, .ref (o + 10), .int (nI (i + 6))] [] h2 Q) : iWp 60 mL_law 1393 [.ref bb, .ref o, .ref (o + 10), .int (nI i)] [] h Q := by
  have hW := hI.2.2.2.1
  have o8 := cRep_o hI.2.2.1
  have s1 : nI i + 1 = nI (i + 1) := nI_1 i
  have s6 : nI i + 6 = nI (i + 6) := nI_add i 6
  obtain ⟨h1, h2, e1, e2, e3, e4, e5⟩ := lw_call hb hI _ (aSeed_ok hW) (c8_seed hI.2.2.1 hW (xs (i + 1))) (fun g s hR => m9_seed hR (xs (i + 1)))
  simp only [XL_law_1393, XL_law_1393n, XL_law_1394, XL_law_1394n, XL_law_1395, XL_law_1396, XL_law_1397, XL_law_1398, XL_law_1399 e1 o8, XL_law_1402, XL_law_1402n, XL_law_1403, XL_law_1403n, XL_law_1404, XL_law_1405, XL_law_1406, XL_law_1407, XL_law_1408 e2 e4, XL_law_1411, iOb_some, iClr_i, iClr_r, iClr_n, iClr_u, iClr_l, rf_s, rf_n, iB_0, iSum_nil, s1, ldS hI.1 (show i + 1 < L by omega) hL, ldS e3 (show i + 1 < L by omega) hL, eq_self, if_true]
  simp only [XL_law_1465, XL_law_1468, iOb_some, iClr_i, iClr_r, iClr_n, iClr_u, iClr_l, rf_s, rf_n, iB_0, iSum_nil, s6]
  exact next _ h2 e5
theorem lw_case35 (hb : bb < o) (hL : L ≤ 3072) (hi : i + 6 ≤ L) (hI : lwI bb o L xs W k h) (next : ∀ W' h2, lwI bb o L xs W' (k + 1) h2 → iWp 60 mL_law 18 [.ref bb, .ref o, .ref (o + 10), .int (nI (i + 6))] [] h2 Q) : iWp 60 mL_law 1416 [.ref bb, .ref o, .ref (o + 10), .int (nI i)] [] h Q := by
  have hW := hI.2.2.2.1
  have o8 := cRep_o hI.2.2.1
  have s6 : nI i + 6 = nI (i + 6) := nI_add i 6
  obtain ⟨h1, h2, e1, e2, e3, e4, e5⟩ := lw_call hb hI _ (aImage_ok hW) (c8_image hI.2.2.1 hW) (fun g s hR => m9_image hR hW)
  simp only [XL_law_1416, XL_law_1416n, XL_law_1417 e1 o8, XL_law_1420, XL_law_1420n, XL_law_1421 e2 e4, XL_law_1424, iOb_some, iClr_i, iClr_r, iClr_n, iClr_u, iClr_l, rf_s, rf_n, iB_0, iSum_nil, eq_self, if_true]
  simp only [XL_law_1465, XL_law_1468, iOb_some, iClr_i, iClr_r, iClr_n, iClr_u, iClr_l, rf_s, rf_n, iB_0, iSum_nil, s6]
  exact next _ h2 e5
theorem lw_case36 (hb : bb < o) (hL : L ≤ 3072) (hi : i + 6 ≤ L) (hI : lwI bb o L xs W k h) (next : ∀ W' h2, lwI bb o L xs W' (k + 1) h2 → iWp 60 mL_law 18 [.ref bb, .ref o, .ref (o + 10), .int (nI (i + 6))] [] h2 Q) : iWp 60 mL_law 1429 [.ref bb, .ref o, .ref (o + 10), .int (nI i)] [] h Q := by
  have hW := hI.2.2.2.1
  have o8 := cRep_o hI.2.2.1
  have s6 : nI i + 6 = nI (i + 6) := nI_add i 6
  obtain ⟨h1, h2, e1, e2, e3, e4, e5⟩ := lw_call hb hI _ (aRestore_ok hW) (c8_restore hI.2.2.1 hW) (fun g s hR => m9_restore hR hW)
  simp only [XL_law_1429, XL_law_1429n, XL_law_1430 e1 o8, XL_law_1433, XL_law_1433n, XL_law_1434 e2 e4, XL_law_1437, iOb_some, iClr_i, iClr_r, iClr_n, iClr_u, iClr_l, rf_s, rf_n, iB_0, iSum_nil, eq_self, if_true]
  simp only [XL_law_1465, XL_law_1468, iOb_some, iClr_i, iClr_r, iClr_n, iClr_u, iClr_l, rf_s, rf_n, iB_0, iSum_nil, s6]
  exact next _ h2 e5
theorem lw_case37 (hb : bb < o) (hL : L ≤ 3072) (hi : i + 6 ≤ L) (hI : lwI bb o L xs W k h) (next : ∀ W' h2, lwI bb o L xs W' (k + 1) h2 → iWp 60 mL_law 18 [.ref bb, .ref o, .ref (o + 10), .int (nI (i + 6))] [] h2 Q) : iWp 60 mL_law 1442 [.ref bb, .ref o, .ref (o + 10), .int (nI i)] [] h Q := by
  have hW := hI.2.2.2.1
  have o8 := cRep_o hI.2.2.1
  have s1 : nI i + 1 = nI (i + 1) := nI_1 i
  have s6 : nI i + 6 = nI (i + 6) := nI_add i 6
  obtain ⟨h1, h2, e1, e2, e3, e4, e5⟩ := lw_call hb hI _ (aStatus_ok hW) (c8_status hI.2.2.1 hW (xs (i + 1))) (fun g s hR => m9_status hR hW (xs (i + 1)))
  simp only [XL_law_1442, XL_law_1442n, XL_law_1443, XL_law_1443n, XL_law_1444, XL_law_1445, XL_law_1446, XL_law_1447, XL_law_1448 e1 o8, XL_law_1451, XL_law_1451n, XL_law_1452, XL_law_1452n, XL_law_1453, XL_law_1454, XL_law_1455, XL_law_1456, XL_law_1457 e2 e4, XL_law_1460, iOb_some, iClr_i, iClr_r, iClr_n, iClr_u, iClr_l, rf_s, rf_n, iB_0, iSum_nil, s1, ldS hI.1 (show i + 1 < L by omega) hL, ldS e3 (show i + 1 < L by omega) hL, eq_self, if_true]
  simp only [XL_law_1465, XL_law_1468, iOb_some, iClr_i, iClr_r, iClr_n, iClr_u, iClr_l, rf_s, rf_n, iB_0, iSum_nil, s6]
  exact next _ h2 e5
/-- a word below 38, or none -/
theorem sw38 (y : Int32) : (∃ n : Nat, n < 38 ∧ y = nI n) ∨ (y.toInt < 0 ∨ 37 < y.toInt) := by
  by_cases c : y.toInt < 0 ∨ 37 < y.toInt
  · exact Or.inr c
  · refine Or.inl ⟨y.toInt.toNat, by omega, Int32.toInt_inj.mp ?_⟩
    rw [nI_toInt (by omega)]
    omega
theorem lw_step (hb : bb < o) (hL : L ≤ 3072) (hi : i + 6 ≤ L) (hI : lwI bb o L xs W k h) (next : ∀ W' h2, lwI bb o L xs W' (k + 1) h2 → iWp 60 mL_law 18 [.ref bb, .ref o, .ref (o + 10), .int (nI (i + 6))] [] h2 Q) : iWp 60 mL_law 27 [.ref bb, .ref o, .ref (o + 10), .int (nI i)] [] h Q := by
  have s6 : nI i + 6 = nI (i + 6) := nI_add i 6
  simp only [XL_law_27, XL_law_27n, XL_law_28, XL_law_29, XL_law_30, XL_law_32, iOb_some, iClr_i, iClr_r, iClr_n, iClr_u, iClr_l, rf_s, rf_n, iB_0, iSum_nil, ldS hI.1 (show i < L by omega) hL]
  generalize xs i &&& 63 = y
  rcases sw38 y with ⟨n, hn, rfl⟩ | hy
  · match n, hn with
    | 0, _ => exact XL_law_33_0.mpr (lw_case0 hb hL hi hI next)
    | 1, _ => exact XL_law_33_1.mpr (lw_case1 hb hL hi hI next)
    | 2, _ => exact XL_law_33_2.mpr (lw_case2 hb hL hi hI next)
    | 3, _ => exact XL_law_33_3.mpr (lw_case3 hb hL hi hI next)
    | 4, _ => exact XL_law_33_4.mpr (lw_case4 hb hL hi hI next)
    | 5, _ => exact XL_law_33_5.mpr (lw_case5 hb hL hi hI next)
    | 6, _ => exact XL_law_33_6.mpr (lw_case6 hb hL hi hI next)
    | 7, _ => exact XL_law_33_7.mpr (lw_case7 hb hL hi hI next)
    | 8, _ => exact XL_law_33_8.mpr (lw_case8 hb hL hi hI next)
    | 9, _ => exact XL_law_33_9.mpr (lw_case9 hb hL hi hI next)
    | 10, _ => exact XL_law_33_10.mpr (lw_case10 hb hL hi hI next)
    | 11, _ => exact XL_law_33_11.mpr (lw_case11 hb hL hi hI next)
    | 12, _ => exact XL_law_33_12.mpr (lw_case12 hb hL hi hI next)
    | 13, _ => exact XL_law_33_13.mpr (lw_case13 hb hL hi hI next)
    | 14, _ => exact XL_law_33_14.mpr (lw_case14 hb hL hi hI next)
    | 15, _ => exact XL_law_33_15.mpr (lw_case15 hb hL hi hI next)
    | 16, _ => exact XL_law_33_16.mpr (lw_case16 hb hL hi hI next)
    | 17, _ => exact XL_law_33_17.mpr (lw_case17 hb hL hi hI next)
    | 18, _ => exact XL_law_33_18.mpr (lw_case18 hb hL hi hI next)
    | 19, _ => exact XL_law_33_19.mpr (lw_case19 hb hL hi hI next)
    | 20, _ => exact XL_law_33_20.mpr (lw_case20 hb hL hi hI next)
    | 21, _ => exact XL_law_33_21.mpr (lw_case21 hb hL hi hI next)
    | 22, _ => exact XL_law_33_22.mpr (lw_case22 hb hL hi hI next)
    | 23, _ => exact XL_law_33_23.mpr (lw_case23 hb hL hi hI next)
    | 24, _ => exact XL_law_33_24.mpr (lw_case24 hb hL hi hI next)
    | 25, _ => exact XL_law_33_25.mpr (lw_case25 hb hL hi hI next)
    | 26, _ => exact XL_law_33_26.mpr (lw_case26 hb hL hi hI next)
    | 27, _ => exact XL_law_33_27.mpr (lw_case27 hb hL hi hI next)
    | 28, _ => exact XL_law_33_28.mpr (lw_case28 hb hL hi hI next)
    | 29, _ => exact XL_law_33_29.mpr (lw_case29 hb hL hi hI next)
    | 30, _ => exact XL_law_33_30.mpr (lw_case30 hb hL hi hI next)
    | 31, _ => exact XL_law_33_31.mpr (lw_case31 hb hL hi hI next)
    | 32, _ => exact XL_law_33_32.mpr (lw_case32 hb hL hi hI next)
    | 33, _ => exact XL_law_33_33.mpr (lw_case33 hb hL hi hI next)
    | 34, _ => exact XL_law_33_34.mpr (lw_case34 hb hL hi hI next)
    | 35, _ => exact XL_law_33_35.mpr (lw_case35 hb hL hi hI next)
    | 36, _ => exact XL_law_33_36.mpr (lw_case36 hb hL hi hI next)
    | 37, _ => exact XL_law_33_37.mpr (lw_case37 hb hL hi hI next)
    | n + 38, hn => exact absurd hn (by omega)
  · rw [XL_law_33_d hy]
    simp only [XL_law_1465, XL_law_1468, iOb_some, iClr_i, iClr_r, iClr_n, iClr_u, iClr_l, rf_s, rf_n, iB_0, iSum_nil, s6]
    refine next W h ?_
    obtain ⟨i1, i2, i3, i4, i5, i6⟩ := hI
    exact ⟨i1, i2, i3, i4, lw_ar1 (Nat.le_add_right _ _) i5, lw_ar2 (Nat.le_add_right _ _) i6⟩
end LAWCASES

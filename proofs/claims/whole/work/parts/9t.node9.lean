/-! tree: the reference reads a node -/
def rsR (s : mS) (i L : Nat) (f : Nat → Int32) : Prop := s.1 15 = nI i ∧ s.2.1 12 i = nI L ∧ ∀ j, j < L → (s.2.2 (160 * i + j)).toInt32 = f j
def sg (f : Nat → Int32) (L a : Nat) : Int32 := if a < L then f a else -1
abbrev LN : List Nat := [16, 18, 19, 20, 21]
section NODE9
variable {h : iHp} {i j k l x m a c p q r t n d L : Nat} {W : wW} {b : iHp} {s s0 s1 s2 s' : mS} {T U V : tT} {K B D : Nat → Int32} {f : Nat → Int32}
theorem rsR.ex (h : rsR s i L f) (hx : sEx LN s s') : rsR s' i L f := ⟨(hx.1 15 (by decide)).trans h.1, (congrFun (hx.2.1 12 (by decide)) i).trans h.2.1, fun j hj => by rw [hx.2.2]; exact h.2.2 j hj⟩
theorem ev9_sign (hS : rsR s i L f) (hi : i < 8) (hL : L ≤ 160) (ha : s.1 16 = nI a) (haL : a ≤ L) : iEv mX9_sign [.ref x] (mH b x s) (some (.int (sg f L a))) (mH b x s) := by
  have e1 : 160 * nI i + nI a = nI (160 * i + a) := by
    rw [show (160 : Int32) = nI 160 from rfl, pk_mul, nI_add]
  refine J9_sign ?_
  unfold sg
  by_cases c : a < L
  · rw [if_pos c]
    simp only [X9_sign_0, X9_sign_1, X9_sign_4, X9_sign_5, X9_sign_8, X9_sign_9, X9_sign_12, X9_sign_13, X9_sign_16, X9_sign_17, X9_sign_20, X9_sign_23, X9_sign_24, X9_sign_27, X9_sign_28, X9_sign_29, X9_sign_32, X9_sign_33, X9_sign_34, X9_sign_35, X9_sign_38, X9_sign_39, iOb_some, iClr_i, iClr_r, iClr_n, iClr_u, iClr_l, rf_s, rf_n, iB_0, iSum_nil, mg16, mg15, mg12, hS.1, ha, ml12 hi, hS.2.1, if_neg (nI_ge c (show L < 2 ^ 31 by omega)), e1, mg13, ml13 (show 160 * i + a < 1280 by omega), hS.2.2 a c, and_self]
  · rw [if_neg c]
    simp only [X9_sign_0, X9_sign_1, X9_sign_4, X9_sign_5, X9_sign_8, X9_sign_9, X9_sign_12, X9_sign_13, X9_sign_16, X9_sign_17, X9_sign_20, X9_sign_23, X9_sign_24, X9_sign_27, X9_sign_28, X9_sign_29, X9_sign_32, X9_sign_33, X9_sign_34, X9_sign_35, X9_sign_38, X9_sign_39, iOb_some, iClr_i, iClr_r, iClr_n, iClr_u, iClr_l, rf_s, rf_n, iB_0, iSum_nil, mg16, mg15, mg12, hS.1, ha, ml12 hi, hS.2.1, if_pos (show nI L ≤ nI a from nI_le (by omega) (by omega)), and_self]
theorem sg_c {v : Int32} (hv : v ≠ -1) : sg f L a = v ↔ a < L ∧ f a = v := by
  unfold sg
  by_cases c : a < L
  · rw [if_pos c]
    exact ⟨fun z => ⟨c, z⟩, fun z => z.2⟩
  · rw [if_neg c]
    exact ⟨fun z => absurd z.symm hv, fun z => absurd z.1 c⟩
theorem ev9_is (hS : rsR s i L f) (hi : i < 8) (hL : L ≤ 160) (ha : s.1 16 = nI a) (haL : a ≤ L) {v : Int32} (hv : v ≠ -1) : ((a < L ∧ f a = v) → iEv mX9_is [.ref x, .int v] (mH b x s) (some (.int 1)) (mH b x (mSet s 16 (nI (a + 1))))) ∧ (¬ (a < L ∧ f a = v) → iEv mX9_is [.ref x, .int v] (mH b x s) (some (.int 0)) (mH b x s)) := by
  have es := ev9_sign (b := b) (x := x) hS hi hL ha haL
  refine ⟨fun c => J9_is ?_, fun c => J9_is ?_⟩
  · rw [(sg_c hv).mpr c] at es
    simp only [X9_is_0, X9_is_1 es mH_obj, X9_is_4, X9_is_5, X9_is_8, X9_is_9, X9_is_9z, X9_is_9o, X9_is_10, X9_is_11, X9_is_12, X9_is_15, X9_is_16, X9_is_17, X9_is_20, X9_is_21, X9_is_21z, X9_is_21o, iOb_some, iClr_i, iClr_r, iClr_n, iClr_u, iClr_l, rf_s, rf_n, iB_0, iSum_nil, if_true, mg16, ha, mp16, nI_1]
    exact ⟨rfl, trivial⟩
  · have c : ¬ sg f L a = v := fun z => c ((sg_c hv).mp z)
    simp only [X9_is_0, X9_is_1 es mH_obj, X9_is_4, X9_is_5, X9_is_8, X9_is_9, X9_is_9z, X9_is_9o, X9_is_10, X9_is_11, X9_is_12, X9_is_15, X9_is_16, X9_is_17, X9_is_20, X9_is_21, X9_is_21z, X9_is_21o, iOb_some, iClr_i, iClr_r, iClr_n, iClr_u, iClr_l, rf_s, rf_n, iB_0, iSum_nil, if_neg c]
    exact ⟨rfl, trivial⟩
theorem ev9_isDigit (hS : rsR s i L f) (hi : i < 8) (hL : L ≤ 160) (ha : s.1 16 = nI a) (haL : a ≤ L) : iEv mX9_isDigit [.ref x] (mH b x s) (some (.int (iB (dg f L a)))) (mH b x s) := by
  refine J9_isDigit ?_
  simp only [X9_isDigit_0, X9_isDigit_1 (ev9_sign hS hi hL ha haL) mH_obj, X9_isDigit_4, X9_isDigit_6, X9_isDigit_8 (ev9_within _ 48 57), X9_isDigit_11, X9_isDigit_11z, X9_isDigit_11o, iOb_some, iClr_i, iClr_r, iClr_n, iClr_u, iClr_l, rf_s, rf_n, iB_0, iSum_nil]
  refine ⟨?_, trivial⟩
  unfold sg dg
  by_cases c : a < L
  · rw [if_pos c, ← Bool.decide_and]
    simp [c]
  · rw [if_neg c, decide_eq_false (show ¬ (48 : Int32) ≤ -1 by decide), Bool.false_and, decide_eq_false (show ¬ (a < L ∧ 48 ≤ f a ∧ f a ≤ 57) from fun z => c z.1)]
theorem rk3 {M : iM} {args : List Value} (h3 : 3 ≤ c) (h : Nat.ble (iRank M args + 1) 3 = true) : iRank M args < c := Nat.lt_of_lt_of_le (Nat.le_of_ble_eq_true h) h3
def ndQ (b : iHp) (x : Nat) (s : mS) (f : Nat → Int32) (L a d : Nat) (T : tT) (r : Option Value) (h1 : iHp) : Prop := ∃ s2, h1 = mH b x s2 ∧ sEx LN s s2 ∧ ((r = some (.int 1) ∧ ∃ a' V, s2.1 16 = nI a' ∧ a' ≤ L ∧ wIs s2 V ∧ V.1 ≤ 40 ∧ T.1 < V.1 ∧ rd f L a d 0 T = rd f L a' d 2 V) ∨ (r = some (.int 0) ∧ ∃ x, s2.1 16 = nI x ∧ x ≤ L ∧ rd f L a d 0 T = (some x, (rd f L a d 0 T).2)))
theorem ndQ_bad {y : Nat} (hr : rdN f L a d T = .inl y) (haL : a ≤ L) (hy : y ≤ L) (hx : sEx LN s s2) (h16 : s2.1 16 = nI y) : ndQ b x s f L a d T (some (.int 0)) (mH b x s2) := ⟨s2, rfl, hx, Or.inr ⟨rfl, y, h16, hy, by rw [rd_bad hr haL]⟩⟩
theorem i_k0 (y : Int32) : 10 * 0 + y - 48 = y - 48 := by
  rw [Int32.mul_zero, Int32.zero_add]
/-- the key read: the node comes, or the fault -/
theorem node_key (h3 : 3 ≤ c) (hS : rsR s1 i L f) (hi : i < 8) (hL : L ≤ 160) (hw : wIs s1 T) (hn : T.1 < 40) (hx : sEx LN s s1) {a' : Nat} (h16 : s1.1 16 = nI a') (haL : a' ≤ L) (ha1 : a + 1 ≤ L) (haa : a ≤ L) {ky lb : Int32} {w5 : Value} (hr : rdN f L a d T = rdK f a d T ky a') (hlb : lb = f a) (hN : ∀ s2 V, sEx LN s s2 → wIs s2 V → rdN f L a d T = .inr (a', V) → s2.1 16 = nI a' → V.1 = T.1 + 1 → iWp c mX9_node 172 [.ref x, .int (nI d), .int lb, .int (nI (a + 1)), .int ky, w5] [] (mH b x s2) (ndQ b x s f L a d T)) : iWp c mX9_node 103 [.ref x, .int (nI d), .int lb, .int (nI (a + 1)), .int ky, w5] [] (mH b x s1) (ndQ b x s f L a d T) := by
  have ew := ev9_within ky 1 60 (h := mH b x s1)
  have ef := ev9_find (b := b) (x := x) hw.1 (by omega) ky
  rw [hw.2.1] at ef
  have bad : rdN f L a d T = .inl (a + 1) → ndQ b x s f L a d T (some (.int 0)) (mH b x (mSet s1 16 (nI (a + 1)))) := fun z => ndQ_bad z haa ha1 (hx.trans (mSet_ex (by decide))) (show va_up s1.1 16 (nI (a + 1)) 16 = _ from if_pos rfl)
  unfold rdK at hr
  by_cases c1 : 1 ≤ ky ∧ ky ≤ 60
  · rw [decide_eq_true c1.1, decide_eq_true c1.2, show iB (true && true) = 1 from rfl] at ew
    cases hwh : tWhere T.2.1 T.1 ky with
    | none =>
      rw [hwh] at ef
      rw [if_pos ⟨c1.1, c1.2, hwh⟩] at hr
      simp only [X9_node_103, X9_node_105, X9_node_106, X9_node_108 ew (rk3 h3 rfl), X9_node_111, X9_node_114, X9_node_115, X9_node_117 ef mH_obj (rk3 h3 rfl), X9_node_120, X9_node_121, X9_node_124, X9_node_125, X9_node_126, X9_node_129, X9_node_130, X9_node_130z, X9_node_130o, X9_node_131, X9_node_132, X9_node_135, X9_node_136, X9_node_139, X9_node_141, X9_node_142, X9_node_143, X9_node_146, X9_node_147, X9_node_150, X9_node_151, X9_node_152, X9_node_153, X9_node_156, X9_node_157, X9_node_160, X9_node_161, X9_node_162, X9_node_163, X9_node_164, X9_node_167, X9_node_168, X9_node_169, iOb_some, iClr_i, iClr_r, iClr_n, iClr_u, iClr_l, rf_s, rf_n, iB_0, iSum_nil, if_neg (show ¬ (1 : Int32) = 0 by decide), oI_n, if_true, mg19, mg20, mg21, mg18, hw.1, ms19 (show T.1 < 66 by omega), ms20 (show T.1 < 66 by omega), ms21 (show T.1 < 66 by omega), mPut_nm, mp18, nI_1]
      refine hN _ (T.1 + 1, upd T.2.1 T.1 ky, upd T.2.2.1 T.1 (f a), upd T.2.2.2 T.1 (nI d)) ?_ ?_ hr h16 rfl
      · exact (((hx.trans (mPut_ex (by decide))).trans (mPut_ex (by decide))).trans (mPut_ex (by decide))).trans (mSet_ex (by decide))
      · refine ⟨show va_up s1.1 18 (nI (T.1 + 1)) 18 = _ from if_pos rfl, ?_, ?_, ?_⟩
        · rw [← hw.2.1]
          rfl
        · rw [← hw.2.2.1, ← hlb]
          rfl
        · rw [← hw.2.2.2]
          rfl
    | some q =>
      have hq := (tWhere_lt hwh).1
      rw [hwh] at ef
      rw [if_neg (fun z => by rw [hwh] at z; exact absurd z.2.2 (by simp))] at hr
      simp only [X9_node_103, X9_node_105, X9_node_106, X9_node_108 ew (rk3 h3 rfl), X9_node_111, X9_node_114, X9_node_115, X9_node_117 ef mH_obj (rk3 h3 rfl), X9_node_120, X9_node_121, X9_node_124, X9_node_125, X9_node_126, X9_node_129, X9_node_130, X9_node_130z, X9_node_130o, iOb_some, iClr_i, iClr_r, iClr_n, iClr_u, iClr_l, rf_s, rf_n, iB_0, iSum_nil, if_neg (show ¬ (1 : Int32) = 0 by decide), oI_s, if_neg (oI_ne (show q < 2 ^ 31 by omega)), mp16]
      exact bad hr
  · rw [if_neg (fun z => c1 ⟨z.1, z.2.1⟩)] at hr
    rw [show iB (decide (1 ≤ ky) && decide (ky ≤ 60)) = 0 from by
      rw [← Bool.decide_and, decide_eq_false c1]
      rfl] at ew
    simp only [X9_node_103, X9_node_105, X9_node_106, X9_node_108 ew (rk3 h3 rfl), X9_node_111, X9_node_114, X9_node_115, X9_node_120, X9_node_121, X9_node_124, X9_node_125, X9_node_126, X9_node_129, X9_node_130, X9_node_130z, X9_node_130o, iOb_some, iClr_i, iClr_r, iClr_n, iClr_u, iClr_l, rf_s, rf_n, iB_0, iSum_nil, if_true, mp16]
    exact bad hr
theorem rkn (hd : d ≤ 45) : iRank mX9_node [.ref x, .int (nI d)] = 3 + (45 - d) := by
  show 3 + (45 - (nI d).toNatClampNeg) = _
  rw [nI_clamp (by omega)]
abbrev ndG (b : iHp) (x : Nat) (f : Nat → Int32) (i L e : Nat) : Prop := ∀ (T : tT) d a s, 40 - T.1 ≤ e → d ≤ T.1 → T.1 ≤ 40 → rsR s i L f → s.1 16 = nI a → a ≤ L → wIs s T → ∃ r h1, iEv mX9_node [.ref x, .int (nI d)] (mH b x s) r h1 ∧ ndQ b x s f L a d T r h1
/-- behind the first CHILD -/
theorem node_rest (hi : i < 8) (hL : L ≤ 160) {e : Nat} (ih : ndG b x f i L e) (hS : rsR s i L f) {lb ky fi : Int32} (hd : d ≤ T.1) (hT : 40 - T.1 ≤ e + 1) (hT4 : T.1 ≤ 40) : ∀ g V a2 s2, 40 - V.1 < g → T.1 < V.1 → V.1 ≤ 40 → sEx LN s s2 → s2.1 16 = nI a2 → a2 ≤ L → wIs s2 V → rd f L a d 0 T = rd f L a2 (d + 1) 2 V → iWp (3 + (45 - d)) mX9_node 192 [.ref x, .int (nI d), .int lb, .int fi, .int ky, .int 1] [] (mH b x s2) (ndQ b x s f L a d T) := by
  intro g
  have h3 : 3 ≤ 3 + (45 - d) := by omega
  induction g with
  | zero => intro V a2 s2 hg; omega
  | succ g ihg =>
    intro V a2 s2 hg hV hV4 hx h16 ha2 hw hr
    have hS2 := hS.ex hx
    obtain ⟨i1, i2⟩ := ev9_is (b := b) (x := x) hS2 hi hL h16 ha2 (v := 44) (by decide)
    obtain ⟨j1, j2⟩ := ev9_is (b := b) (x := x) hS2 hi hL h16 ha2 (v := 41) (by decide)
    have n10 : ¬ (1 : Int32) = 0 := by decide
    rw [X9_node_192]
    by_cases c1 : a2 < L ∧ f a2 = 44
    · have i1 := i1 c1
      have q16 : (mSet s2 16 (nI (a2 + 1))).1 16 = nI (a2 + 1) := show va_up s2.1 16 (nI (a2 + 1)) 16 = _ from if_pos rfl
      have x2 : sEx LN s (mSet s2 16 (nI (a2 + 1))) := hx.trans (mSet_ex (by decide))
      obtain ⟨r, h1, ev, s3, rfl, y1, y2⟩ := ih V (d + 1) (a2 + 1) (mSet s2 16 (nI (a2 + 1))) (by omega) (by omega) hV4 (hS.ex x2) q16 (by omega) ⟨hw.1, hw.2.1, hw.2.2.1, hw.2.2.2⟩
      have rk : iRank mX9_node [.ref x, .int (nI (d + 1))] < 3 + (45 - d) := by
        rw [rkn (by omega)]
        omega
      rw [rd_comma c1.1 c1.2 (by omega)] at hr
      rcases y2 with ⟨rfl, a3, V3, z1, z2, z3, z4, z5, z6⟩ | ⟨rfl, u, z1, z2, z3⟩
      · simp only [X9_node_194, X9_node_197, X9_node_198, X9_node_200 i1 mH_obj (rk3 h3 rfl), X9_node_203, X9_node_206, X9_node_207, X9_node_208, X9_node_209, X9_node_210 ev mH_obj rk, X9_node_213, X9_node_215, iOb_some, iClr_i, iClr_r, iClr_n, iClr_u, iClr_l, rf_s, rf_n, iB_0, iSum_nil, if_neg n10, nI_1]
        exact ihg V3 a3 s3 (by omega) (by omega) z4 (x2.trans y1) z1 z2 z3 (hr.trans z6)
      · simp only [X9_node_194, X9_node_197, X9_node_198, X9_node_200 i1 mH_obj (rk3 h3 rfl), X9_node_203, X9_node_206, X9_node_207, X9_node_208, X9_node_209, X9_node_210 ev mH_obj rk, X9_node_213, X9_node_215, iOb_some, iClr_i, iClr_r, iClr_n, iClr_u, iClr_l, rf_s, rf_n, iB_0, iSum_nil, if_neg n10, nI_1]
        rw [X9_node_192]
        simp only [X9_node_194, X9_node_197, X9_node_198, X9_node_203, X9_node_206, X9_node_207, X9_node_208, X9_node_209, X9_node_213, X9_node_215, X9_node_218, X9_node_220, X9_node_223, X9_node_224, X9_node_229, X9_node_232, X9_node_233, X9_node_236, X9_node_237, X9_node_237z, X9_node_237o, iOb_some, iClr_i, iClr_r, iClr_n, iClr_u, iClr_l, rf_s, rf_n, iB_0, iSum_nil, if_true]
        exact ⟨s3, rfl, x2.trans y1, Or.inr ⟨rfl, u, z1, z2, by rw [hr, z3]⟩⟩
    · have i2 := i2 c1
      by_cases c2 : a2 < L ∧ f a2 = 41
      · have j1 := j1 c2
        have q16 : (mSet s2 16 (nI (a2 + 1))).1 16 = nI (a2 + 1) := show va_up s2.1 16 (nI (a2 + 1)) 16 = _ from if_pos rfl
        rw [rd_close c2.1 c2.2 (by omega)] at hr
        simp only [X9_node_194, X9_node_197, X9_node_198, X9_node_200 i2 mH_obj (rk3 h3 rfl), X9_node_203, X9_node_206, X9_node_207, X9_node_208, X9_node_209, X9_node_213, X9_node_215, X9_node_218, X9_node_220, X9_node_223, X9_node_224, X9_node_226 j1 mH_obj (rk3 h3 rfl), X9_node_229, X9_node_232, X9_node_233, X9_node_236, X9_node_237, X9_node_237z, X9_node_237o, iOb_some, iClr_i, iClr_r, iClr_n, iClr_u, iClr_l, rf_s, rf_n, iB_0, iSum_nil, if_neg n10, if_true]
        exact ⟨_, rfl, hx.trans (mSet_ex (by decide)), Or.inl ⟨rfl, a2 + 1, V, q16, by omega, ⟨hw.1, hw.2.1, hw.2.2.1, hw.2.2.2⟩, hV4, hV, hr⟩⟩
      · have j2 := j2 c2
        rw [rd_else ha2 c1 c2 (by omega)] at hr
        simp only [X9_node_194, X9_node_197, X9_node_198, X9_node_200 i2 mH_obj (rk3 h3 rfl), X9_node_203, X9_node_206, X9_node_207, X9_node_208, X9_node_209, X9_node_213, X9_node_215, X9_node_218, X9_node_220, X9_node_223, X9_node_224, X9_node_226 j2 mH_obj (rk3 h3 rfl), X9_node_229, X9_node_232, X9_node_233, X9_node_236, X9_node_237, X9_node_237z, X9_node_237o, iOb_some, iClr_i, iClr_r, iClr_n, iClr_u, iClr_l, rf_s, rf_n, iB_0, iSum_nil, if_neg n10, if_true]
        exact ⟨s2, rfl, hx, Or.inr ⟨rfl, a2, h16, ha2, by rw [hr]⟩⟩
theorem ev9_node (hi : i < 8) (hL : L ≤ 160) : ∀ e, ndG b x f i L e := by
  intro e
  induction e with
  | zero =>
    intro T d a s hT hd hT4 hS h16 haL hw
    have hn : T.1 = 40 := by omega
    refine I9_node ?_
    rw [rkn (by omega)]
    have h3 : 3 ≤ 3 + (45 - d) := by omega
    have es := ev9_sign (b := b) (x := x) hS hi hL h16 haL
    have hr : rdN f L a d T = .inl a := if_neg (fun z => by have := z.2.2.2; omega)
    have n18 : s.1 18 = 40 := by
      rw [hw.1, hn]
      rfl
    have ew := ev9_within (sg f L a) 97 122 (h := mH b x s)
    cases hb : (decide (97 ≤ sg f L a) && decide (sg f L a ≤ 122)) with
    | false =>
      rw [hb, show iB false = 0 from rfl] at ew
      simp only [X9_node_0, X9_node_1 es mH_obj (rk3 h3 rfl), X9_node_4, X9_node_6, X9_node_8 ew (rk3 h3 rfl), X9_node_11, X9_node_14, X9_node_15, X9_node_18, X9_node_20, X9_node_23, X9_node_24, X9_node_24z, X9_node_24o, iOb_some, iClr_i, iClr_r, iClr_n, iClr_u, iClr_l, rf_s, rf_n, iB_0, iSum_nil, if_true]
      exact ndQ_bad hr haL haL sEx.refl h16
    | true =>
      rw [hb, show iB true = 1 from rfl] at ew
      simp only [X9_node_0, X9_node_1 es mH_obj (rk3 h3 rfl), X9_node_4, X9_node_6, X9_node_8 ew (rk3 h3 rfl), X9_node_11, X9_node_14, X9_node_15, X9_node_18, X9_node_20, X9_node_23, X9_node_24, X9_node_24z, X9_node_24o, iOb_some, iClr_i, iClr_r, iClr_n, iClr_u, iClr_l, rf_s, rf_n, iB_0, iSum_nil, if_neg (show ¬ (1 : Int32) = 0 by decide), mg18, n18, if_true]
      exact ndQ_bad hr haL haL sEx.refl h16
  | succ e ih =>
    intro T d a s hT hd hT4 hS h16 haL hw
    refine I9_node ?_
    rw [rkn (by omega)]
    have h3 : 3 ≤ 3 + (45 - d) := by omega
    have es := ev9_sign (b := b) (x := x) hS hi hL h16 haL
    have ew := ev9_within (sg f L a) 97 122 (h := mH b x s)
    have n10 : ¬ (1 : Int32) = 0 := by decide
    by_cases cL : a < L ∧ 97 ≤ f a ∧ f a ≤ 122
    · have hsg : sg f L a = f a := if_pos cL.1
      rw [hsg] at es ew
      rw [decide_eq_true cL.2.1, decide_eq_true cL.2.2, show iB (true && true) = 1 from rfl] at ew
      by_cases cn : T.1 < 40
      · have n18 : ¬ nI T.1 = 40 := fun z => by
          have := (nI_leI (a := 40) (b := T.1) (by decide) (by omega)).mp (show (40 : Int32) ≤ nI T.1 by rw [z]; exact Int32.le_refl _)
          omega
        have x1 : sEx LN s (mSet s 16 (nI (a + 1))) := mSet_ex (by decide)
        have q1 : (mSet s 16 (nI (a + 1))).1 16 = nI (a + 1) := show va_up s.1 16 (nI (a + 1)) 16 = _ from if_pos rfl
        have w1 : wIs (mSet s 16 (nI (a + 1))) T := ⟨hw.1, hw.2.1, hw.2.2.1, hw.2.2.2⟩
        have S1 := hS.ex x1
        have d1 := ev9_isDigit (b := b) (x := x) S1 hi hL q1 (by omega)
        have g1 := ev9_sign (b := b) (x := x) S1 hi hL q1 (by omega)
        have e0 : nI (a + 1) - nI (a + 1) = 0 := by rw [Int32.sub_self]
        -- what comes of a NODE
        have fin : ∀ s2 V a' (lb ky : Int32), sEx LN s s2 → wIs s2 V → rdN f L a d T = .inr (a', V) → s2.1 16 = nI a' → V.1 = T.1 + 1 → iWp (3 + (45 - d)) mX9_node 172 [.ref x, .int (nI d), .int lb, .int (nI (a + 1)), .int ky, iU] [] (mH b x s2) (ndQ b x s f L a d T) := by
          intro s2 V a' lb ky x2 w2 hr q2 hV
          have hrd := rd_node hr
          have hrL := (rdN_r hr).2.1
          have hrL : a' ≤ L := hrL
          have hrd : rd f L a d 0 T = rd f L a' d 1 V := hrd
          obtain ⟨i1, i2⟩ := ev9_is (b := b) (x := x) (hS.ex x2) hi hL q2 hrL (v := 40) (by decide)
          by_cases c1 : a' < L ∧ f a' = 40
          · have i1 := i1 c1
            have q16 : (mSet s2 16 (nI (a' + 1))).1 16 = nI (a' + 1) := show va_up s2.1 16 (nI (a' + 1)) 16 = _ from if_pos rfl
            have x3 : sEx LN s (mSet s2 16 (nI (a' + 1))) := x2.trans (mSet_ex (by decide))
            obtain ⟨r, h1, ev, s3, rfl, y1, y2⟩ := ih V (d + 1) (a' + 1) (mSet s2 16 (nI (a' + 1))) (by omega) (by omega) (by omega) (hS.ex x3) q16 (by omega) ⟨w2.1, w2.2.1, w2.2.2.1, w2.2.2.2⟩
            have rk : iRank mX9_node [.ref x, .int (nI (d + 1))] < 3 + (45 - d) := by
              rw [rkn (by omega)]
              omega
            rw [rd_open c1.1 c1.2] at hrd
            rcases y2 with ⟨rfl, a3, V3, z1, z2, z3, z4, z5, z6⟩ | ⟨rfl, u, z1, z2, z3⟩
            · simp only [X9_node_172, X9_node_173, X9_node_175 i1 mH_obj (rk3 h3 rfl), X9_node_178, X9_node_181, X9_node_182, X9_node_182z, X9_node_182o, X9_node_183, X9_node_184, X9_node_185, X9_node_186, X9_node_187 ev mH_obj rk, X9_node_190, iOb_some, iClr_i, iClr_r, iClr_n, iClr_u, iClr_l, rf_s, rf_n, iB_0, iSum_nil, if_neg n10, nI_1]
              exact node_rest hi hL ih hS hd hT hT4 41 V3 a3 s3 (by omega) (by omega) z4 (x3.trans y1) z1 z2 z3 (hrd.trans z6)
            · simp only [X9_node_172, X9_node_173, X9_node_175 i1 mH_obj (rk3 h3 rfl), X9_node_178, X9_node_181, X9_node_182, X9_node_182z, X9_node_182o, X9_node_183, X9_node_184, X9_node_185, X9_node_186, X9_node_187 ev mH_obj rk, X9_node_190, iOb_some, iClr_i, iClr_r, iClr_n, iClr_u, iClr_l, rf_s, rf_n, iB_0, iSum_nil, if_neg n10, nI_1]
              rw [X9_node_192]
              simp only [X9_node_194, X9_node_197, X9_node_198, X9_node_203, X9_node_206, X9_node_207, X9_node_208, X9_node_209, X9_node_213, X9_node_215, X9_node_218, X9_node_220, X9_node_223, X9_node_224, X9_node_229, X9_node_232, X9_node_233, X9_node_236, X9_node_237, X9_node_237z, X9_node_237o, iOb_some, iClr_i, iClr_r, iClr_n, iClr_u, iClr_l, rf_s, rf_n, iB_0, iSum_nil, if_true]
              exact ⟨s3, rfl, x3.trans y1, Or.inr ⟨rfl, u, z1, z2, by rw [hrd, z3]⟩⟩
          · have i2 := i2 c1
            rw [rd_12 c1] at hrd
            simp only [X9_node_172, X9_node_173, X9_node_175 i2 mH_obj (rk3 h3 rfl), X9_node_178, X9_node_181, X9_node_182, X9_node_182z, X9_node_182o, iOb_some, iClr_i, iClr_r, iClr_n, iClr_u, iClr_l, rf_s, rf_n, iB_0, iSum_nil, if_true]
            exact ⟨s2, rfl, x2, Or.inl ⟨rfl, a', V, q2, hrL, w2, by omega, by omega, hrd⟩⟩
        cases b1 : dg f L (a + 1) with
        | false =>
          rw [b1, show iB false = 0 from rfl] at d1
          have hr : rdN f L a d T = .inl (a + 1) := by
            unfold rdN
            rw [if_pos ⟨cL.1, cL.2.1, cL.2.2, cn⟩, if_neg (by rw [b1]; decide)]
          simp only [X9_node_0, X9_node_1 es mH_obj (rk3 h3 rfl), X9_node_4, X9_node_6, X9_node_8 ew (rk3 h3 rfl), X9_node_11, X9_node_14, X9_node_15, X9_node_18, X9_node_20, X9_node_23, X9_node_24, X9_node_24z, X9_node_24o, X9_node_25, X9_node_26 es mH_obj (rk3 h3 rfl), X9_node_29, X9_node_30, X9_node_31, X9_node_32, X9_node_35, X9_node_36, X9_node_37, X9_node_40, X9_node_41, X9_node_44, X9_node_45, X9_node_46, iOb_some, iClr_i, iClr_r, iClr_n, iClr_u, iClr_l, rf_s, rf_n, iB_0, iSum_nil, if_neg n10, mg18, hw.1, n18, mg16, h16, mp16, nI_1, q1]
          simp only [X9_node_48, X9_node_49, X9_node_52, X9_node_53, X9_node_54, X9_node_55, X9_node_58, X9_node_59 d1 mH_obj (rk3 h3 rfl), X9_node_62, X9_node_65, X9_node_67, X9_node_69, X9_node_70, X9_node_74, X9_node_75, X9_node_77, X9_node_78, X9_node_80, X9_node_81, X9_node_82, X9_node_85, X9_node_86, X9_node_87, X9_node_90, X9_node_93, X9_node_94, X9_node_97, X9_node_98, X9_node_101, X9_node_102, X9_node_102z, X9_node_102o, iOb_some, iClr_i, iClr_r, iClr_n, iClr_u, iClr_l, rf_s, rf_n, iB_0, iSum_nil, mg16, q1, e0, if_neg (show ¬ (2 : Int32) ≤ 0 by decide), if_true]
          exact ndQ_bad hr haL (by omega) x1 q1
        | true =>
          rw [b1, show iB true = 1 from rfl] at d1
          obtain ⟨l1, -, -⟩ := of_decide_eq_true b1
          rw [show sg f L (a + 1) = f (a + 1) from if_pos l1] at g1
          have x2 : sEx LN s (mSet (mSet s 16 (nI (a + 1))) 16 (nI (a + 1 + 1))) := x1.trans (mSet_ex (by decide))
          have q2 : (mSet (mSet s 16 (nI (a + 1))) 16 (nI (a + 1 + 1))).1 16 = nI (a + 1 + 1) := show va_up (mSet s 16 (nI (a + 1))).1 16 (nI (a + 1 + 1)) 16 = _ from if_pos rfl
          have w2 : wIs (mSet (mSet s 16 (nI (a + 1))) 16 (nI (a + 1 + 1))) T := ⟨hw.1, hw.2.1, hw.2.2.1, hw.2.2.2⟩
          have S2 := hS.ex x2
          have d2 := ev9_isDigit (b := b) (x := x) S2 hi hL q2 (by omega)
          have g2 := ev9_sign (b := b) (x := x) S2 hi hL q2 (by omega)
          have e1 : nI (a + 1 + 1) - nI (a + 1) = 1 := by
            rw [pk_sub (by omega), show a + 1 + 1 - (a + 1) = 1 by omega]
            rfl
          have ne2 : ¬ nI (a + 1 + 1) = nI (a + 1) := fun z => by
            have := (nI_leI (a := a + 1 + 1) (b := a + 1) (by omega) (by omega)).mp (by rw [z]; exact Int32.le_refl _)
            omega
          simp only [X9_node_0, X9_node_1 es mH_obj (rk3 h3 rfl), X9_node_4, X9_node_6, X9_node_8 ew (rk3 h3 rfl), X9_node_11, X9_node_14, X9_node_15, X9_node_18, X9_node_20, X9_node_23, X9_node_24, X9_node_24z, X9_node_24o, X9_node_25, X9_node_26 es mH_obj (rk3 h3 rfl), X9_node_29, X9_node_30, X9_node_31, X9_node_32, X9_node_35, X9_node_36, X9_node_37, X9_node_40, X9_node_41, X9_node_44, X9_node_45, X9_node_46, iOb_some, iClr_i, iClr_r, iClr_n, iClr_u, iClr_l, rf_s, rf_n, iB_0, iSum_nil, if_neg n10, mg18, hw.1, n18, mg16, h16, mp16, nI_1, q1]
          simp only [X9_node_48, X9_node_49, X9_node_52, X9_node_53, X9_node_54, X9_node_55, X9_node_58, X9_node_59 d1 mH_obj (rk3 h3 rfl), X9_node_62, X9_node_65, X9_node_67, X9_node_69, X9_node_70, X9_node_71 g1 mH_obj (rk3 h3 rfl), X9_node_74, X9_node_75, X9_node_77, X9_node_78, X9_node_80, X9_node_81, X9_node_82, X9_node_85, X9_node_86, X9_node_87, X9_node_90, iOb_some, iClr_i, iClr_r, iClr_n, iClr_u, iClr_l, rf_s, rf_n, iB_0, iSum_nil, mg16, q1, e0, if_neg (show ¬ (2 : Int32) ≤ 0 by decide), if_neg n10, i_k0, mp16, nI_1]
          cases b2 : dg f L (a + 1 + 1) with
          | false =>
            rw [b2, show iB false = 0 from rfl] at d2
            have hr : rdN f L a d T = rdK f a d T (f (a + 1) - 48) (a + 1 + 1) := by
              unfold rdN
              rw [if_pos ⟨cL.1, cL.2.1, cL.2.2, cn⟩, if_pos b1, if_neg (show ¬ dg f L (a + 2) = true from by rw [show a + 2 = a + 1 + 1 from rfl, b2]; decide)]
            simp only [X9_node_48, X9_node_49, X9_node_52, X9_node_53, X9_node_54, X9_node_55, X9_node_58, X9_node_59 d2 mH_obj (rk3 h3 rfl), X9_node_62, X9_node_65, X9_node_67, X9_node_69, X9_node_70, X9_node_74, X9_node_75, X9_node_77, X9_node_78, X9_node_80, X9_node_81, X9_node_82, X9_node_85, X9_node_86, X9_node_87, X9_node_90, X9_node_93, X9_node_94, X9_node_97, X9_node_98, iOb_some, iClr_i, iClr_r, iClr_n, iClr_u, iClr_l, rf_s, rf_n, iB_0, iSum_nil, mg16, q2, e1, if_neg (show ¬ (2 : Int32) ≤ 1 by decide), if_true, if_neg ne2]
            exact node_key h3 S2 hi hL w2 cn x2 q2 (by omega) (by omega) haL hr rfl (fun s3 V y1 y2 y3 y4 y5 => fin s3 V _ _ _ y1 y2 y3 y4 y5)
          | true =>
            rw [b2, show iB true = 1 from rfl] at d2
            obtain ⟨l2, -, -⟩ := of_decide_eq_true b2
            rw [show sg f L (a + 1 + 1) = f (a + 1 + 1) from if_pos l2] at g2
            have x3 : sEx LN s (mSet (mSet (mSet s 16 (nI (a + 1))) 16 (nI (a + 1 + 1))) 16 (nI (a + 1 + 1 + 1))) := x2.trans (mSet_ex (by decide))
            have q3 : (mSet (mSet (mSet s 16 (nI (a + 1))) 16 (nI (a + 1 + 1))) 16 (nI (a + 1 + 1 + 1))).1 16 = nI (a + 1 + 1 + 1) := show va_up (mSet (mSet s 16 (nI (a + 1))) 16 (nI (a + 1 + 1))).1 16 (nI (a + 1 + 1 + 1)) 16 = _ from if_pos rfl
            have w3 : wIs (mSet (mSet (mSet s 16 (nI (a + 1))) 16 (nI (a + 1 + 1))) 16 (nI (a + 1 + 1 + 1))) T := ⟨hw.1, hw.2.1, hw.2.2.1, hw.2.2.2⟩
            have e2 : nI (a + 1 + 1 + 1) - nI (a + 1) = 2 := by
              rw [pk_sub (by omega), show a + 1 + 1 + 1 - (a + 1) = 2 by omega]
              rfl
            have ne3 : ¬ nI (a + 1 + 1 + 1) = nI (a + 1) := fun z => by
              have := (nI_leI (a := a + 1 + 1 + 1) (b := a + 1) (by omega) (by omega)).mp (by rw [z]; exact Int32.le_refl _)
              omega
            have hr : rdN f L a d T = rdK f a d T (10 * (f (a + 1) - 48) + f (a + 1 + 1) - 48) (a + 1 + 1 + 1) := by
              unfold rdN
              rw [if_pos ⟨cL.1, cL.2.1, cL.2.2, cn⟩, if_pos b1, if_pos (show dg f L (a + 2) = true from b2)]
            simp only [X9_node_48, X9_node_49, X9_node_52, X9_node_53, X9_node_54, X9_node_55, X9_node_58, X9_node_59 d2 mH_obj (rk3 h3 rfl), X9_node_62, X9_node_65, X9_node_67, X9_node_69, X9_node_70, X9_node_71 g2 mH_obj (rk3 h3 rfl), X9_node_74, X9_node_75, X9_node_77, X9_node_78, X9_node_80, X9_node_81, X9_node_82, X9_node_85, X9_node_86, X9_node_87, X9_node_90, iOb_some, iClr_i, iClr_r, iClr_n, iClr_u, iClr_l, rf_s, rf_n, iB_0, iSum_nil, mg16, q2, e1, if_neg (show ¬ (2 : Int32) ≤ 1 by decide), if_neg n10, mp16, nI_1]
            simp only [X9_node_48, X9_node_49, X9_node_52, X9_node_53, X9_node_54, X9_node_55, X9_node_58, X9_node_62, X9_node_65, X9_node_67, X9_node_69, X9_node_70, X9_node_74, X9_node_75, X9_node_77, X9_node_78, X9_node_80, X9_node_81, X9_node_82, X9_node_85, X9_node_86, X9_node_87, X9_node_90, X9_node_93, X9_node_94, X9_node_97, X9_node_98, iOb_some, iClr_i, iClr_r, iClr_n, iClr_u, iClr_l, rf_s, rf_n, iB_0, iSum_nil, mg16, q3, e2, if_pos (show (2 : Int32) ≤ 2 by decide), if_neg ne3]
            exact node_key h3 (hS.ex x3) hi hL w3 cn x3 q3 (by omega) (by omega) haL hr rfl (fun s3 V y1 y2 y3 y4 y5 => fin s3 V _ _ _ y1 y2 y3 y4 y5)
      · have hn : T.1 = 40 := by omega
        have hr : rdN f L a d T = .inl a := if_neg (fun z => cn z.2.2.2)
        have n18 : s.1 18 = 40 := by
          rw [hw.1, hn]
          rfl
        simp only [X9_node_0, X9_node_1 es mH_obj (rk3 h3 rfl), X9_node_4, X9_node_6, X9_node_8 ew (rk3 h3 rfl), X9_node_11, X9_node_14, X9_node_15, X9_node_18, X9_node_20, X9_node_23, X9_node_24, X9_node_24z, X9_node_24o, iOb_some, iClr_i, iClr_r, iClr_n, iClr_u, iClr_l, rf_s, rf_n, iB_0, iSum_nil, if_neg n10, mg18, n18, if_true]
        exact ndQ_bad hr haL haL sEx.refl h16
    · have hr : rdN f L a d T = .inl a := if_neg (fun z => cL ⟨z.1, z.2.1, z.2.2.1⟩)
      have hb : (decide (97 ≤ sg f L a) && decide (sg f L a ≤ 122)) = false := by
        rw [← Bool.decide_and]
        refine decide_eq_false (fun z => ?_)
        unfold sg at z
        by_cases c : a < L
        · rw [if_pos c] at z
          exact cL ⟨c, z⟩
        · rw [if_neg c] at z
          exact absurd z.1 (by decide)
      rw [hb, show iB false = 0 from rfl] at ew
      simp only [X9_node_0, X9_node_1 es mH_obj (rk3 h3 rfl), X9_node_4, X9_node_6, X9_node_8 ew (rk3 h3 rfl), X9_node_11, X9_node_14, X9_node_15, X9_node_18, X9_node_20, X9_node_23, X9_node_24, X9_node_24z, X9_node_24o, iOb_some, iClr_i, iClr_r, iClr_n, iClr_u, iClr_l, rf_s, rf_n, iB_0, iSum_nil, if_true]
      exact ndQ_bad hr haL haL sEx.refl h16
end NODE9

/-! the reference: edits made, a new patch -/
section NEWP
variable {h h' : iHp} {i j k x m q t p n c : Nat} {W : wW} {b : iHp} {s s0 s1 s' : mS} {w : sT} {G : Nat → Nat → Int32} {C : Nat → Int32} {e : Nat → Int32} {so sr : Int32}
theorem mPut_nm {y : Int32} : (mPut s k j y).1 = s.1 := rfl
theorem mSet_ar {y : Int32} : (mSet s k y).2 = s.2 := rfl
/-- what is made so far -/
def mMd (s : mS) (n : Nat) (G : Nat → Nat → Int32) : Prop := s.1 25 = nI n ∧ ∀ i k, i < n → k < 7 → s.2.1 26 (7 * i + k) = G i k
theorem mMd.ex {L : List Nat} (h : mMd s n G) (hx : sEx L s s') (h1 : 25 ∉ L) (h2 : 26 ∉ L) : mMd s' n G := ⟨(hx.1 25 h1).trans h.1, fun i k hi hk => (congrFun (hx.2.1 26 h2) _).trans (h.2 i k hi hk)⟩
theorem ev9_makes (hM : mMd s n G) (hn : n < 199) (e : Nat → Int32) : ∃ s', iEv mX9_makes [.ref x, .int (e 0), .int (e 1), .int (e 2), .int (e 3), .int (e 4), .int (e 5), .int (e 6)] (mH b x s) none (mH b x s') ∧ mMd s' (n + 1) (va_up G n e) ∧ sEx [25, 26] s s' := by
  have z : iWp 1 mX9_makes 0 [.ref x, .int (e 0), .int (e 1), .int (e 2), .int (e 3), .int (e 4), .int (e 5), .int (e 6), iU] [] (mH b x s) (fun r h1 => r = none ∧ ∃ s', h1 = mH b x s' ∧ mMd s' (n + 1) (va_up G n e) ∧ sEx [25, 26] s s') := by
    have a1 : nI (7 * n) + 1 = nI (7 * n + 1) := nI_1 _
    have a2 : nI (7 * n) + 2 = nI (7 * n + 2) := nI_add _ 2
    have a3 : nI (7 * n) + 3 = nI (7 * n + 3) := nI_add _ 3
    have a4 : nI (7 * n) + 4 = nI (7 * n + 4) := nI_add _ 4
    have a5 : nI (7 * n) + 5 = nI (7 * n + 5) := nI_add _ 5
    have a6 : nI (7 * n) + 6 = nI (7 * n + 6) := nI_add _ 6
    simp only [X9_makes_0, X9_makes_2, X9_makes_3, X9_makes_6, X9_makes_7, X9_makes_9, X9_makes_10, X9_makes_13, X9_makes_15, X9_makes_16, X9_makes_17, X9_makes_18, X9_makes_21, X9_makes_23, X9_makes_24, X9_makes_25, X9_makes_26, X9_makes_27, X9_makes_28, X9_makes_31, X9_makes_33, X9_makes_34, X9_makes_35, X9_makes_36, X9_makes_37, X9_makes_38, X9_makes_41, X9_makes_43, X9_makes_44, X9_makes_45, X9_makes_47, X9_makes_48, X9_makes_49, X9_makes_52, X9_makes_54, X9_makes_55, X9_makes_56, X9_makes_58, X9_makes_59, X9_makes_60, X9_makes_63, X9_makes_65, X9_makes_66, X9_makes_67, X9_makes_69, X9_makes_70, X9_makes_71, X9_makes_74, X9_makes_76, X9_makes_78, X9_makes_79, X9_makes_81, X9_makes_82, X9_makes_83, X9_makes_84, X9_makes_87, X9_makes_88, X9_makes_89, X9_makes_92, iOb_some, iClr_i, iClr_r, iClr_n, iClr_u, iClr_l, rf_s, rf_n, iB_0, iSum_nil, mg25, hM.1, i7, mg26, ms26 (show 7 * n < 1400 by omega), ms26 (show 7 * n + 1 < 1400 by omega), ms26 (show 7 * n + 2 < 1400 by omega), ms26 (show 7 * n + 3 < 1400 by omega), ms26 (show 7 * n + 4 < 1400 by omega), ms26 (show 7 * n + 5 < 1400 by omega), ms26 (show 7 * n + 6 < 1400 by omega), a1, a2, a3, a4, a5, a6, mp25]
    generalize hs : mPut (mPut (mPut (mPut (mPut (mPut (mPut s 26 (7 * n) (e 0)) 26 (7 * n + 1) (e 1)) 26 (7 * n + 2) (e 2)) 26 (7 * n + 3) (e 3)) 26 (7 * n + 4) (e 4)) 26 (7 * n + 5) (e 5)) 26 (7 * n + 6) (e 6) = s2
    have x2 : sEx [25, 26] s s2 := by
      rw [← hs]
      exact ((((((mPut_ex (by decide)).trans (mPut_ex (by decide))).trans (mPut_ex (by decide))).trans (mPut_ex (by decide))).trans (mPut_ex (by decide))).trans (mPut_ex (by decide))).trans (mPut_ex (by decide))
    have n2 : s2.1 25 = nI n := by
      rw [← hs]
      exact hM.1
    have v2 : ∀ q, s2.2.1 26 q = if q = 7 * n + 6 then e 6 else if q = 7 * n + 5 then e 5 else if q = 7 * n + 4 then e 4 else if q = 7 * n + 3 then e 3 else if q = 7 * n + 2 then e 2 else if q = 7 * n + 1 then e 1 else if q = 7 * n then e 0 else s.2.1 26 q := by
      intro q
      rw [← hs]
      simp only [mPut_at, if_true]
    refine ⟨trivial, _, rfl, ⟨(congrArg (fun z => z + 1) n2).trans (nI_1 n), fun i k hi hk => ?_⟩, x2.trans (mSet_ex (by decide))⟩
    · show s2.2.1 26 (7 * i + k) = va_up G n e i k
      rw [v2]
      unfold va_up
      by_cases ci : i = n
      · subst ci
        rw [if_pos rfl]
        match k, hk with
        | 0, _ => rw [if_neg (by omega), if_neg (by omega), if_neg (by omega), if_neg (by omega), if_neg (by omega), if_neg (by omega), if_pos (by omega)]
        | 1, _ => rw [if_neg (by omega), if_neg (by omega), if_neg (by omega), if_neg (by omega), if_neg (by omega), if_pos (by omega)]
        | 2, _ => rw [if_neg (by omega), if_neg (by omega), if_neg (by omega), if_neg (by omega), if_pos (by omega)]
        | 3, _ => rw [if_neg (by omega), if_neg (by omega), if_neg (by omega), if_pos (by omega)]
        | 4, _ => rw [if_neg (by omega), if_neg (by omega), if_pos (by omega)]
        | 5, _ => rw [if_neg (by omega), if_pos (by omega)]
        | 6, _ => rw [if_pos (by omega)]
      · rw [if_neg ci, if_neg (by omega), if_neg (by omega), if_neg (by omega), if_neg (by omega), if_neg (by omega), if_neg (by omega), if_neg (by omega)]
        exact hM.2 i k (by omega) hk
  obtain ⟨r, h1, ev, rfl, s', rfl, g⟩ := I9_makes z
  exact ⟨s', ev, g⟩
/-- copying an array's start to a place in another one -/
def pInv (s0 s1 : mS) (d e base r : Nat) : Prop := sEx [d] s0 s1 ∧ (∀ q, ¬ (base ≤ q ∧ q < base + r) → s1.2.1 d q = s0.2.1 d q) ∧ ∀ j, j < r → s1.2.1 d (base + j) = s0.2.1 e j
theorem pInv_0 {d e base : Nat} : pInv s0 s0 d e base 0 := ⟨sEx.refl, fun _ _ => rfl, fun j hj => by omega⟩
theorem pInv_s {d e base r : Nat} (hde : e ≠ d) (hI : pInv s0 s1 d e base r) : pInv s0 (mPut s1 d (base + r) (s1.2.1 e r)) d e base (r + 1) := by
  obtain ⟨h1, h2, h3⟩ := hI
  have he : s1.2.1 e r = s0.2.1 e r := congrFun (h1.2.1 e (by simpa using hde)) r
  refine ⟨h1.trans (mPut_ex (by simp)), fun q hq => ?_, fun j hj => ?_⟩
  · rw [mPut_at, if_pos rfl, if_neg (by omega)]
    exact h2 q (by omega)
  · rw [mPut_at, if_pos rfl]
    by_cases cj : j = r
    · rw [if_pos (by omega), cj, he]
    · rw [if_neg (by omega)]
      exact h3 j (by omega)
theorem newp_loop1 (hp : p < 16) (hn : n ≤ 120) (hm : s0.1 25 = nI n) (a1 a2 : Int32) {Q : Option Value → iHp → Prop} (hQ : ∀ s1, pInv s0 s1 8 26 (840 * p) (7 * n) → iWp 2 mX9_newPatch 153 [.ref x, .int a1, .int a2, .int (nI p), .int (nI (7 * n))] [] (mH b x s1) Q) : ∀ k r s1, r + k = 7 * n → pInv s0 s1 8 26 (840 * p) r → iWp 2 mX9_newPatch 115 [.ref x, .int a1, .int a2, .int (nI p), .int (nI r)] [] (mH b x s1) Q := by
  intro k
  induction k with
  | zero =>
    intro r s1 hr hI
    obtain rfl : r = 7 * n := by omega
    have e5 : s1.1 25 = nI n := (hI.1.1 25 (by decide)).trans hm
    rw [X9_newPatch_115]
    simp only [X9_newPatch_117, X9_newPatch_119, X9_newPatch_120, X9_newPatch_123, X9_newPatch_124, X9_newPatch_127, X9_newPatch_128, X9_newPatch_131, X9_newPatch_134, X9_newPatch_135, X9_newPatch_136, X9_newPatch_138, X9_newPatch_139, X9_newPatch_140, X9_newPatch_143, X9_newPatch_145, X9_newPatch_146, X9_newPatch_147, X9_newPatch_150, iOb_some, iClr_i, iClr_r, iClr_n, iClr_u, iClr_l, rf_s, rf_n, iB_0, iSum_nil, mg25, e5, i7, if_pos (Int32.le_refl (nI (7 * n)))]
    exact hQ s1 hI
  | succ k ih =>
    intro r s1 hr hI
    have e5 : s1.1 25 = nI n := (hI.1.1 25 (by decide)).trans hm
    rw [X9_newPatch_115]
    simp only [X9_newPatch_117, X9_newPatch_119, X9_newPatch_120, X9_newPatch_123, X9_newPatch_124, X9_newPatch_127, X9_newPatch_128, X9_newPatch_131, X9_newPatch_134, X9_newPatch_135, X9_newPatch_136, X9_newPatch_138, X9_newPatch_139, X9_newPatch_140, X9_newPatch_143, X9_newPatch_145, X9_newPatch_146, X9_newPatch_147, X9_newPatch_150, iOb_some, iClr_i, iClr_r, iClr_n, iClr_u, iClr_l, rf_s, rf_n, iB_0, iSum_nil, mg25, e5, i7, if_neg (nI_ge (show r < 7 * n by omega) (show 7 * n < 2 ^ 31 by omega)), mg8, mg26, i840, ml26 (show r < 1400 by omega), ms8 (show 840 * p + r < 13440 by omega), nI_1]
    exact ih (r + 1) _ (by omega) (pInv_s (by decide) hI)
theorem newp_loop2 (hp : p < 16) (hc : c ≤ 120) (hm : s0.2.1 7 (64 + p) = nI c) (a1 a2 : Int32) {Q : Option Value → iHp → Prop} (hQ : ∀ s1, pInv s0 s1 9 28 (240 * p) (2 * c) → Q (some (.int (nI p))) (mH b x s1)) : ∀ k r s1, r + k = 2 * c → pInv s0 s1 9 28 (240 * p) r → iWp 2 mX9_newPatch 156 [.ref x, .int a1, .int a2, .int (nI p), .int (nI r)] [] (mH b x s1) Q := by
  have e2 : 2 * nI c = nI (2 * c) := by rw [show (2 : Int32) = nI 2 from rfl, pk_mul]
  intro k
  induction k with
  | zero =>
    intro r s1 hr hI
    obtain rfl : r = 2 * c := by omega
    have eo := ev9_of (b := b) (x := x) (s := s1) (w := 4) (by decide) hp
    rw [show 16 * 4 + p = 64 + p by omega, (congrFun (hI.1.2.1 7 (by decide)) (64 + p)).trans hm, show nI 4 = (4 : Int32) from rfl] at eo
    rw [X9_newPatch_156]
    simp only [X9_newPatch_158, X9_newPatch_159, X9_newPatch_160, X9_newPatch_161, X9_newPatch_162 eo mH_obj, X9_newPatch_165, X9_newPatch_166, X9_newPatch_169, X9_newPatch_170, X9_newPatch_173, X9_newPatch_176, X9_newPatch_177, X9_newPatch_178, X9_newPatch_180, X9_newPatch_181, X9_newPatch_182, X9_newPatch_185, X9_newPatch_187, X9_newPatch_188, X9_newPatch_189, X9_newPatch_192, X9_newPatch_195, X9_newPatch_196, iOb_some, iClr_i, iClr_r, iClr_n, iClr_u, iClr_l, rf_s, rf_n, iB_0, iSum_nil, e2, if_pos (Int32.le_refl (nI (2 * c)))]
    exact hQ s1 hI
  | succ k ih =>
    intro r s1 hr hI
    have eo := ev9_of (b := b) (x := x) (s := s1) (w := 4) (by decide) hp
    rw [show 16 * 4 + p = 64 + p by omega, (congrFun (hI.1.2.1 7 (by decide)) (64 + p)).trans hm, show nI 4 = (4 : Int32) from rfl] at eo
    rw [X9_newPatch_156]
    simp only [X9_newPatch_158, X9_newPatch_159, X9_newPatch_160, X9_newPatch_161, X9_newPatch_162 eo mH_obj, X9_newPatch_165, X9_newPatch_166, X9_newPatch_169, X9_newPatch_170, X9_newPatch_173, X9_newPatch_176, X9_newPatch_177, X9_newPatch_178, X9_newPatch_180, X9_newPatch_181, X9_newPatch_182, X9_newPatch_185, X9_newPatch_187, X9_newPatch_188, X9_newPatch_189, X9_newPatch_192, iOb_some, iClr_i, iClr_r, iClr_n, iClr_u, iClr_l, rf_s, rf_n, iB_0, iSum_nil, e2, if_neg (nI_ge (show r < 2 * c by omega) (show 2 * c < 2 ^ 31 by omega)), mg9, mg28, i240, ml28 (show r < 240 by omega), ms9 (show 240 * p + r < 3840 by omega), nI_1]
    exact ih (r + 1) _ (by omega) (pInv_s (by decide) hI)
theorem ev9_newPatch (hR : mRel s W) (hW : wOk W) (hM : mMd s n G) (hn : n ≤ 199) (hc : c ≤ 120) (h3 : so = 3 → s.1 27 = nI c ∧ ∀ j, j < 2 * c → s.2.1 28 j = C j) (hn3 : so ≠ 3 → c = 0) : ∃ h1, iEv mX9_newPatch [.ref x, .int so, .int sr] (mH b x s) (some (.int (aNew W n c so sr G C).1)) h1 ∧ ∃ s', h1 = mH b x s' ∧ mRel s' (aNew W n c so sr G C).2 := by
  have z : iWp 2 mX9_newPatch 0 [.ref x, .int so, .int sr, iU, iU] [] (mH b x s) (m9P b x (aNew W n c so sr G C)) := by
    have p16 := hW.1.2.1
    unfold aNew
    by_cases c2 : 16 ≤ W.1.2.2.1
    · rw [if_pos (Or.inr c2)]
      have e : W.1.2.2.1 = 16 := by omega
      simp only [X9_newPatch_0, X9_newPatch_1, X9_newPatch_4, X9_newPatch_6, X9_newPatch_9, X9_newPatch_10, X9_newPatch_13, X9_newPatch_15, X9_newPatch_18, X9_newPatch_19, X9_newPatch_21 (ev9_noV (v := -7) (r := 7) (by decide) rfl) mH_obj, X9_newPatch_24, iOb_some, iClr_i, iClr_r, iClr_n, iClr_u, iClr_l, rf_s, rf_n, iB_0, iSum_nil, mg5, hR.1.2.1, e, if_pos (show nI 16 = 16 by decide)]
      exact m9_rf hR (by decide)
    have e2 : ¬ nI W.1.2.2.1 = 16 := fun z => by
      have := (nI_eq (a := W.1.2.2.1) (b := 16) (by omega) (by decide)).mp z
      omega
    by_cases c1 : 120 < n
    · rw [if_pos (Or.inl c1)]
      simp only [X9_newPatch_0, X9_newPatch_1, X9_newPatch_4, X9_newPatch_6, X9_newPatch_9, X9_newPatch_10, X9_newPatch_13, X9_newPatch_15, X9_newPatch_18, X9_newPatch_19, X9_newPatch_21 (ev9_noV (v := -7) (r := 7) (by decide) rfl) mH_obj, X9_newPatch_24, iOb_some, iClr_i, iClr_r, iClr_n, iClr_u, iClr_l, rf_s, rf_n, iB_0, iSum_nil, mg5, hR.1.2.1, if_neg e2, mg25, hM.1, if_neg (show ¬ nI n ≤ 120 from nI_ge (a := 120) (b := n) c1 (by omega))]
      exact m9_rf hR (by decide)
    rw [if_neg (fun z => z.elim c1 c2)]
    generalize hp : W.1.2.2.1 = p at e2 c2
    have b16 : ∀ k, k + p < 80 → nI k + nI p = nI (k + p) := fun k _ => nI_add k p
    have d1 : (16 : Int32) + nI p = nI (16 + p) := nI_add 16 p
    have d2 : (32 : Int32) + nI p = nI (32 + p) := nI_add 32 p
    have d3 : (48 : Int32) + nI p = nI (48 + p) := nI_add 48 p
    have d4 : (64 : Int32) + nI p = nI (64 + p) := nI_add 64 p
    have hpp : s.1 5 = nI p := hR.1.2.1.trans (by rw [hp])
    have e1 : nI n ≤ 120 := nI_le (a := n) (b := 120) (by omega) (by decide)
    have tail : ∀ s2 : mS, s2.1 5 = nI (p + 1) → s2.1 6 = s.1 6 + 1 → (∀ q, q ≠ 5 → q ≠ 6 → s2.1 q = s.1 q) → (∀ q, q ≠ 7 → s2.2.1 q = s.2.1 q) → s2.2.2 = s.2.2 → (∀ q, s2.2.1 7 q = if q = 64 + p then nI c else if q = 48 + p then sr else if q = 32 + p then so else if q = 16 + p then s.1 6 + 1 else if q = p then nI n else s.2.1 7 q) → iWp 2 mX9_newPatch 112 [.ref x, .int so, .int sr, .int (nI p), iU] [] (mH b x s2) (m9P b x (nI p, ((W.1.1, W.1.2.1, p + 1, va_up W.1.2.2.2.1 p (n, c, W.2.2.2.2.2 + 1, so, sr, G, C), W.1.2.2.2.2), W.2.1, W.2.2.1, W.2.2.2.1, W.2.2.2.2.1, W.2.2.2.2.2 + 1))) := by
      intro s2 t1 t2 t3 t4 t5 t6
      simp only [X9_newPatch_112, X9_newPatch_113, iOb_some, iClr_i, iClr_r, iClr_n, iClr_u, iClr_l, rf_s, rf_n, iB_0, iSum_nil]
      refine newp_loop1 (s0 := s2) (n := n) (by omega) (by omega) ((t3 25 (by decide) (by decide)).trans hM.1) so sr (fun s3 I3 => ?_) (7 * n) 0 s2 (by omega) pInv_0
      simp only [X9_newPatch_153, X9_newPatch_154, iOb_some, iClr_i, iClr_r, iClr_n, iClr_u, iClr_l, rf_s, rf_n, iB_0, iSum_nil]
      have t7 : s3.2.1 7 (64 + p) = nI c := (congrFun (I3.1.2.1 7 (by decide)) _).trans (by rw [t6, if_pos rfl])
      refine newp_loop2 (s0 := s3) (c := c) (by omega) hc t7 so sr (fun s4 I4 => ?_) (2 * c) 0 s3 (by omega) pInv_0
      refine ⟨rfl, s4, rfl, ?_⟩
      have nm : ∀ q, q ∉ [8] → q ∉ [9] → s4.1 q = s2.1 q := fun q q1 q2 => (I4.1.1 q q2).trans (I3.1.1 q q1)
      have ar : ∀ q, q ∉ [8] → q ∉ [9] → s4.2.1 q = s2.2.1 q := fun q q1 q2 => (I4.1.2.1 q q2).trans (I3.1.2.1 q q1)
      have n5 : s4.1 5 = nI (p + 1) := (nm 5 (by decide) (by decide)).trans t1
      have nmo : ∀ q, q ≠ 5 → q ≠ 6 → q ∉ [8] → q ∉ [9] → s4.1 q = s.1 q := fun q a1 a2 a3 a4 => (nm q a3 a4).trans (t3 q a1 a2)
      have aro : ∀ q, q ≠ 7 → q ∉ [8] → q ∉ [9] → s4.2.1 q = s.2.1 q := fun q a1 a3 a4 => (ar q a3 a4).trans (t4 q a1)
      have told : ∀ q, s4.2.1 7 q = if q = 64 + p then nI c else if q = 48 + p then sr else if q = 32 + p then so else if q = 16 + p then s.1 6 + 1 else if q = p then nI n else s.2.1 7 q := fun q => (congrFun (ar 7 (by decide) (by decide)) q).trans (t6 q)
      have ed : ∀ q, s4.2.1 8 q = s3.2.1 8 q := fun q => congrFun (I4.1.2.1 8 (by decide)) q
      have en26 : ∀ q, s2.2.1 26 q = s.2.1 26 q := fun q => congrFun (t4 26 (by decide)) q
      have en28 : ∀ q, s3.2.1 28 q = s.2.1 28 q := fun q => (congrFun (I3.1.2.1 28 (by decide)) q).trans (congrFun (t4 28 (by decide)) q)
      obtain ⟨a1, a2, a3, a4, a5, a6⟩ := hR
      obtain ⟨b1, b2, b3, b4, b5⟩ := a1
      refine ⟨⟨?_, n5, ?_, fun t ht => ?_, fun r hr => ?_⟩, ?_, fun j hj => ?_, fun k hk => ?_, ?_, ?_⟩
      · exact (nmo 0 (by decide) (by decide) (by decide) (by decide)).trans b1
      · exact (nmo 10 (by decide) (by decide) (by decide) (by decide)).trans b3
      · rw [aro 1 (by decide) (by decide) (by decide), aro 2 (by decide) (by decide) (by decide), aro 3 (by decide) (by decide) (by decide), aro 4 (by decide) (by decide) (by decide)]
        exact b4 t ht
      · have hr : r < p + 1 := hr
        show mPt (s4.2.1 7) (s4.2.1 8) (s4.2.1 9) r (va_up W.1.2.2.2.1 p (n, c, W.2.2.2.2.2 + 1, so, sr, G, C) r)
        unfold va_up
        by_cases cr : r = p
        · rw [if_pos cr, cr]
          refine ⟨?_, ?_, ?_, ?_, ?_, fun i k hi hk => ?_, fun j hj => ?_⟩
          · rw [told, if_neg (by omega), if_neg (by omega), if_neg (by omega), if_neg (by omega), if_pos rfl]
          · rw [told, if_neg (by omega), if_neg (by omega), if_neg (by omega), if_pos rfl, a6]
          · rw [told, if_neg (by omega), if_neg (by omega), if_pos rfl]
          · rw [told, if_neg (by omega), if_pos rfl]
          · rw [told, if_pos rfl]
          · have hi : i < n := hi
            rw [ed, I3.2.2 (7 * i + k) (by omega), en26]
            exact hM.2 i k hi hk
          · have hj : j < 2 * c := hj
            rw [I4.2.2 j hj, en28]
            by_cases c3 : so = 3
            · exact (h3 c3).2 j hj
            · have := hn3 c3
              omega
        · rw [if_neg cr]
          have hr : r < p := by omega
          obtain ⟨c1, c2, c3, c4, c5, c6, c7⟩ := b5 r (by omega)
          have q1 := (hW.1.2.2.2 r (by omega)).1
          have q2 := (hW.1.2.2.2 r (by omega)).2.1
          refine ⟨?_, ?_, ?_, ?_, ?_, fun i k hi hk => ?_, fun j hj => ?_⟩
          · rw [told, if_neg (by omega), if_neg (by omega), if_neg (by omega), if_neg (by omega), if_neg (by omega)]
            exact c1
          · rw [told, if_neg (by omega), if_neg (by omega), if_neg (by omega), if_neg (by omega), if_neg (by omega)]
            exact c2
          · rw [told, if_neg (by omega), if_neg (by omega), if_neg (by omega), if_neg (by omega), if_neg (by omega)]
            exact c3
          · rw [told, if_neg (by omega), if_neg (by omega), if_neg (by omega), if_neg (by omega), if_neg (by omega)]
            exact c4
          · rw [told, if_neg (by omega), if_neg (by omega), if_neg (by omega), if_neg (by omega), if_neg (by omega)]
            exact c5
          · rw [ed, I3.2.1 _ (by omega), congrFun (t4 8 (by decide)) _]
            exact c6 i k hi hk
          · rw [I4.2.1 _ (by omega), congrFun (I3.1.2.1 9 (by decide)) _, congrFun (t4 9 (by decide)) _]
            exact c7 j hj
      · show (match W.2.1 with
          | none => s4.1 30 = 0
          | some w => s4.1 30 = 1 ∧ mOld s4 w)
        unfold mOld at a2 ⊢
        rw [nmo 30 (by decide) (by decide) (by decide) (by decide), nmo 31 (by decide) (by decide) (by decide) (by decide), nmo 36 (by decide) (by decide) (by decide) (by decide), nmo 40 (by decide) (by decide) (by decide) (by decide), aro 32 (by decide) (by decide) (by decide), aro 33 (by decide) (by decide) (by decide), aro 34 (by decide) (by decide) (by decide), aro 35 (by decide) (by decide) (by decide), aro 37 (by decide) (by decide) (by decide), aro 38 (by decide) (by decide) (by decide), aro 39 (by decide) (by decide) (by decide)]
        exact a2
      · obtain ⟨c1, c2⟩ := a3 j hj
        refine ⟨by rw [aro 11 (by decide) (by decide) (by decide)]; exact c1, fun r hr => ?_⟩
        rw [aro 12 (by decide) (by decide) (by decide), I4.1.2.2, I3.1.2.2, t5]
        exact c2 r hr
      · rw [aro 17 (by decide) (by decide) (by decide)]
        exact a4 k hk
      · rw [nmo 14 (by decide) (by decide) (by decide) (by decide)]
        exact a5
      · show s4.1 6 = W.2.2.2.2.2 + 1
        rw [nm 6 (by decide) (by decide), t2, a6]
    have hb : ∀ y : Int32, (so = 3 → y = s.1 27) → (so ≠ 3 → y = 0) → y = nI c := by
      intro y y1 y2
      by_cases c3 : so = 3
      · rw [y1 c3, (h3 c3).1]
      · rw [y2 c3, hn3 c3]
        rfl
    by_cases c3 : so = 3
    · simp only [X9_newPatch_0, X9_newPatch_1, X9_newPatch_4, X9_newPatch_6, X9_newPatch_9, X9_newPatch_10, X9_newPatch_13, X9_newPatch_15, X9_newPatch_18, X9_newPatch_19, X9_newPatch_24, X9_newPatch_25, X9_newPatch_26, X9_newPatch_27, X9_newPatch_30, X9_newPatch_31, X9_newPatch_32, X9_newPatch_33, X9_newPatch_36, X9_newPatch_37, X9_newPatch_38, X9_newPatch_39, X9_newPatch_42, X9_newPatch_43, X9_newPatch_44, X9_newPatch_47, X9_newPatch_48, X9_newPatch_51, X9_newPatch_52, X9_newPatch_53, X9_newPatch_56, X9_newPatch_57, X9_newPatch_58, X9_newPatch_61, X9_newPatch_63, X9_newPatch_64, X9_newPatch_65, X9_newPatch_66, X9_newPatch_69, X9_newPatch_70, X9_newPatch_71, X9_newPatch_74, X9_newPatch_76, X9_newPatch_77, X9_newPatch_78, X9_newPatch_79, X9_newPatch_80, X9_newPatch_81, X9_newPatch_84, X9_newPatch_86, X9_newPatch_87, X9_newPatch_88, X9_newPatch_89, X9_newPatch_90, X9_newPatch_91, X9_newPatch_94, X9_newPatch_96, X9_newPatch_97, X9_newPatch_98, X9_newPatch_99, X9_newPatch_100, X9_newPatch_103, X9_newPatch_104, X9_newPatch_107, X9_newPatch_110, X9_newPatch_111, iOb_some, iClr_i, iClr_r, iClr_n, iClr_u, iClr_l, rf_s, rf_n, iB_0, iSum_nil, mg5, hpp, if_neg e2, mg25, hM.1, if_pos e1, mp5, mg6, mp6, mg7, ms7 (show p < 80 by omega), ms7 (show 16 + p < 80 by omega), ms7 (show 32 + p < 80 by omega), ms7 (show 48 + p < 80 by omega), ms7 (show 64 + p < 80 by omega), d1, d2, d3, d4, mg27, if_pos c3, nI_1]
      refine tail _ ?_ ?_ (fun q q1 q2 => ?_) (fun q q1 => ?_) ?_ (fun q => ?_)
      · simp [mSet_at, mPut_nm]
      · simp [mSet_at, mPut_nm]
      · simp [mSet_at, mPut_nm, q1, q2]
      · funext y
        simp [mPut_at, mSet_ar, q1]
      · rfl
      · simp [mPut_at, mSet_at, mPut_nm, mSet_ar, hM.1, (h3 c3).1]
    · simp only [X9_newPatch_0, X9_newPatch_1, X9_newPatch_4, X9_newPatch_6, X9_newPatch_9, X9_newPatch_10, X9_newPatch_13, X9_newPatch_15, X9_newPatch_18, X9_newPatch_19, X9_newPatch_24, X9_newPatch_25, X9_newPatch_26, X9_newPatch_27, X9_newPatch_30, X9_newPatch_31, X9_newPatch_32, X9_newPatch_33, X9_newPatch_36, X9_newPatch_37, X9_newPatch_38, X9_newPatch_39, X9_newPatch_42, X9_newPatch_43, X9_newPatch_44, X9_newPatch_47, X9_newPatch_48, X9_newPatch_51, X9_newPatch_52, X9_newPatch_53, X9_newPatch_56, X9_newPatch_57, X9_newPatch_58, X9_newPatch_61, X9_newPatch_63, X9_newPatch_64, X9_newPatch_65, X9_newPatch_66, X9_newPatch_69, X9_newPatch_70, X9_newPatch_71, X9_newPatch_74, X9_newPatch_76, X9_newPatch_77, X9_newPatch_78, X9_newPatch_79, X9_newPatch_80, X9_newPatch_81, X9_newPatch_84, X9_newPatch_86, X9_newPatch_87, X9_newPatch_88, X9_newPatch_89, X9_newPatch_90, X9_newPatch_91, X9_newPatch_94, X9_newPatch_96, X9_newPatch_97, X9_newPatch_98, X9_newPatch_99, X9_newPatch_100, X9_newPatch_103, X9_newPatch_104, X9_newPatch_107, X9_newPatch_110, X9_newPatch_111, iOb_some, iClr_i, iClr_r, iClr_n, iClr_u, iClr_l, rf_s, rf_n, iB_0, iSum_nil, mg5, hpp, if_neg e2, mg25, hM.1, if_pos e1, mp5, mg6, mp6, mg7, ms7 (show p < 80 by omega), ms7 (show 16 + p < 80 by omega), ms7 (show 32 + p < 80 by omega), ms7 (show 48 + p < 80 by omega), ms7 (show 64 + p < 80 by omega), d1, d2, d3, d4, mg27, if_neg c3, nI_1]
      refine tail _ ?_ ?_ (fun q q1 q2 => ?_) (fun q q1 => ?_) ?_ (fun q => ?_)
      · simp [mSet_at, mPut_nm]
      · simp [mSet_at, mPut_nm]
      · simp [mSet_at, mPut_nm, q1, q2]
      · funext y
        simp [mPut_at, mSet_ar, q1]
      · rfl
      · simp [mPut_at, mSet_at, mPut_nm, mSet_ar, hM.1, hn3 c3, nI_0]
  obtain ⟨r, h1, e, rfl, g⟩ := I9_newPatch z
  exact ⟨h1, e, g⟩
end NEWP

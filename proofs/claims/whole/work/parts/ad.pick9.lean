/-! difference: those picked, by the reference; the whole of staying -/
section PICK9
variable {b : iHp} {x t u i j k p q c n m lg w : Nat} {s s' s0 : mS} {T U W : tT} {L : List Nat} {Q : Option Value → iHp → Prop} {ch y F : Nat → Nat} {a1 a2 a3 a5 a6 a7 a8 a9 a10 a11 a12 : Value} {kp : Int32} {l fo : Option Nat} {B : Int64}
/-- one that may come next -/
def cdY (n : Nat) (y F : Nat → Nat) (w : Nat) (l : Option Nat) (j : Nat) : Prop := iNy n y j ∧ F j = w ∧ pkA iId y l j
theorem pick9_in (hn : n ≤ 60) (hC : ∀ j, j < n → s.2.1 22 j = dI (y j) ∧ y j ≤ 61) (hL : ∀ j, j < n → s.2.1 29 j = nI (F j) ∧ F j ≤ 60 ∧ (y j = 0 → F j = 0)) (hw : 0 < w) (hw60 : w ≤ 60) (hl : ∀ a, l = some a → a < n) : ∀ k i fo, i + k = n → (∀ a, l = some a → a < i) → (∀ q, fo = some q → cdY n y F w l q ∧ q < i) → (∀ j, j < i → cdY n y F w l j → ∃ q, fo = some q ∧ y q ≤ y j) → (∀ fo a12, (∀ q, fo = some q → cdY n y F w l q) → (∀ j, cdY n y F w l j → ∃ q, fo = some q ∧ y q ≤ y j) → iWp 4 mX9_staying 281 [.ref x, a1, a2, a3, .int (nI n), a5, a6, a7, a8, .int (lIy y l), .int (nI w), .int (oI fo), a12] [] (mH b x s) Q) → iWp 4 mX9_staying 217 [.ref x, a1, a2, a3, .int (nI n), a5, a6, a7, a8, .int (lIy y l), .int (nI w), .int (oI fo), .int (nI i)] [] (mH b x s) Q := by
  intro k
  induction k with
  | zero =>
    intro i fo hi hli hfo hno hQ
    obtain rfl : i = n := by omega
    rw [X9_staying_217]
    simp only [X9_staying_219, X9_staying_221, iOb_some, iClr_i, iClr_r, iClr_n, iClr_u, iClr_l, rf_s, rf_n, iB_0, iSum_nil, if_pos (Int32.le_refl (nI i))]
    exact hQ fo _ (fun q hq => (hfo q hq).1) (fun j hj => hno j hj.1.1 hj)
  | succ k ih =>
    intro i fo hi hli hfo hno hQ
    have hin : i < n := by omega
    obtain ⟨ci, yi⟩ := hC i hin
    obtain ⟨li, fi, zi⟩ := hL i hin
    have eqF : nI (F i) = nI w ↔ F i = w := nI_eq (by omega) (by omega)
    have skip : ¬ cdY n y F w l i → iWp 4 mX9_staying 217 [.ref x, a1, a2, a3, .int (nI n), a5, a6, a7, a8, .int (lIy y l), .int (nI w), .int (oI fo), .int (nI (i + 1))] [] (mH b x s) Q := by
      intro hc
      refine ih (i + 1) fo (by omega) (fun a e => by have := hli a e; omega) (fun q hq => ⟨(hfo q hq).1, by have := (hfo q hq).2; omega⟩) (fun j hj hcj => ?_) hQ
      by_cases ji : j = i
      · rw [ji] at hcj
        exact absurd hcj hc
      · exact hno j (by omega) hcj
    rw [X9_staying_217]
    by_cases c1 : F i = w
    · have hy0 : 0 < y i := by
        rcases Nat.eq_zero_or_pos (y i) with z | z
        · have := zi z
          omega
        · exact z
      have hlast : lIy y l < dI (y i) ↔ pkA iId y l i := by
        cases l with
        | none =>
          refine ⟨fun _ a e => (by cases e), fun _ => ?_⟩
          exact (dI_ltI (a := 0) (b := y i) (by omega) (by omega)).mpr hy0
        | some a =>
          have ya := (hC a (hl a rfl)).2
          refine ⟨fun z b e => by cases e; exact ⟨hli a rfl, (dI_ltI (by omega) (by omega)).mp z⟩, fun z => (dI_ltI (by omega) (by omega)).mpr (z a rfl).2⟩
      by_cases c2 : pkA iId y l i
      · have hcd : cdY n y F w l i := ⟨⟨hin, hy0⟩, c1, c2⟩
        cases fo with
        | none =>
          simp only [X9_staying_219, X9_staying_221, X9_staying_224, X9_staying_225, X9_staying_228, X9_staying_230, X9_staying_231, X9_staying_233, X9_staying_236, X9_staying_237, X9_staying_240, X9_staying_242, X9_staying_243, X9_staying_245, X9_staying_248, X9_staying_250, X9_staying_251, X9_staying_254, X9_staying_255, X9_staying_258, X9_staying_260, X9_staying_261, X9_staying_262, X9_staying_265, X9_staying_267, X9_staying_268, X9_staying_271, X9_staying_273, X9_staying_275, X9_staying_278, iOb_some, iClr_i, iClr_r, iClr_n, iClr_u, iClr_l, rf_s, rf_n, iB_0, iSum_nil, if_neg (nI_ge hin (show n < 2 ^ 31 by omega)), mg22, mg29, ml22 (show i < 66 by omega), ml29 (show i < 66 by omega), ci, li, if_pos (eqF.mpr c1), if_neg (Int32.not_le.mpr (hlast.mpr c2)), oI_n, if_true, nI_1]
          refine ih (i + 1) (some i) (by omega) (fun a e => by have := hli a e; omega) (fun q hq => by cases hq; exact ⟨hcd, Nat.lt_succ_self i⟩) (fun j hj hcj => ?_) hQ
          by_cases ji : j = i
          · exact ⟨i, rfl, by rw [ji]; exact Nat.le_refl _⟩
          · obtain ⟨q, q1, q2⟩ := hno j (by omega) hcj
            cases q1
        | some f =>
          obtain ⟨hf, fl⟩ := hfo f rfl
          have cf := hC f (by omega)
          have hlt := dI_ltI (a := y i) (b := y f) (by omega) (by omega)
          by_cases c3 : y i < y f
          · simp only [X9_staying_219, X9_staying_221, X9_staying_224, X9_staying_225, X9_staying_228, X9_staying_230, X9_staying_231, X9_staying_233, X9_staying_236, X9_staying_237, X9_staying_240, X9_staying_242, X9_staying_243, X9_staying_245, X9_staying_248, X9_staying_250, X9_staying_251, X9_staying_254, X9_staying_255, X9_staying_258, X9_staying_260, X9_staying_261, X9_staying_262, X9_staying_265, X9_staying_267, X9_staying_268, X9_staying_271, X9_staying_273, X9_staying_275, X9_staying_278, iOb_some, iClr_i, iClr_r, iClr_n, iClr_u, iClr_l, rf_s, rf_n, iB_0, iSum_nil, if_neg (nI_ge hin (show n < 2 ^ 31 by omega)), mg22, mg29, ml22 (show i < 66 by omega), ml22 (show f < 66 by omega), ml29 (show i < 66 by omega), ci, cf.1, li, if_pos (eqF.mpr c1), if_neg (Int32.not_le.mpr (hlast.mpr c2)), oI_s, if_neg (oI_ne (show f < 2 ^ 31 by omega)), if_neg (Int32.not_le.mpr (hlt.mpr c3)), nI_1]
            refine ih (i + 1) (some i) (by omega) (fun a e => by have := hli a e; omega) (fun q hq => by cases hq; exact ⟨hcd, Nat.lt_succ_self i⟩) (fun j hj hcj => ?_) hQ
            by_cases ji : j = i
            · exact ⟨i, rfl, by rw [ji]; exact Nat.le_refl _⟩
            · obtain ⟨q, q1, q2⟩ := hno j (by omega) hcj
              cases q1
              exact ⟨i, rfl, by omega⟩
          · simp only [X9_staying_219, X9_staying_221, X9_staying_224, X9_staying_225, X9_staying_228, X9_staying_230, X9_staying_231, X9_staying_233, X9_staying_236, X9_staying_237, X9_staying_240, X9_staying_242, X9_staying_243, X9_staying_245, X9_staying_248, X9_staying_250, X9_staying_251, X9_staying_254, X9_staying_255, X9_staying_258, X9_staying_260, X9_staying_261, X9_staying_262, X9_staying_265, X9_staying_267, X9_staying_268, X9_staying_271, X9_staying_273, X9_staying_275, X9_staying_278, iOb_some, iClr_i, iClr_r, iClr_n, iClr_u, iClr_l, rf_s, rf_n, iB_0, iSum_nil, if_neg (nI_ge hin (show n < 2 ^ 31 by omega)), mg22, mg29, ml22 (show i < 66 by omega), ml22 (show f < 66 by omega), ml29 (show i < 66 by omega), ci, cf.1, li, if_pos (eqF.mpr c1), if_neg (Int32.not_le.mpr (hlast.mpr c2)), oI_s, if_neg (oI_ne (show f < 2 ^ 31 by omega)), if_pos (Int32.not_lt.mp (fun z => c3 (hlt.mp z))), nI_1]
            refine ih (i + 1) (some f) (by omega) (fun a e => by have := hli a e; omega) (fun q hq => by cases hq; exact ⟨hf, by omega⟩) (fun j hj hcj => ?_) hQ
            by_cases ji : j = i
            · exact ⟨f, rfl, by rw [ji]; omega⟩
            · exact hno j (by omega) hcj
      · simp only [X9_staying_219, X9_staying_221, X9_staying_224, X9_staying_225, X9_staying_228, X9_staying_230, X9_staying_231, X9_staying_233, X9_staying_236, X9_staying_237, X9_staying_240, X9_staying_242, X9_staying_243, X9_staying_245, X9_staying_248, X9_staying_250, X9_staying_251, X9_staying_254, X9_staying_255, X9_staying_258, X9_staying_260, X9_staying_261, X9_staying_262, X9_staying_265, X9_staying_267, X9_staying_268, X9_staying_271, X9_staying_273, X9_staying_275, X9_staying_278, iOb_some, iClr_i, iClr_r, iClr_n, iClr_u, iClr_l, rf_s, rf_n, iB_0, iSum_nil, if_neg (nI_ge hin (show n < 2 ^ 31 by omega)), mg22, mg29, ml22 (show i < 66 by omega), ml29 (show i < 66 by omega), ci, li, if_pos (eqF.mpr c1), if_pos (Int32.not_lt.mp (fun z => c2 (hlast.mp z))), nI_1]
        exact skip (fun z => c2 z.2.2)
    · simp only [X9_staying_219, X9_staying_221, X9_staying_224, X9_staying_225, X9_staying_228, X9_staying_230, X9_staying_231, X9_staying_233, X9_staying_236, X9_staying_237, X9_staying_240, X9_staying_242, X9_staying_243, X9_staying_245, X9_staying_248, X9_staying_250, X9_staying_251, X9_staying_254, X9_staying_255, X9_staying_258, X9_staying_260, X9_staying_261, X9_staying_262, X9_staying_265, X9_staying_267, X9_staying_268, X9_staying_271, X9_staying_273, X9_staying_275, X9_staying_278, iOb_some, iClr_i, iClr_r, iClr_n, iClr_u, iClr_l, rf_s, rf_n, iB_0, iSum_nil, if_neg (nI_ge hin (show n < 2 ^ 31 by omega)), mg29, ml29 (show i < 66 by omega), li, if_neg (fun z => c1 (eqF.mp z)), nI_1]
      exact skip (fun z => c1 z.2.1)
theorem pick9_loop (hn : n ≤ 60) (hC : ∀ j, j < n → s.2.1 22 j = dI (y j) ∧ y j ≤ 61) (hL : ∀ j, j < n → s.2.1 29 j = nI (F j) ∧ F j ≤ 60 ∧ (y j = 0 → F j = 0)) (hF : lnF (iNy n y) iId y F) : ∀ w l B a11 a12, w ≤ 60 → (∀ a, l = some a → a < n) → (w = 0 ∨ ∃ q, cdY n y F w l q) → (∀ B' S, pkN (iNy n y) iId y F w l S → (∀ j, j < 64 → (b9 B' j = true ↔ (b9 B j = true ∨ S j))) → Q (some (.long B')) (mH b x s)) → iWp 4 mX9_staying 203 [.ref x, a1, a2, a3, .int (nI n), .int kp, .long B, iU, .int (oI l), .int (lIy y l), .int (nI w), a11, a12] [] (mH b x s) Q := by
  intro w
  induction w with
  | zero =>
    intro l B a11 a12 hw hl hex hQ
    rw [X9_staying_203]
    simp only [X9_staying_205, X9_staying_208, X9_staying_209, X9_staying_211, X9_staying_213, X9_staying_214, X9_staying_215, X9_staying_217, X9_staying_219, X9_staying_221, X9_staying_224, X9_staying_225, X9_staying_228, X9_staying_230, X9_staying_231, X9_staying_233, X9_staying_236, X9_staying_237, X9_staying_240, X9_staying_242, X9_staying_243, X9_staying_245, X9_staying_248, X9_staying_250, X9_staying_251, X9_staying_254, X9_staying_255, X9_staying_258, X9_staying_260, X9_staying_261, X9_staying_262, X9_staying_265, X9_staying_267, X9_staying_268, X9_staying_271, X9_staying_273, X9_staying_275, X9_staying_278, X9_staying_281, X9_staying_283, X9_staying_284, X9_staying_286, X9_staying_287, X9_staying_288, X9_staying_290, X9_staying_292, X9_staying_294, X9_staying_295, X9_staying_298, X9_staying_300, X9_staying_301, X9_staying_303, X9_staying_306, X9_staying_309, X9_staying_311, iOb_some, iClr_i, iClr_r, iClr_n, iClr_u, iClr_l, rf_s, rf_n, iB_0, iSum_nil, if_pos (show nI 0 ≤ (0 : Int32) by decide)]
    exact hQ B (fun _ => False) (fun c hc => hc) (fun j hj => ⟨fun z => Or.inl z, fun z => z.elim (fun z => z) (fun z => z.elim)⟩)
  | succ w ih =>
    intro l B a11 a12 hw hl hex hQ
    have hi0 : ∃ i, oI l + 1 = nI i ∧ i ≤ n ∧ (∀ a, l = some a → a < i) ∧ ∀ j, j < i → ¬ cdY n y F (w + 1) l j := by
      cases l with
      | none => exact ⟨0, by decide, Nat.zero_le _, (fun a e => by cases e), fun j hj => absurd hj (Nat.not_lt_zero j)⟩
      | some a =>
        refine ⟨a + 1, nI_1 a, hl a rfl, (fun b e => by cases e; exact Nat.lt_succ_self a), fun j hj hc => ?_⟩
        have : a < j := (hc.2.2 a rfl).1
        omega
    obtain ⟨i, e1, e2, e3, e4⟩ := hi0
    rw [X9_staying_203]
    simp only [X9_staying_205, X9_staying_208, X9_staying_209, X9_staying_211, X9_staying_213, X9_staying_214, X9_staying_215, iOb_some, iClr_i, iClr_r, iClr_n, iClr_u, iClr_l, rf_s, rf_n, iB_0, iSum_nil, if_neg (nI_nle (Nat.succ_pos w) (show w + 1 < 2 ^ 31 by omega)), e1]
    refine pick9_in hn hC hL (Nat.succ_pos w) hw hl (n - i) i none (by omega) e3 (fun q hq => by cases hq) (fun j hj hc => absurd hc (e4 j hj)) (fun fo a12 g1 g2 => ?_)
    obtain ⟨q0, hq0⟩ := hex.resolve_left (Nat.succ_ne_zero w)
    obtain ⟨f, rfl, -⟩ := g2 q0 hq0
    have hf := g1 f rfl
    have fn : f < n := hf.1.1
    have cf := (hC f fn).1
    simp only [X9_staying_281, X9_staying_283, X9_staying_284, X9_staying_286, X9_staying_287, X9_staying_288, X9_staying_290, X9_staying_292, X9_staying_294, X9_staying_295, X9_staying_298, X9_staying_300, X9_staying_301, X9_staying_303, X9_staying_306, iOb_some, iClr_i, iClr_r, iClr_n, iClr_u, iClr_l, rf_s, rf_n, iB_0, iSum_nil, oI_s, mg22, ml22 (show f < 66 by omega), cf, pk_m1]
    refine ih (some f) _ _ _ (by omega) (fun a e => by cases e; exact fn) ?_ (fun B' S' p1 p2 => ?_)
    · rcases Nat.eq_zero_or_pos w with z | z
      · exact Or.inl z
      · obtain ⟨q, n1, n2, n3⟩ := pk_next hF hf.1 hf.2.1 z
        exact Or.inr ⟨q, n1, n2, n3⟩
    · refine hQ B' (fun j => j = f ∨ S' j) ⟨f, ⟨hf.1, hf.2.1, hf.2.2, fun r r1 r2 r3 => ?_⟩, S', p1, fun c => Iff.rfl⟩ (fun j hj => ?_)
      · obtain ⟨q, q1, q2⟩ := g2 r ⟨r1, r2, r3⟩
        cases q1
        exact q2
      · rw [p2 j hj, b9_or (show f < 64 by omega) hj, Bool.or_eq_true, decide_eq_true_iff]
        exact ⟨fun z => z.elim (fun z => z.elim (fun z => Or.inl z) (fun z => Or.inr (Or.inl z))) (fun z => Or.inr (Or.inr z)), fun z => z.elim (fun z => Or.inl (Or.inl z)) (fun z => z.elim (fun z => Or.inl (Or.inr z)) (fun z => Or.inr z))⟩
/-- what staying tells: the children, by number, and their bits -/
def syR (U W : tT) (p n : Nat) (ch : Nat → Nat) (B : Int64) : Prop := n ≤ 60 ∧ (∀ j, j < n → ch j < U.1 ∧ tPar U.2.2.2 (ch j) = some p) ∧ (∀ j j', j < j' → j' < n → ch j < ch j') ∧ (∀ c, c < U.1 → tPar U.2.2.2 c = some p → ∃ j, j < n ∧ ch j = c) ∧ ∀ j, j < n → (b9 B j = true ↔ dfS U W p (ch j) = true)
theorem ev9_staying (hT : rT s u U) (hw : rW s W) (hU : tOk U) (hW : tOk W) (hp : p < U.1) : ∃ s' n ch B, iEv mX9_staying [.ref x, .int (nI u), .int (nI p)] (mH b x s) (some (.long B)) (mH b x s') ∧ sEx [22, 29] s s' ∧ syR U W p n ch B := by
  have u60 := hU.1.le
  have w60 := hW.1.le
  have hE := tEnd_gt (D := U.2.2.2) hp
  have z : iWp 4 mX9_staying 0 [.ref x, .int (nI u), .int (nI p), iU, iU, iU, iU, iU, iU, iU, iU, iU, iU] [] (mH b x s) (fun v h1 => ∃ s' n ch B, v = some (.long B) ∧ h1 = mH b x s' ∧ sEx [22, 29] s s' ∧ syR U W p n ch B) := by
    simp only [X9_staying_0, X9_staying_1, X9_staying_2, X9_staying_3 (ev9_keyOf hT hp) mH_obj, X9_staying_6, X9_staying_7, X9_staying_8, X9_staying_10, X9_staying_11, X9_staying_12, X9_staying_13, X9_staying_14 (ev9_next hT hp hp) mH_obj, X9_staying_17, iOb_some, iClr_i, iClr_r, iClr_n, iClr_u, iClr_l, rf_s, rf_n, iB_0, iSum_nil]
    refine kids9_loop (s0 := s) (W := W) hT hw hU hW hp (U.1 - p) p 0 (fun _ => 0) s (Nat.le_refl _) (Nat.le_refl _) hE.1 sEx.refl ⟨by omega, fun j hj => absurd hj (Nat.not_lt_zero j), fun j j' _ hj => absurd hj (Nat.not_lt_zero j'), fun c hc hpc => ?_⟩ (fun s1 n ch a5 x1 hF => ?_)
    · have := tPar_lt hU (show c < U.1 by omega) hpc
      omega
    · obtain ⟨f1, f2, f3, f4⟩ := hF
      have hC : ∀ j, j < n → s1.2.1 22 j = dI (yvO U W p ch j) ∧ yvO U W p ch j ≤ 61 := by
        intro j hj
        refine ⟨(f2 j hj).2.2.trans oI_dI, ?_⟩
        unfold yvO plO
        cases hh : tWhere W.2.1 W.1 (U.2.1 (ch j)) with
        | none => exact Nat.zero_le _
        | some i =>
          dsimp only
          have hi := (tWhere_lt hh).1
          split
          · show tPlace W.2.2.2 i + 1 ≤ 61
            obtain ⟨hK, d, hd, h5⟩ := hW
            rw [nPlace_of hd hi]
            have := nPlace_le (d := d) hi
            omega
          · exact Nat.zero_le _
      generalize hy : yvO U W p ch = y at hC
      simp only [X9_staying_60, X9_staying_61, X9_staying_63, X9_staying_65, X9_staying_66, X9_staying_67, iOb_some, iClr_i, iClr_r, iClr_n, iClr_u, iClr_l, rf_s, rf_n, iB_0, iSum_nil, dI_s]
      refine len9_loop (s0 := s1) (y := y) f1 hC n (fun _ => 0) 0 s1 _ (Nat.le_refl n) (by omega) sEx.refl ⟨fun q q1 q2 => by omega, Or.inl rfl⟩ (fun s2 F lg a6 a7 lg60 x2 hI => ?_)
      obtain ⟨l1, l2⟩ := rsI_lnF hI
      have hC2 : ∀ j, j < n → s2.2.1 22 j = dI (y j) ∧ y j ≤ 61 := fun j hj => ⟨(congrFun (x2.2.1 22 (by decide)) j).trans (hC j hj).1, (hC j hj).2⟩
      have hL2 : ∀ j, j < n → s2.2.1 29 j = nI (F j) ∧ F j ≤ 60 ∧ (y j = 0 → F j = 0) := fun j hj => by
        obtain ⟨k1, k2, k3, k4, k5⟩ := hI.1 j (Nat.zero_le _) hj
        exact ⟨k1, by omega, k4⟩
      simp only [X9_staying_190, X9_staying_191, X9_staying_193, X9_staying_194, X9_staying_196, X9_staying_197, X9_staying_199, X9_staying_201, iOb_some, iClr_i, iClr_r, iClr_n, iClr_u, iClr_l, rf_s, rf_n, iB_0, iSum_nil]
      refine pick9_loop f1 hC2 hL2 l1 lg none 0 _ _ lg60 (fun a e => by cases e) ?_ (fun B S p1 p2 => ⟨s2, n, ch, B, rfl, rfl, (x1.mono (by decide)).trans (x2.mono (by decide)), f1, fun j hj => ⟨(f2 j hj).1, (f2 j hj).2.1⟩, f3, f4, fun j hj => ?_⟩)
      · rcases l2.2 with z | ⟨q, z1, z2⟩
        · exact Or.inl z
        · exact Or.inr ⟨q, z1, z2, fun a e => by cases e⟩
      · have hN : ∀ j, iNy n y j → dfO U W p (ch j) ∧ ∃ a, plO U W p (ch j) = some a ∧ y j = a + 1 := by
          intro j hj
          have h1 := (f2 j hj.1).1
          have h2 := (f2 j hj.1).2.1
          have h3 : 0 < yvO U W p ch j := by rw [hy]; exact hj.2
          cases e : plO U W p (ch j) with
          | none =>
            unfold yvO at h3
            rw [e] at h3
            exact absurd h3 (Nat.lt_irrefl 0)
          | some a =>
            refine ⟨(plO_iff hW hU h1 h2).mpr ⟨a, e⟩, a, rfl, ?_⟩
            rw [← hy]
            unfold yvO
            rw [e]
            rfl
        have chi : ∀ i j, i < n → j < n → (i < j ↔ ch i < ch j) := by
          intro i j hi hj
          constructor
          · intro v
            exact f3 i j v hj
          · intro v
            rcases Nat.lt_trichotomy i j with z | z | z
            · exact z
            · rw [z] at v
              exact absurd v (Nat.lt_irrefl _)
            · have := f3 j i z hi
              omega
        have cinj : ∀ i j, i < n → j < n → ch i = ch j → i = j := by
          intro i j hi hj e
          rcases Nat.lt_trichotomy i j with z | z | z
          · have := f3 i j z hj
            omega
          · exact z
          · have := f3 j i z hi
            omega
        have hs : pkS (iNy n y) iId y S := ⟨F, lg, l1, l2, p1⟩
        have hm := pkS_map (M := dfO U W p) (u := fun q => q) (z := dfY U W) (r := ch) (fun j hj => (hN j hj).1) (fun c hc => by
          obtain ⟨i, i1, i2⟩ := f4 c hc.1 hc.2.1
          obtain ⟨a, ha⟩ := (plO_iff hW hU hc.1 hc.2.1).mp hc
          refine ⟨i, ⟨i1, ?_⟩, i2⟩
          rw [← hy]
          unfold yvO
          rw [i2, ha]
          exact Nat.succ_pos a) (fun i j hi hj => chi i j hi.1 hj.1) (fun i j hi hj => by
          obtain ⟨o1, a, a1, a2⟩ := hN i hi
          obtain ⟨o2, a', a3, a4⟩ := hN j hj
          rw [a2, a4, ← plO_ord hW o1 o2 a1 a3]
          omega) (fun i j hi hj e => cinj i j hi.1 hj.1 e) hs
        have hi := dfS_iff (c := ch j) hU hm
        rw [p2 j (by omega), hi, b9_0]
        constructor
        · rintro (z | z)
          · cases z
          · exact ⟨j, pkS_in hs j z, z, rfl⟩
        · rintro ⟨i, i1, i2, i3⟩
          rw [cinj i j i1.1 hj i3] at i2
          exact Or.inr i2
  obtain ⟨v, h1, ev, s', n, ch, B, rfl, rfl, g1, g2⟩ := I9_staying z
  exact ⟨s', n, ch, B, ev, g1, g2⟩
end PICK9

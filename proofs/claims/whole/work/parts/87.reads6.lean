/-! calls that only read: holds, element, says -/
section READS6
variable {h : iHp} {o sN n k i j x m t u p q : Nat} {im : Option Nat} {R E P T : Nat → Option Nat} {sh rf C : Nat → Int32} {W : wW} {b : iHp} {s : mS}
def aHolds (W : wW) (s : Int32) : Int32 × wW := match iIx s 8 with
  | none => (-1, W)
  | some i => (hHold (W.2.2.1 i), W)
theorem c8_holds (hR : cRep h o W) (hW : wOk W) (s : Int32) : ∃ r h1, iEv mX8_holds [.ref o, .int s] h r h1 ∧ c8P h o (aHolds W s) r h1 := by
  obtain ⟨sN, im, R, sh, rf, n, k, E, C, T, P, hR⟩ := hR
  refine I8_holds ?_
  unfold aHolds
  have es := c8_isShelf (h := h) s
  rcases iIx_cases s (n := 8) (by decide) with ⟨e, z⟩ | ⟨j, hj, rfl, e⟩
  · rw [e] at es ⊢
    simp only [X8_holds_0, X8_holds_1, X8_holds_2 (c8_rowN hR (fun q hq => by rw [e] at hq; cases hq)) hR.ob, X8_holds_5, X8_holds_5n, X8_holds_6, X8_holds_6n, X8_holds_7, X8_holds_7n, X8_holds_10, X8_holds_12, X8_holds_12n, X8_holds_13, X8_holds_16, X8_holds_17, X8_holds_18, X8_holds_19 es, X8_holds_22, X8_holds_25, X8_holds_26, X8_holds_29, X8_holds_30, X8_holds_31, X8_holds_34, X8_holds_35, iOb_some, iClr_i, iClr_r, iClr_n, iClr_u, iClr_l, rf_s, rf_n, iB_0, iSum_nil, Option.isSome_none, if_true]
    exact c8_same hR
  · rw [e] at es ⊢
    dsimp only
    cases e2 : (W.2.2.1 j).1 with
    | none =>
      rw [show hHold (W.2.2.1 j) = (W.2.2.1 j).2 from by unfold hHold; rw [e2]]
      simp only [X8_holds_0, X8_holds_1, X8_holds_2 (c8_rowN hR (fun q hq => by rw [e] at hq; cases hq; exact e2)) hR.ob, X8_holds_5, X8_holds_5n, X8_holds_6, X8_holds_6n, X8_holds_7, X8_holds_7n, X8_holds_10, X8_holds_12, X8_holds_12n, X8_holds_13, X8_holds_16, X8_holds_17, X8_holds_18, X8_holds_19 es, X8_holds_22, X8_holds_25, X8_holds_26, X8_holds_29, X8_holds_30, X8_holds_31, X8_holds_34, X8_holds_35, iOb_some, iClr_i, iClr_r, iClr_n, iClr_u, iClr_l, rf_s, rf_n, iB_0, iSum_nil, Option.isSome_some, Bool.true_eq_false, if_false, hR.g1, hR.lS hj, hR.shv hj]
      exact c8_same hR
    | some z =>
      obtain ⟨a, f, r1, r2, r3, -⟩ := hR.rS hj e2
      rw [show hHold (W.2.2.1 j) = 100 + z.1 from by unfold hHold; rw [e2]]
      simp only [X8_holds_0, X8_holds_1, X8_holds_2 (c8_row hR hj r1) hR.ob, X8_holds_5, X8_holds_5n, X8_holds_6, X8_holds_6n, X8_holds_7, X8_holds_7n, X8_holds_10, X8_holds_12, X8_holds_12n, X8_holds_13, X8_holds_16, X8_holds_17, X8_holds_18, X8_holds_22, X8_holds_25, X8_holds_26, X8_holds_29, X8_holds_30, X8_holds_31, X8_holds_34, X8_holds_35, iOb_some, iClr_i, iClr_r, iClr_n, iClr_u, iClr_l, rf_s, rf_n, iB_0, iSum_nil, r2.s]
      exact c8_same hR
theorem m9_holds (hR : mRel s W) (hW : wOk W) (v : Int32) : ∃ r h1, iEv mX9_holds [.ref x, .int v] (mH b x s) r h1 ∧ m9P b x (aHolds W v) r h1 := by
  refine I9_holds ?_
  unfold aHolds
  have ew := ev9_wi7 (i := v) (h := mH b x s)
  rcases iIx_cases v (n := 8) (by decide) with ⟨e, z⟩ | ⟨j, hj, rfl, e⟩
  · rw [e] at ew ⊢
    simp only [X9_holds_0, X9_holds_1, X9_holds_2, X9_holds_4 ew, X9_holds_7, X9_holds_10, X9_holds_11, X9_holds_14, X9_holds_15, X9_holds_16, X9_holds_19, X9_holds_20, iOb_some, iClr_i, iClr_r, iClr_n, iClr_u, iClr_l, rf_s, rf_n, iB_0, iSum_nil, Option.isSome_none, if_true]
    exact m9_same hR
  · rw [e] at ew ⊢
    simp only [X9_holds_0, X9_holds_1, X9_holds_2, X9_holds_4 ew, X9_holds_7, X9_holds_10, X9_holds_11, X9_holds_14, X9_holds_15, X9_holds_16, X9_holds_19, X9_holds_20, iOb_some, iClr_i, iClr_r, iClr_n, iClr_u, iClr_l, rf_s, rf_n, iB_0, iSum_nil, Option.isSome_some, Bool.true_eq_false, if_false, mg11, ml11 hj, (hR.2.2.1 j hj).1]
    exact m9_same hR
-- element
def c8L (h : iHp) (o : Nat) (v : Int64 × wW) (r : Option Value) (h1 : iHp) : Prop := r = some (.long v.1) ∧ cRep h1 o v.2 ∧ cFr h h1 o
def m9L (b : iHp) (x : Nat) (v : Int64 × wW) (r : Option Value) (h1 : iHp) : Prop := r = some (.long v.1) ∧ ∃ s, h1 = mH b x s ∧ mRel s v.2
def aElement (W : wW) (s i : Int32) : Int64 × wW := match iIx s 8 with
  | none => (0, W)
  | some j => match (W.2.2.1 j).1 with
    | none => (0, W)
    | some z => match iIx i z.2.1 with
      | none => (0, W)
      | some q => (z.2.2 q, W)
theorem c8_element (hR : cRep h o W) (hW : wOk W) (s i : Int32) : ∃ r h1, iEv mX8_element [.ref o, .int s, .int i] h r h1 ∧ c8L h o (aElement W s i) r h1 := by
  obtain ⟨sN, im, R, sh, rf, n, k, E, C, T, P, hR⟩ := hR
  refine I8_element ?_
  unfold aElement
  have fin : ∀ u : Int64, c8L h o (u, W) (some (.long u)) h := fun u => ⟨rfl, ⟨sN, im, R, sh, _, n, k, E, C, T, P, hR⟩, cFr.refl⟩
  rcases iIx_cases s (n := 8) (by decide) with ⟨e, z⟩ | ⟨j, hj, rfl, e⟩
  · rw [e]
    simp only [X8_element_0, X8_element_1, X8_element_2 (c8_rowN hR (fun q hq => by rw [e] at hq; cases hq)) hR.ob, X8_element_5, X8_element_5n, X8_element_6, X8_element_6n, X8_element_7, X8_element_7n, X8_element_10, X8_element_11, X8_element_14, X8_element_14n, X8_element_15, X8_element_19, iOb_some, iClr_i, iClr_r, iClr_n, iClr_u, iClr_l, rf_s, rf_n, iB_0, iSum_nil]
    exact fin 0
  · rw [e]
    dsimp only
    cases e2 : (W.2.2.1 j).1 with
    | none =>
      simp only [X8_element_0, X8_element_1, X8_element_2 (c8_rowN hR (fun q hq => by rw [e] at hq; cases hq; exact e2)) hR.ob, X8_element_5, X8_element_5n, X8_element_6, X8_element_6n, X8_element_7, X8_element_7n, X8_element_10, X8_element_11, X8_element_14, X8_element_14n, X8_element_15, X8_element_19, iOb_some, iClr_i, iClr_r, iClr_n, iClr_u, iClr_l, rf_s, rf_n, iB_0, iSum_nil]
      exact fin 0
    | some z =>
      obtain ⟨a, f, r1, r2, r3, -⟩ := hR.rS hj e2
      dsimp only
      have h16 := r2.2.2
      rcases iIx_cases i (n := z.2.1) (by omega) with ⟨g, y⟩ | ⟨q, hq, rfl, g⟩
      · rw [g]
        simp only [X8_element_0, X8_element_1, X8_element_2 (c8_row hR hj r1) hR.ob, X8_element_5, X8_element_5n, X8_element_6, X8_element_6n, X8_element_7, X8_element_7n, X8_element_10, X8_element_11, X8_element_14, X8_element_14n, X8_element_15, X8_element_16 (ev_rlong0 r2 y) r2.o, X8_element_19, iOb_some, iClr_i, iClr_r, iClr_n, iClr_u, iClr_l, rf_s, rf_n, iB_0, iSum_nil]
        exact fin 0
      · rw [g]
        simp only [X8_element_0, X8_element_1, X8_element_2 (c8_row hR hj r1) hR.ob, X8_element_5, X8_element_5n, X8_element_6, X8_element_6n, X8_element_7, X8_element_7n, X8_element_10, X8_element_11, X8_element_14, X8_element_14n, X8_element_15, X8_element_16 (ev_rlong r2 hq) r2.o, X8_element_19, iOb_some, iClr_i, iClr_r, iClr_n, iClr_u, iClr_l, rf_s, rf_n, iB_0, iSum_nil]
        rw [r3 q hq]
        exact fin _
theorem i160 (u j : Nat) : 160 * nI u + nI j = nI (160 * u + j) := by
  rw [show (160 : Int32) = nI 160 from rfl, pk_mul, nI_add]
theorem m9_element (hR : mRel s W) (hW : wOk W) (v i : Int32) : ∃ r h1, iEv mX9_element [.ref x, .int v, .int i] (mH b x s) r h1 ∧ m9L b x (aElement W v i) r h1 := by
  refine I9_element ?_
  unfold aElement
  have fin : ∀ u : Int64, m9L b x (u, W) (some (.long u)) (mH b x s) := fun u => ⟨rfl, s, rfl, hR⟩
  have ew := ev9_wi7 (i := v) (h := mH b x s)
  rcases iIx_cases v (n := 8) (by decide) with ⟨e, z⟩ | ⟨j, hj, rfl, e⟩
  · rw [e] at ew ⊢
    simp only [X9_element_0, X9_element_1, X9_element_2, X9_element_4 ew, X9_element_7, X9_element_10, X9_element_11, X9_element_15, X9_element_18, X9_element_19, X9_element_20, X9_element_21, X9_element_24, X9_element_25, X9_element_26, X9_element_27, X9_element_31, X9_element_34, X9_element_35, X9_element_38, X9_element_41, X9_element_42, X9_element_43, X9_element_44, X9_element_45, X9_element_46, X9_element_49, X9_element_50, iOb_some, iClr_i, iClr_r, iClr_n, iClr_u, iClr_l, rf_s, rf_n, iB_0, iSum_nil, Option.isSome_none, if_true]
    exact fin 0
  · rw [e] at ew ⊢
    dsimp only
    have er := ev9_isRow (b := b) (x := x) hR hW hj
    have h8 := hW.2.2 j hj
    unfold shOk at h8
    cases e2 : (W.2.2.1 j).1 with
    | none =>
      rw [e2] at er
      simp only [X9_element_0, X9_element_1, X9_element_2, X9_element_4 ew, X9_element_7, X9_element_10, X9_element_11, X9_element_12 er mH_obj, X9_element_15, X9_element_18, X9_element_19, X9_element_20, X9_element_21, X9_element_24, X9_element_25, X9_element_26, X9_element_27, X9_element_31, X9_element_34, X9_element_35, X9_element_38, X9_element_41, X9_element_42, X9_element_43, X9_element_44, X9_element_45, X9_element_46, X9_element_49, X9_element_50, iOb_some, iClr_i, iClr_r, iClr_n, iClr_u, iClr_l, rf_s, rf_n, iB_0, iSum_nil, Option.isSome_some, Option.isSome_none, Bool.true_eq_false, if_false, if_true]
      exact fin 0
    | some z =>
      rw [e2] at er h8
      obtain ⟨f1, f2⟩ := (hR.2.2.1 j hj).2 z e2
      have hn := h8.2.1
      have ewi := ev9_wi (i := i) (n := z.2.1) (by omega) (h := mH b x s)
      dsimp only
      rcases iIx_cases i (n := z.2.1) (by omega) with ⟨g, y⟩ | ⟨q, hq, rfl, g⟩
      · rw [g] at ewi ⊢
        simp only [X9_element_0, X9_element_1, X9_element_2, X9_element_4 ew, X9_element_7, X9_element_10, X9_element_11, X9_element_12 er mH_obj, X9_element_15, X9_element_18, X9_element_19, X9_element_20, X9_element_21, X9_element_24, X9_element_25, X9_element_26, X9_element_27, X9_element_28 ewi, X9_element_31, X9_element_34, X9_element_35, X9_element_38, X9_element_41, X9_element_42, X9_element_43, X9_element_44, X9_element_45, X9_element_46, X9_element_49, X9_element_50, iOb_some, iClr_i, iClr_r, iClr_n, iClr_u, iClr_l, rf_s, rf_n, iB_0, iSum_nil, Option.isSome_some, Option.isSome_none, Bool.true_eq_false, if_false, if_true, mg12, ml12 hj, f1, i_w1]
        exact fin 0
      · rw [g] at ewi ⊢
        simp only [X9_element_0, X9_element_1, X9_element_2, X9_element_4 ew, X9_element_7, X9_element_10, X9_element_11, X9_element_12 er mH_obj, X9_element_15, X9_element_18, X9_element_19, X9_element_20, X9_element_21, X9_element_24, X9_element_25, X9_element_26, X9_element_27, X9_element_28 ewi, X9_element_31, X9_element_34, X9_element_35, X9_element_38, X9_element_41, X9_element_42, X9_element_43, X9_element_44, X9_element_45, X9_element_46, X9_element_49, X9_element_50, iOb_some, iClr_i, iClr_r, iClr_n, iClr_u, iClr_l, rf_s, rf_n, iB_0, iSum_nil, Option.isSome_some, Bool.true_eq_false, if_false, mg12, ml12 hj, f1, i_w1, mg13, i160, ml13 (show 160 * j + q < 1280 by omega), f2 q hq]
        exact fin _
-- says
def aSays (W : wW) (s a : Int32) : Int32 × wW := match iIx s 8, iIx a 4 with
  | some i, some a => match (W.2.2.1 i).1 with
    | some _ => (-2, wRef W 2)
    | none => match iIx (W.2.2.1 i).2 W.1.2.2.1 with
      | none => (-3, wRef W 3)
      | some p => if pIs (W.1.2.2.2.1 p).2.2.2.1 (nI a) = true then (pSays (nI a) (W.1.2.2.2.1 p).1 (W.1.2.2.2.1 p).2.1 (W.1.2.2.2.1 p).2.2.2.2.1, W) else (-2, wRef W 2)
  | _, _ => (-1, wRef W 1)
theorem c8_says (hR : cRep h o W) (hW : wOk W) (s a : Int32) : ∃ r h1, iEv mX8_says [.ref o, .int s, .int a] h r h1 ∧ c8P h o (aSays W s a) r h1 := by
  obtain ⟨sN, im, R, sh, rf, n, k, E, C, T, P, hR⟩ := hR
  refine I8_says ?_
  unfold aSays
  have es := c8_isShelf (h := h) s
  rcases iIx_cases s (n := 8) (by decide) with ⟨e, z⟩ | ⟨j, hj, rfl, e⟩
  · rw [e] at es ⊢
    simp only [X8_says_0, X8_says_1 es, X8_says_4, X8_says_7, X8_says_8, X8_says_11, X8_says_12, X8_says_13, X8_says_16, X8_says_17, X8_says_18 (ev8_refuse hR (v := -1) (r := 1) (by decide) (by decide) rfl) hR.ob, X8_says_21, iOb_some, iClr_i, iClr_r, iClr_n, iClr_u, iClr_l, rf_s, rf_n, iB_0, iSum_nil, Option.isSome_none, if_true]
    exact c8_end hR (by decide)
  · rw [e] at es ⊢
    rcases iIx_cases a (n := 4) (by decide) with ⟨f, y⟩ | ⟨l, hl, rfl, f⟩
    · rw [f]
      by_cases c : a < 0
      · simp only [X8_says_0, X8_says_1 es, X8_says_4, X8_says_7, X8_says_8, X8_says_11, X8_says_12, X8_says_13, X8_says_16, X8_says_17, X8_says_18 (ev8_refuse hR (v := -1) (r := 1) (by decide) (by decide) rfl) hR.ob, X8_says_21, iOb_some, iClr_i, iClr_r, iClr_n, iClr_u, iClr_l, rf_s, rf_n, iB_0, iSum_nil, Option.isSome_some, Bool.true_eq_false, if_false, if_pos c]
        exact c8_end hR (by decide)
      · have c2 : ¬ a ≤ 3 := fun z => absurd (Int32.le_trans (y.resolve_left c) z) (by decide)
        simp only [X8_says_0, X8_says_1 es, X8_says_4, X8_says_7, X8_says_8, X8_says_11, X8_says_12, X8_says_13, X8_says_16, X8_says_17, X8_says_18 (ev8_refuse hR (v := -1) (r := 1) (by decide) (by decide) rfl) hR.ob, X8_says_21, iOb_some, iClr_i, iClr_r, iClr_n, iClr_u, iClr_l, rf_s, rf_n, iB_0, iSum_nil, Option.isSome_some, Bool.true_eq_false, if_false, if_neg c, if_neg c2]
        exact c8_end hR (by decide)
    · rw [f]
      dsimp only
      have c1 : ¬ nI l < 0 := nI_pos (by omega)
      have c2 : nI l ≤ 3 := nI_le (a := l) (b := 3) (by omega) (by decide)
      cases e2 : (W.2.2.1 j).1 with
      | some z =>
        obtain ⟨a, f, r1, r2, r3, -⟩ := hR.rS hj e2
        simp only [X8_says_0, X8_says_1 es, X8_says_4, X8_says_7, X8_says_8, X8_says_11, X8_says_12, X8_says_13, X8_says_16, X8_says_17, X8_says_21, X8_says_22, X8_says_23, X8_says_24 (c8_row hR hj r1) hR.ob, X8_says_27, X8_says_27n, X8_says_30, X8_says_31, X8_says_33 (ev8_refuse hR (v := -2) (r := 2) (by decide) (by decide) rfl) hR.ob, X8_says_36, iOb_some, iClr_i, iClr_r, iClr_n, iClr_u, iClr_l, rf_s, rf_n, iB_0, iSum_nil, Option.isSome_some, Bool.true_eq_false, if_false, if_neg c1, if_pos c2]
        exact c8_end hR (by decide)
      | none =>
        have hrow := c8_rowN hR (i := nI j) (fun q hq => by rw [e] at hq; cases hq; exact e2)
        have hp16 := hW.1.2.1
        dsimp only
        rcases iIx_cases (W.2.2.1 j).2 (n := W.1.2.2.1) (by omega) with ⟨g, y⟩ | ⟨p, hp, ep, g⟩
        · rw [g]
          simp only [X8_says_0, X8_says_1 es, X8_says_4, X8_says_7, X8_says_8, X8_says_11, X8_says_12, X8_says_13, X8_says_16, X8_says_17, X8_says_21, X8_says_22, X8_says_23, X8_says_24 hrow hR.ob, X8_says_27, X8_says_27n, X8_says_30, X8_says_31, X8_says_36, X8_says_37, X8_says_38, X8_says_39, X8_says_42, X8_says_43, X8_says_44 (c8_patchN hR y) hR.ob, X8_says_47, X8_says_47n, X8_says_48, X8_says_48n, X8_says_49, X8_says_49n, X8_says_52, X8_says_53, X8_says_55 (ev8_refuse hR (v := -3) (r := 3) (by decide) (by decide) rfl) hR.ob, X8_says_58, iOb_some, iClr_i, iClr_r, iClr_n, iClr_u, iClr_l, rf_s, rf_n, iB_0, iSum_nil, Option.isSome_some, Bool.true_eq_false, if_false, if_neg c1, if_pos c2, hR.g1, hR.lS hj, hR.shv hj]
          exact c8_end hR (by decide)
        · rw [g]
          obtain ⟨a, e1, hB⟩ := c8_patch hR hp
          obtain ⟨E', C', hP, hG, hC⟩ := hB.pt
          rw [← ep] at e1
          have ei := ev_pisOf hP (nI l)
          dsimp only
          by_cases c3 : pIs (W.1.2.2.2.1 p).2.2.2.1 (nI l) = true
          · rw [if_pos c3]
            rw [c3] at ei
            simp only [X8_says_0, X8_says_1 es, X8_says_4, X8_says_7, X8_says_8, X8_says_11, X8_says_12, X8_says_13, X8_says_16, X8_says_17, X8_says_21, X8_says_22, X8_says_23, X8_says_24 hrow hR.ob, X8_says_27, X8_says_27n, X8_says_30, X8_says_31, X8_says_36, X8_says_37, X8_says_38, X8_says_39, X8_says_42, X8_says_43, X8_says_44 e1 hR.ob, X8_says_47, X8_says_47n, X8_says_48, X8_says_48n, X8_says_49, X8_says_49n, X8_says_52, X8_says_53, X8_says_58, X8_says_59, X8_says_59n, X8_says_60, X8_says_61 ei hP.o, X8_says_64, X8_says_67, X8_says_68, X8_says_73, X8_says_74, X8_says_74n, X8_says_75, X8_says_76 (ev_psays hP (nI l)) hP.o, X8_says_79, iOb_some, iClr_i, iClr_r, iClr_n, iClr_u, iClr_l, rf_s, rf_n, iB_0, iSum_nil, Option.isSome_some, Bool.true_eq_false, if_false, if_neg c1, if_pos c2, hR.g1, hR.lS hj, hR.shv hj]
            exact c8_same hR
          · rw [if_neg c3]
            rw [Bool.eq_false_iff.mpr c3] at ei
            simp only [X8_says_0, X8_says_1 es, X8_says_4, X8_says_7, X8_says_8, X8_says_11, X8_says_12, X8_says_13, X8_says_16, X8_says_17, X8_says_21, X8_says_22, X8_says_23, X8_says_24 hrow hR.ob, X8_says_27, X8_says_27n, X8_says_30, X8_says_31, X8_says_36, X8_says_37, X8_says_38, X8_says_39, X8_says_42, X8_says_43, X8_says_44 e1 hR.ob, X8_says_47, X8_says_47n, X8_says_48, X8_says_48n, X8_says_49, X8_says_49n, X8_says_52, X8_says_53, X8_says_58, X8_says_59, X8_says_59n, X8_says_60, X8_says_61 ei hP.o, X8_says_64, X8_says_67, X8_says_68, X8_says_70 (ev8_refuse hR (v := -2) (r := 2) (by decide) (by decide) rfl) hR.ob, X8_says_73, X8_says_74, X8_says_74n, X8_says_75, X8_says_79, iOb_some, iClr_i, iClr_r, iClr_n, iClr_u, iClr_l, rf_s, rf_n, iB_0, iSum_nil, Option.isSome_some, Bool.true_eq_false, if_false, if_true, if_neg c1, if_pos c2, hR.g1, hR.lS hj, hR.shv hj]
            exact c8_end hR (by decide)
theorem m9_says (hR : mRel s W) (hW : wOk W) (v a : Int32) : ∃ r h1, iEv mX9_says [.ref x, .int v, .int a] (mH b x s) r h1 ∧ m9P b x (aSays W v a) r h1 := by
  refine I9_says ?_
  unfold aSays
  have ew := ev9_wi7 (i := v) (h := mH b x s)
  have ew2 := ev9_wiN (i := a) (n := 4) (m1 := 3) (by decide) rfl (h := mH b x s)
  rcases iIx_cases v (n := 8) (by decide) with ⟨e, z⟩ | ⟨j, hj, rfl, e⟩
  · rw [e] at ew ⊢
    simp only [X9_says_0, X9_says_1, X9_says_2, X9_says_4 ew, X9_says_7, X9_says_10, X9_says_11, X9_says_12, X9_says_16, X9_says_19, X9_says_20, X9_says_21 (ev9_noV (v := -1) (r := 1) (by decide) rfl) mH_obj, X9_says_24, iOb_some, iClr_i, iClr_r, iClr_n, iClr_u, iClr_l, rf_s, rf_n, iB_0, iSum_nil, Option.isSome_none, if_true]
    exact m9_rf hR (by decide)
  · rw [e] at ew ⊢
    rcases iIx_cases a (n := 4) (by decide) with ⟨f, y⟩ | ⟨l, hl, rfl, f⟩
    · rw [f] at ew2 ⊢
      simp only [X9_says_0, X9_says_1, X9_says_2, X9_says_4 ew, X9_says_7, X9_says_10, X9_says_11, X9_says_12, X9_says_13 ew2, X9_says_16, X9_says_19, X9_says_20, X9_says_21 (ev9_noV (v := -1) (r := 1) (by decide) rfl) mH_obj, X9_says_24, iOb_some, iClr_i, iClr_r, iClr_n, iClr_u, iClr_l, rf_s, rf_n, iB_0, iSum_nil, Option.isSome_none, Option.isSome_some, Bool.true_eq_false, if_false, if_true]
      exact m9_rf hR (by decide)
    · rw [f] at ew2 ⊢
      dsimp only
      have er := ev9_isRow (b := b) (x := x) hR hW hj
      have h1 := hold_row (hW.2.2 j hj) hW.1.2.1
      have hh := (hR.2.2.1 j hj).1
      have h8 := hW.2.2 j hj
      unfold shOk at h8
      cases e2 : (W.2.2.1 j).1 with
      | some z =>
        rw [e2] at er
        have c2 : ¬ hHold (W.2.2.1 j) < 0 := fun z => by
          have := (h1.2.2.mp z).1
          rw [e2] at this
          cases this
        simp only [X9_says_0, X9_says_1, X9_says_2, X9_says_4 ew, X9_says_7, X9_says_10, X9_says_11, X9_says_12, X9_says_13 ew2, X9_says_16, X9_says_19, X9_says_20, X9_says_24, X9_says_25, X9_says_26, X9_says_29, X9_says_30, X9_says_31, X9_says_32, X9_says_33, X9_says_36, X9_says_37, X9_says_38 er mH_obj, X9_says_41, iOb_some, iClr_i, iClr_r, iClr_n, iClr_u, iClr_l, rf_s, rf_n, iB_0, iSum_nil, Option.isSome_some, Bool.true_eq_false, if_false, mg11, ml11 hj, hh, if_neg c2]
        simp only [X9_says_89, X9_says_90, X9_says_92 (ev9_noV (v := -2) (r := 2) (by decide) rfl) mH_obj, X9_says_95, iOb_some, iClr_i, iClr_r, iClr_n, iClr_u, iClr_l, rf_s, rf_n, iB_0, iSum_nil]
        exact m9_rf hR (by decide)
      | none =>
        rw [e2] at er h8
        dsimp only at h8 ⊢
        have hv : hHold (W.2.2.1 j) = (W.2.2.1 j).2 := by unfold hHold; rw [e2]
        rw [hv] at hh
        have hp16 := hW.1.2.1
        rcases h8 with h8 | ⟨p, hp, h8⟩
        · rw [h8] at hh ⊢
          rw [iIx_n (i := -1) (Or.inl (by decide))]
          simp only [X9_says_0, X9_says_1, X9_says_2, X9_says_4 ew, X9_says_7, X9_says_10, X9_says_11, X9_says_12, X9_says_13 ew2, X9_says_16, X9_says_19, X9_says_20, X9_says_24, X9_says_25, X9_says_26, X9_says_29, X9_says_30, X9_says_31, X9_says_32, X9_says_33, iOb_some, iClr_i, iClr_r, iClr_n, iClr_u, iClr_l, rf_s, rf_n, iB_0, iSum_nil, Option.isSome_some, Bool.true_eq_false, if_false, mg11, ml11 hj, hh, if_pos (show (-1 : Int32) < 0 by decide)]
          simp only [X9_says_96, X9_says_97, X9_says_100, X9_says_101, X9_says_103 (ev9_noV (v := -3) (r := 3) (by decide) rfl) mH_obj, X9_says_106, iOb_some, iClr_i, iClr_r, iClr_n, iClr_u, iClr_l, rf_s, rf_n, iB_0, iSum_nil, if_neg (show ¬ (0 : Int32) ≤ -1 by decide)]
          exact m9_rf hR (by decide)
        · rw [h8] at hh ⊢
          rw [iIx_s hp (by omega)]
          have hp6 : p < 16 := by omega
          obtain ⟨p1, p2, p3, p4, p5, p6, p7⟩ := hR.1.2.2.2.2 p hp
          have eo0 := ev9_of (b := b) (x := x) (s := s) (w := 0) (by decide) hp6
          have eo2 := ev9_of (b := b) (x := x) (s := s) (w := 2) (by decide) hp6
          have eo3 := ev9_of (b := b) (x := x) (s := s) (w := 3) (by decide) hp6
          have eo4 := ev9_of (b := b) (x := x) (s := s) (w := 4) (by decide) hp6
          rw [show 16 * 0 + p = p by omega, p1, show nI 0 = (0 : Int32) from rfl] at eo0
          rw [show 16 * 2 + p = 32 + p by omega, p3, show nI 2 = (2 : Int32) from rfl] at eo2
          rw [show 16 * 3 + p = 48 + p by omega, p4, show nI 3 = (3 : Int32) from rfl] at eo3
          rw [show 16 * 4 + p = 64 + p by omega, p5, show nI 4 = (4 : Int32) from rfl] at eo4
          have hso := (hW.1.2.2.2 p hp).2.2.2.1
          dsimp only
          generalize (W.1.2.2.2.1 p).2.2.2.1 = so at eo2 hso ⊢
          have cp : ¬ nI p < 0 := nI_pos (by omega)
          have cp2 : (0 : Int32) ≤ nI p := nI_pos' (by omega)
          rw [Option.isSome_none] at er
          have tail0 : iWp 2 mX9_says 96 [.ref x, .int (nI j), .int (nI l), .int (nI p)] [] (mH b x s) (m9P b x (pSays (nI l) (W.1.2.2.2.1 p).1 (W.1.2.2.2.1 p).2.1 (W.1.2.2.2.1 p).2.2.2.2.1, W)) := by
            match l, hl with
            | 0, _ =>
              simp only [X9_says_96, X9_says_97, X9_says_100, X9_says_101, X9_says_106, X9_says_107, X9_says_108, X9_says_109, X9_says_112, X9_says_113, X9_says_114, X9_says_115 eo0 mH_obj, X9_says_118, X9_says_121, X9_says_122, X9_says_123, X9_says_126, X9_says_127, X9_says_128, X9_says_132, X9_says_135, X9_says_136, X9_says_137, X9_says_141, iOb_some, iClr_i, iClr_r, iClr_n, iClr_u, iClr_l, rf_s, rf_n, iB_0, iSum_nil, if_pos cp2, if_neg (show ¬ (2 : Int32) ≤ nI 0 by decide)]
              exact m9_same hR
            | 1, _ =>
              simp only [X9_says_96, X9_says_97, X9_says_100, X9_says_101, X9_says_106, X9_says_107, X9_says_108, X9_says_109, X9_says_112, X9_says_113, X9_says_114, X9_says_115 eo0 mH_obj, X9_says_118, X9_says_121, X9_says_122, X9_says_123, X9_says_126, X9_says_127, X9_says_128, X9_says_132, X9_says_135, X9_says_136, X9_says_137, X9_says_141, iOb_some, iClr_i, iClr_r, iClr_n, iClr_u, iClr_l, rf_s, rf_n, iB_0, iSum_nil, if_pos cp2, if_neg (show ¬ (2 : Int32) ≤ nI 1 by decide)]
              exact m9_same hR
            | 2, _ =>
              simp only [X9_says_96, X9_says_97, X9_says_100, X9_says_101, X9_says_106, X9_says_107, X9_says_108, X9_says_109, X9_says_112, X9_says_113, X9_says_114, X9_says_118, X9_says_121, X9_says_122, X9_says_123, X9_says_126, X9_says_127, X9_says_128, X9_says_129 eo3 mH_obj, X9_says_132, X9_says_135, X9_says_136, X9_says_137, X9_says_141, iOb_some, iClr_i, iClr_r, iClr_n, iClr_u, iClr_l, rf_s, rf_n, iB_0, iSum_nil, if_pos cp2, if_pos (show (2 : Int32) ≤ nI 2 by decide), if_pos (show nI 2 = 2 by decide)]
              exact m9_same hR
            | 3, _ =>
              simp only [X9_says_96, X9_says_97, X9_says_100, X9_says_101, X9_says_106, X9_says_107, X9_says_108, X9_says_109, X9_says_112, X9_says_113, X9_says_114, X9_says_118, X9_says_121, X9_says_122, X9_says_123, X9_says_126, X9_says_127, X9_says_128, X9_says_132, X9_says_135, X9_says_136, X9_says_137, X9_says_138 eo4 mH_obj, X9_says_141, iOb_some, iClr_i, iClr_r, iClr_n, iClr_u, iClr_l, rf_s, rf_n, iB_0, iSum_nil, if_pos cp2, if_pos (show (2 : Int32) ≤ nI 3 by decide), if_neg (show ¬ nI 3 = 2 by decide)]
              exact m9_same hR
          have bad : iWp 2 mX9_says 89 [.ref x, .int (nI j), .int (nI l), .int (nI p)] [] (mH b x s) (m9P b x (-2, wRef W 2)) := by
            simp only [X9_says_89, X9_says_90, X9_says_92 (ev9_noV (v := -2) (r := 2) (by decide) rfl) mH_obj, X9_says_95, iOb_some, iClr_i, iClr_r, iClr_n, iClr_u, iClr_l, rf_s, rf_n, iB_0, iSum_nil]
            exact m9_rf hR (by decide)
          simp only [X9_says_0, X9_says_1, X9_says_2, X9_says_4 ew, X9_says_7, X9_says_10, X9_says_11, X9_says_12, X9_says_13 ew2, X9_says_16, X9_says_19, X9_says_20, X9_says_24, X9_says_25, X9_says_26, X9_says_29, X9_says_30, X9_says_31, X9_says_32, X9_says_33, X9_says_36, X9_says_37, X9_says_38 er mH_obj, X9_says_41, iOb_some, iClr_i, iClr_r, iClr_n, iClr_u, iClr_l, rf_s, rf_n, iB_0, iSum_nil, Option.isSome_some, Bool.true_eq_false, if_false, if_true, mg11, ml11 hj, hh, if_neg cp]
          match l, hl, tail0, bad with
          | 0, _, tail0, bad =>
            rw [if_pos (show pIs so (nI 0) = true from rfl)]
            simp only [X9_says_44, X9_says_45, X9_says_46, X9_says_49, X9_says_50, X9_says_51, X9_says_55, X9_says_56, X9_says_59, X9_says_60, X9_says_61, X9_says_64, X9_says_65, X9_says_66, X9_says_70, X9_says_71, X9_says_74, X9_says_75, X9_says_76, X9_says_79, X9_says_80, X9_says_81, X9_says_85, X9_says_86, iOb_some, iClr_i, iClr_r, iClr_n, iClr_u, iClr_l, rf_s, rf_n, iB_0, iSum_nil, if_neg (show ¬ nI 0 = 1 by decide), if_neg (show ¬ nI 0 = 2 by decide), if_neg (show ¬ nI 0 = 3 by decide)]
            exact tail0
          | 1, _, tail0, bad =>
            simp only [X9_says_44, X9_says_45, X9_says_46, X9_says_49, X9_says_50, X9_says_51, X9_says_52 eo2 mH_obj, X9_says_55, X9_says_56, X9_says_59, X9_says_60, X9_says_61, X9_says_64, X9_says_65, X9_says_66, X9_says_70, X9_says_71, X9_says_74, X9_says_75, X9_says_76, X9_says_79, X9_says_80, X9_says_81, X9_says_85, X9_says_86, iOb_some, iClr_i, iClr_r, iClr_n, iClr_u, iClr_l, rf_s, rf_n, iB_0, iSum_nil, if_pos (show nI 1 = 1 by decide), if_neg (show ¬ nI 1 = 2 by decide), if_neg (show ¬ nI 1 = 3 by decide)]
            rcases hso with z | z | z | z <;> subst z
            · rw [if_neg (show ¬ pIs 0 (nI 1) = true by decide), if_neg (show ¬ (0 : Int32) = 1 by decide)]
              exact bad
            · rw [if_pos (show pIs 1 (nI 1) = true by decide), if_pos rfl]
              exact tail0
            · rw [if_neg (show ¬ pIs 2 (nI 1) = true by decide), if_neg (show ¬ (2 : Int32) = 1 by decide)]
              exact bad
            · rw [if_neg (show ¬ pIs 3 (nI 1) = true by decide), if_neg (show ¬ (3 : Int32) = 1 by decide)]
              exact bad
          | 2, _, tail0, bad =>
            simp only [X9_says_44, X9_says_45, X9_says_46, X9_says_49, X9_says_50, X9_says_51, X9_says_55, X9_says_56, X9_says_59, X9_says_60, X9_says_61, X9_says_64, X9_says_65, X9_says_66, X9_says_67 eo2 mH_obj, X9_says_70, X9_says_71, X9_says_74, X9_says_75, X9_says_76, X9_says_79, X9_says_80, X9_says_81, X9_says_85, X9_says_86, iOb_some, iClr_i, iClr_r, iClr_n, iClr_u, iClr_l, rf_s, rf_n, iB_0, iSum_nil, if_neg (show ¬ nI 2 = 1 by decide), if_pos (show nI 2 = 2 by decide), if_neg (show ¬ nI 2 = 3 by decide)]
            rcases hso with z | z | z | z <;> subst z
            · rw [if_neg (show ¬ pIs 0 (nI 2) = true by decide), if_pos (show (0 : Int32) < 2 by decide)]
              exact bad
            · rw [if_neg (show ¬ pIs 1 (nI 2) = true by decide), if_pos (show (1 : Int32) < 2 by decide)]
              exact bad
            · rw [if_pos (show pIs 2 (nI 2) = true by decide), if_neg (show ¬ (2 : Int32) < 2 by decide)]
              exact tail0
            · rw [if_pos (show pIs 3 (nI 2) = true by decide), if_neg (show ¬ (3 : Int32) < 2 by decide)]
              exact tail0
          | 3, _, tail0, bad =>
            simp only [X9_says_44, X9_says_45, X9_says_46, X9_says_49, X9_says_50, X9_says_51, X9_says_55, X9_says_56, X9_says_59, X9_says_60, X9_says_61, X9_says_64, X9_says_65, X9_says_66, X9_says_70, X9_says_71, X9_says_74, X9_says_75, X9_says_76, X9_says_79, X9_says_80, X9_says_81, X9_says_82 eo2 mH_obj, X9_says_85, X9_says_86, iOb_some, iClr_i, iClr_r, iClr_n, iClr_u, iClr_l, rf_s, rf_n, iB_0, iSum_nil, if_neg (show ¬ nI 3 = 1 by decide), if_neg (show ¬ nI 3 = 2 by decide), if_pos (show nI 3 = 3 by decide)]
            rcases hso with z | z | z | z <;> subst z
            · rw [if_neg (show ¬ pIs 0 (nI 3) = true by decide), if_neg (show ¬ (0 : Int32) = 3 by decide)]
              exact bad
            · rw [if_neg (show ¬ pIs 1 (nI 3) = true by decide), if_neg (show ¬ (1 : Int32) = 3 by decide)]
              exact bad
            · rw [if_neg (show ¬ pIs 2 (nI 3) = true by decide), if_neg (show ¬ (2 : Int32) = 3 by decide)]
              exact bad
            · rw [if_pos (show pIs 3 (nI 3) = true by decide), if_pos rfl]
              exact tail0
end READS6

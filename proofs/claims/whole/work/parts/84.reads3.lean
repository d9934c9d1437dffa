/-! calls that only read trees: child, above -/
section READS3
variable {h : iHp} {o sN n k i j x : Nat} {im : Option Nat} {R E P : Nat → Option Nat} {sh rf C : Nat → Int32} {W : wW} {b : iHp} {s : mS} {w : sT} {K B D : Nat → Int32} {d : Nat → Nat} {g pl : Nat}
theorem spot_child (hK : kOk K n) (hd : dEq D d n) (h : dOk d n) (hg : g < n) (hp : pl ≤ tKids D n g) : tSpot D n g (nI pl) (-1) = tChild D n g pl := by
  have hn := hK.le
  have hk := tKids_le (D := D) (n := n) (i := g)
  have hf : eFitG (e7 2 0 0 0 (nI pl) 0 0) n K D none (some g) = true := decide_eq_true ⟨rfl, nI_pos (show pl < 2 ^ 31 by omega), Int32.not_lt.mpr (nI_le hp (by omega)), by omega⟩
  obtain ⟨p2, c, -, e1, e5, e2, e3, -⟩ := fitG_n hK hd h hg hf
  have e1 : nI pl = nI p2 := e1
  have e4 : pl = p2 := (nI_eq (by omega) (by omega)).mp e1
  subst e4
  exact e2.trans e3.symm
theorem child_lt (hd : dEq D d n) (h : dOk d n) (hg : g < n) (hp : pl < tKids D n g) : tChild D n g pl < n := by
  rw [nKids_of hd hg] at hp
  rw [nChild_of hd hg]
  have hE := nEnd_spec (d := d) hg
  have a := nChild_at h hg (pl := pl) (by omega)
  rcases Nat.lt_or_ge (nChild d n g pl) (nEnd d n g) with w | w
  · omega
  · have e : nChild d n g pl = nEnd d n g := by have := a.2.1; omega
    have := a.2.2.2
    rw [e, ← nKids_ct] at this
    omega
def aChild (W : wW) (t ky pl : Int32) : Int32 × wW := match iIx t W.1.1 with
  | none => (-1, wRef W 1)
  | some j => match tWhere (W.1.2.1 j).2.1 (W.1.2.1 j).1 ky with
    | none => (-5, wRef W 5)
    | some i => match iIx pl (tKids (W.1.2.1 j).2.2.2 (W.1.2.1 j).1 i) with
      | none => (-5, wRef W 5)
      | some p => ((W.1.2.1 j).2.1 (tChild (W.1.2.1 j).2.2.2 (W.1.2.1 j).1 i p), W)
theorem c8_child (hR : cRep h o W) (hW : wOk W) (t ky pl : Int32) : ∃ r h1, iEv mX8_child [.ref o, .int t, .int ky, .int pl] h r h1 ∧ c8P h o (aChild W t ky pl) r h1 := by
  obtain ⟨sN, im, R, sh, rf, n, k, E, C, T, P, hR⟩ := hR
  refine I8_child ?_
  unfold aChild
  rcases iIx_cases t (n := W.1.1) (by have := hW.1.1; omega) with ⟨e, z⟩ | ⟨j, hj, rfl, e⟩
  · rw [e]
    simp only [X8_child_0, X8_child_1, X8_child_2 (c8_treeN hR z) hR.ob, X8_child_5, X8_child_5n, X8_child_7, X8_child_7n, X8_child_9, X8_child_9n, X8_child_12, X8_child_13, X8_child_14 (ev8_refuse hR (v := -1) (r := 1) (by decide) (by decide) rfl) hR.ob, X8_child_17, iOb_some, iClr_i, iClr_r, iClr_n, iClr_u, iClr_l, rf_s, rf_n, iB_0, iSum_nil]
    exact c8_end hR (by decide)
  · rw [e]
    dsimp only
    obtain ⟨a, K, B, D, e1, e2, e3, e4⟩ := c8_tree hR hj
    have hT := e3.symm.ok (hW.1.2.2.1 j hj)
    obtain ⟨hK, d, hd, h5⟩ := hT
    dsimp only at hK hd h5
    have h60 := hK.le
    have eKK : ∀ j' < (W.1.2.1 j).1, K j' = (W.1.2.1 j).2.1 j' := fun j' hj' => (e3.2 j' hj').1
    have eDD : ∀ j' < (W.1.2.1 j).1, D j' = (W.1.2.1 j).2.2.2 j' := fun j' hj' => (e3.2 j' hj').2.2
    have ew := ev_whereOf e2 ky
    rw [← tWhere_congr eKK]
    cases hw : tWhere K (W.1.2.1 j).1 ky with
    | none =>
      rw [hw] at ew
      simp only [X8_child_0, X8_child_1, X8_child_2 e1 hR.ob, X8_child_5, X8_child_5n, X8_child_7, X8_child_7n, X8_child_9, X8_child_9n, X8_child_12, X8_child_13, X8_child_17, X8_child_18, X8_child_18n, X8_child_20, X8_child_21 ew e2.o, X8_child_24, X8_child_26, X8_child_28, X8_child_29, X8_child_32, X8_child_33, X8_child_36, X8_child_37, X8_child_37n, X8_child_39, X8_child_44, X8_child_47, X8_child_48, X8_child_50 (ev8_refuse hR (v := -5) (r := 5) (by decide) (by decide) rfl) hR.ob, X8_child_53, iOb_some, iClr_i, iClr_r, iClr_n, iClr_u, iClr_l, rf_s, rf_n, iB_0, iSum_nil, oI_n, if_true]
      exact c8_end hR (by decide)
    | some i =>
      rw [hw] at ew
      have hi := (tWhere_lt hw).1
      have hkl := tKids_le (D := D) (n := (W.1.2.1 j).1) (i := i)
      dsimp only
      rw [← cKids hd eDD hi]
      rcases iIx_cases pl (n := tKids D (W.1.2.1 j).1 i) (by omega) with ⟨f, z⟩ | ⟨q, hq, rfl, f⟩
      · rw [f]
        by_cases c : pl < 0
        · simp only [X8_child_0, X8_child_1, X8_child_2 e1 hR.ob, X8_child_5, X8_child_5n, X8_child_7, X8_child_7n, X8_child_9, X8_child_9n, X8_child_12, X8_child_13, X8_child_17, X8_child_18, X8_child_18n, X8_child_20, X8_child_21 ew e2.o, X8_child_24, X8_child_26, X8_child_28, X8_child_29, X8_child_32, X8_child_33, X8_child_36, X8_child_37, X8_child_37n, X8_child_39, X8_child_44, X8_child_47, X8_child_48, X8_child_50 (ev8_refuse hR (v := -5) (r := 5) (by decide) (by decide) rfl) hR.ob, X8_child_53, iOb_some, iClr_i, iClr_r, iClr_n, iClr_u, iClr_l, rf_s, rf_n, iB_0, iSum_nil, oI_s, if_neg (oI_ne (show i < 2 ^ 31 by omega)), if_pos c]
          exact c8_end hR (by decide)
        · simp only [X8_child_0, X8_child_1, X8_child_2 e1 hR.ob, X8_child_5, X8_child_5n, X8_child_7, X8_child_7n, X8_child_9, X8_child_9n, X8_child_12, X8_child_13, X8_child_17, X8_child_18, X8_child_18n, X8_child_20, X8_child_21 ew e2.o, X8_child_24, X8_child_26, X8_child_28, X8_child_29, X8_child_32, X8_child_33, X8_child_36, X8_child_37, X8_child_37n, X8_child_39, X8_child_41 (ev_childCount e2 hi) e2.o, X8_child_44, X8_child_47, X8_child_48, X8_child_50 (ev8_refuse hR (v := -5) (r := 5) (by decide) (by decide) rfl) hR.ob, X8_child_53, iOb_some, iClr_i, iClr_r, iClr_n, iClr_u, iClr_l, rf_s, rf_n, iB_0, iSum_nil, oI_s, if_neg (oI_ne (show i < 2 ^ 31 by omega)), if_neg c, if_neg (Int32.not_lt.mpr (z.resolve_left c))]
          exact c8_end hR (by decide)
      · rw [f]
        have es := ev_spot e2 hi (nI q) (-1)
        rw [spot_child hK hd h5 hi (by omega)] at es
        have ek := ev_keyAt e2 (child_lt hd h5 hi hq)
        have hlt := child_lt hd h5 hi hq
        simp only [X8_child_0, X8_child_1, X8_child_2 e1 hR.ob, X8_child_5, X8_child_5n, X8_child_7, X8_child_7n, X8_child_9, X8_child_9n, X8_child_12, X8_child_13, X8_child_17, X8_child_18, X8_child_18n, X8_child_20, X8_child_21 ew e2.o, X8_child_24, X8_child_26, X8_child_28, X8_child_29, X8_child_32, X8_child_33, X8_child_36, X8_child_37, X8_child_37n, X8_child_39, X8_child_41 (ev_childCount e2 hi) e2.o, X8_child_44, X8_child_47, X8_child_48, X8_child_53, X8_child_54, X8_child_54n, X8_child_56, X8_child_56n, X8_child_58, X8_child_60, X8_child_61, X8_child_62 es e2.o, X8_child_65 ek e2.o, X8_child_68, iOb_some, iClr_i, iClr_r, iClr_n, iClr_u, iClr_l, rf_s, rf_n, iB_0, iSum_nil, oI_s, if_neg (oI_ne (show i < 2 ^ 31 by omega)), if_neg (nI_pos (show q < 2 ^ 31 by omega)), if_pos (nI_lt hq (show tKids D (W.1.2.1 j).1 i < 2 ^ 31 by omega))]
        rw [cChild hd eDD hi] at hlt ⊢
        rw [eKK _ hlt]
        exact c8_same hR
theorem m9_child (hR : mRel s W) (hW : wOk W) (t ky pl : Int32) : ∃ r h1, iEv mX9_child_ [.ref x, .int t, .int ky, .int pl] (mH b x s) r h1 ∧ m9P b x (aChild W t ky pl) r h1 := by
  refine I9_child_ ?_
  unfold aChild
  have et := ev9_isTree (b := b) (x := x) hR.1 hW.1.1 (t := t)
  rcases iIx_cases t (n := W.1.1) (by have := hW.1.1; omega) with ⟨e, z⟩ | ⟨j, hj, rfl, e⟩
  · rw [e] at et ⊢
    simp only [X9_child__0, X9_child__1, X9_child__2 et mH_obj, X9_child__5, X9_child__8, X9_child__9, X9_child__10 (ev9_noV (v := -1) (r := 1) (by decide) rfl) mH_obj, X9_child__13, iOb_some, iClr_i, iClr_r, iClr_n, iClr_u, iClr_l, rf_s, rf_n, iB_0, iSum_nil, Option.isSome_none, if_true]
    exact m9_rf hR (by decide)
  · rw [e] at et ⊢
    dsimp only
    obtain ⟨⟨n, K, B, D⟩, s', e1, e2, e3, e4⟩ := ev9_loadsR (b := b) (x := x) hR.1 hW.1 hj
    have hT := e3.symm.ok (hW.1.2.2.1 j hj)
    obtain ⟨hK, d, hd, h5⟩ := hT
    obtain ⟨w1, w2, w3, w4⟩ := e2
    have en : n = (W.1.2.1 j).1 := e3.1
    dsimp only at hK hd h5 w1 w2 w3 w4
    have h60 := hK.le
    have eKK : ∀ j', j' < n → K j' = (W.1.2.1 j).2.1 j' := fun j' hj' => (e3.2 j' hj').1
    have eDD : ∀ j', j' < n → D j' = (W.1.2.1 j).2.2.2 j' := fun j' hj' => (e3.2 j' hj').2.2
    have e5 := ev9_find (b := b) (x := x) w1 (by omega) ky
    have hL := hR.ex (e4.mono LWX)
    rw [w2] at e5
    rw [← en, ← tWhere_congr eKK]
    cases hw : tWhere K n ky with
    | none =>
      rw [hw] at e5
      simp only [X9_child__0, X9_child__1, X9_child__2 et mH_obj, X9_child__5, X9_child__8, X9_child__9, X9_child__13, X9_child__14, X9_child__15, X9_child__16 e1 mH_obj, X9_child__19, X9_child__20, X9_child__21 e5 mH_obj, X9_child__24, X9_child__26, X9_child__28, X9_child__29, X9_child__32, X9_child__33, X9_child__34, X9_child__35, X9_child__40, X9_child__41, X9_child__45, X9_child__48, X9_child__49, X9_child__51 (ev9_noV (v := -5) (r := 5) (by decide) rfl) mH_obj, X9_child__54, iOb_some, iClr_i, iClr_r, iClr_n, iClr_u, iClr_l, rf_s, rf_n, iB_0, iSum_nil, Option.isSome_some, Bool.true_eq_false, if_false, oI_n, if_true]
      exact m9_rf hL (by decide)
    | some i =>
      rw [hw] at e5
      have hi := (tWhere_lt hw).1
      have hkl := tKids_le (D := D) (n := n) (i := i)
      dsimp only
      rw [← cKids hd eDD hi]
      have ec := ev9_children (b := b) (x := x) w1 (by omega) hi
      rw [w4] at ec
      have ew := ev9_wi (i := pl) (n := tKids D n i) (by omega) (h := mH b x s')
      rcases iIx_cases pl (n := tKids D n i) (by omega) with ⟨f, z⟩ | ⟨q, hq, rfl, f⟩
      · rw [f] at ew ⊢
        simp only [X9_child__0, X9_child__1, X9_child__2 et mH_obj, X9_child__5, X9_child__8, X9_child__9, X9_child__13, X9_child__14, X9_child__15, X9_child__16 e1 mH_obj, X9_child__19, X9_child__20, X9_child__21 e5 mH_obj, X9_child__24, X9_child__26, X9_child__28, X9_child__29, X9_child__32, X9_child__33, X9_child__34, X9_child__35, X9_child__37 ec mH_obj, X9_child__40, X9_child__41, X9_child__42 ew, X9_child__45, X9_child__48, X9_child__49, X9_child__51 (ev9_noV (v := -5) (r := 5) (by decide) rfl) mH_obj, X9_child__54, iOb_some, iClr_i, iClr_r, iClr_n, iClr_u, iClr_l, rf_s, rf_n, iB_0, iSum_nil, Option.isSome_some, Option.isSome_none, Bool.true_eq_false, if_false, oI_s, if_neg (oI_ne (show i < 2 ^ 31 by omega)), i_w1, if_true]
        exact m9_rf hL (by decide)
      · rw [f] at ew ⊢
        have ech := ev9_child (b := b) (x := x) w1 (by omega) (show q < 2 ^ 30 by omega) hi
        rw [w4] at ech
        have hlt := child_lt hd h5 hi hq
        simp only [X9_child__0, X9_child__1, X9_child__2 et mH_obj, X9_child__5, X9_child__8, X9_child__9, X9_child__13, X9_child__14, X9_child__15, X9_child__16 e1 mH_obj, X9_child__19, X9_child__20, X9_child__21 e5 mH_obj, X9_child__24, X9_child__26, X9_child__28, X9_child__29, X9_child__32, X9_child__33, X9_child__34, X9_child__35, X9_child__37 ec mH_obj, X9_child__40, X9_child__41, X9_child__42 ew, X9_child__45, X9_child__48, X9_child__49, X9_child__54, X9_child__55, X9_child__56, X9_child__59, X9_child__60, X9_child__62, X9_child__63 ech mH_obj, X9_child__66, X9_child__67, iOb_some, iClr_i, iClr_r, iClr_n, iClr_u, iClr_l, rf_s, rf_n, iB_0, iSum_nil, Option.isSome_some, Bool.true_eq_false, if_false, oI_s, if_neg (oI_ne (show i < 2 ^ 31 by omega)), i_w1, mg19, ml19 (show tChild D n i q < 66 by omega), w2]
        rw [cChild hd eDD hi] at hlt ⊢
        rw [eKK _ hlt]
        exact m9_same hL
-- above
theorem tLow_skip {p : Nat} : ∀ m, (∀ q, p < q → q ≤ p + m → ¬ (tIn D n i q = true ∧ tIn D n j q = true)) → tLow D n i j (p + m) = tLow D n i j p := by
  intro m
  induction m with
  | zero => intro _; rfl
  | succ m ih =>
    intro hq
    show (if tIn D n i (p + m + 1) = true ∧ tIn D n j (p + m + 1) = true then p + m + 1 else tLow D n i j (p + m)) = _
    rw [if_neg (hq _ (by omega) (by omega))]
    exact ih (fun q h1 h2 => hq q h1 (by omega))
theorem tIn_n (hd : dEq D d n) {q r : Nat} (hr : r < n) : tIn D n q r = true ↔ r ≤ q ∧ q < nEnd d n r := by
  unfold tIn
  rw [nEnd_of hd hr]
  simp
/-- from an ancestor of i that isn't one of j: on with its parent -/
theorem tLow_up (hd : dEq D d n) (h : dOk d n) (hi : i < n) (hj : j < n) {q : Nat} (hq : q < n) (hin : tIn D n i q = true) (hnj : ¬ tIn D n j q = true) : ∃ p, tPar D q = some p ∧ p < q ∧ tIn D n i p = true ∧ tLow D n i j q = tLow D n i j p := by
  have h0 : 0 < q := by
    rcases Nat.eq_zero_or_pos q with w | w
    · subst w
      refine absurd ((tIn_n hd hq).mpr ?_) hnj
      rw [nEnd_0 h]
      exact ⟨Nat.zero_le _, hj⟩
    · exact w
  obtain ⟨p, e1, e2, e3, e4⟩ := h.par hq h0
  have a := (tIn_n hd hq).mp hin
  have hE := nEnd_spec (d := d) hq
  have hP := nEnd_spec (d := d) (show p < n by omega)
  have pq : q < nEnd d n p := by
    rcases Nat.lt_or_ge q (nEnd d n p) with w | w
    · exact w
    · rcases Nat.lt_or_ge (nEnd d n p) q with w2 | w2
      · have := e4 _ hP.1 w2
        have := hP.2.2.2 (by omega)
        omega
      · have e : nEnd d n p = q := by omega
        have := hP.2.2.2 (by omega)
        rw [e] at this
        omega
  have pe := nEnd_in h (show p < n by omega) e2 pq
  refine ⟨p, by rw [nPar_of hd hq, e1], e2, (tIn_n hd (by omega)).mpr ⟨by omega, by omega⟩, ?_⟩
  obtain ⟨m, rfl⟩ : ∃ m, q = p + m := ⟨q - p, by omega⟩
  refine tLow_skip m (fun r r1 r2 z => ?_)
  have hr : r < n := by omega
  by_cases c : r = p + m
  · rw [c] at z
    exact hnj z.2
  · have z1 := (tIn_n hd hr).mp z.1
    have hr2 := nEnd_spec (d := d) hr
    have k1 := e4 r r1 (by omega)
    have := hr2.2.2.1 (p + m) (by omega) (by omega)
    omega
theorem tLow_at (hd : dEq D d n) (h : dOk d n) (hi : i < n) (hj : j < n) {q : Nat} (hq : q < n) (hin : tIn D n i q = true) (hnj : tIn D n j q = true) : tLow D n i j q = q := by
  cases q with
  | zero => rfl
  | succ q => exact if_pos ⟨hin, hnj⟩
theorem tLow_le : ∀ q, tLow D n i j q ≤ q
  | 0 => Nat.le_refl _
  | q + 1 => by
    unfold tLow
    split
    · exact Nat.le_refl _
    · exact Nat.le_succ_of_le (tLow_le q)
theorem tLow_congr {D' : Nat → Int32} (hd : dEq D d n) (hD : ∀ j, j < n → D j = D' j) (hi : i < n) : ∀ q, q ≤ i → tLow D n i j q = tLow D' n i j q := by
  intro q
  induction q with
  | zero => intro _; rfl
  | succ q ih =>
    intro hq
    unfold tLow tIn
    rw [cEnd hd hD (show q + 1 < n by omega), ih (by omega)]
def aAbove (W : wW) (t ky ot : Int32) : Int32 × wW := match iIx t W.1.1 with
  | none => (-1, wRef W 1)
  | some j => match tWhere (W.1.2.1 j).2.1 (W.1.2.1 j).1 ky, tWhere (W.1.2.1 j).2.1 (W.1.2.1 j).1 ot with
    | some p, some q => ((W.1.2.1 j).2.1 (tLow (W.1.2.1 j).2.2.2 (W.1.2.1 j).1 p q p), W)
    | _, _ => (-5, wRef W 5)
theorem c8_above (hR : cRep h o W) (hW : wOk W) (t ky ot : Int32) : ∃ r h1, iEv mX8_above [.ref o, .int t, .int ky, .int ot] h r h1 ∧ c8P h o (aAbove W t ky ot) r h1 := by
  obtain ⟨sN, im, R, sh, rf, n, k, E, C, T, P, hR⟩ := hR
  refine I8_above ?_
  unfold aAbove
  rcases iIx_cases t (n := W.1.1) (by have := hW.1.1; omega) with ⟨e, z⟩ | ⟨j, hj, rfl, e⟩
  · rw [e]
    simp only [X8_above_0, X8_above_1, X8_above_2 (c8_treeN hR z) hR.ob, X8_above_5, X8_above_5n, X8_above_7, X8_above_7n, X8_above_9, X8_above_9n, X8_above_12, X8_above_13, X8_above_14 (ev8_refuse hR (v := -1) (r := 1) (by decide) (by decide) rfl) hR.ob, X8_above_17, iOb_some, iClr_i, iClr_r, iClr_n, iClr_u, iClr_l, rf_s, rf_n, iB_0, iSum_nil]
    exact c8_end hR (by decide)
  · rw [e]
    dsimp only
    obtain ⟨a, K, B, D, e1, e2, e3, e4⟩ := c8_tree hR hj
    have hT := e3.symm.ok (hW.1.2.2.1 j hj)
    obtain ⟨hK, d, hd, h5⟩ := hT
    dsimp only at hK hd h5
    have h60 := hK.le
    have eKK : ∀ j' < (W.1.2.1 j).1, K j' = (W.1.2.1 j).2.1 j' := fun j' hj' => (e3.2 j' hj').1
    have eDD : ∀ j' < (W.1.2.1 j).1, D j' = (W.1.2.1 j).2.2.2 j' := fun j' hj' => (e3.2 j' hj').2.2
    have ew := ev_whereOf e2 ky
    have ev := ev_whereOf e2 ot
    rw [← tWhere_congr eKK, ← tWhere_congr eKK]
    cases hw : tWhere K (W.1.2.1 j).1 ky with
    | none =>
      rw [hw] at ew
      simp only [X8_above_0, X8_above_1, X8_above_2 e1 hR.ob, X8_above_5, X8_above_5n, X8_above_7, X8_above_7n, X8_above_9, X8_above_9n, X8_above_12, X8_above_13, X8_above_17, X8_above_18, X8_above_18n, X8_above_20, X8_above_21 ew e2.o, X8_above_24, X8_above_26, X8_above_26n, X8_above_28, X8_above_29 ev e2.o, X8_above_32, X8_above_34, X8_above_36, X8_above_37, X8_above_40, X8_above_42, X8_above_43, X8_above_46, X8_above_47, X8_above_49 (ev8_refuse hR (v := -5) (r := 5) (by decide) (by decide) rfl) hR.ob, X8_above_52, iOb_some, iClr_i, iClr_r, iClr_n, iClr_u, iClr_l, rf_s, rf_n, iB_0, iSum_nil, oI_n, if_true]
      exact c8_end hR (by decide)
    | some p =>
      rw [hw] at ew
      have hp := (tWhere_lt hw).1
      cases hv : tWhere K (W.1.2.1 j).1 ot with
      | none =>
        rw [hv] at ev
        simp only [X8_above_0, X8_above_1, X8_above_2 e1 hR.ob, X8_above_5, X8_above_5n, X8_above_7, X8_above_7n, X8_above_9, X8_above_9n, X8_above_12, X8_above_13, X8_above_17, X8_above_18, X8_above_18n, X8_above_20, X8_above_21 ew e2.o, X8_above_24, X8_above_26, X8_above_26n, X8_above_28, X8_above_29 ev e2.o, X8_above_32, X8_above_34, X8_above_36, X8_above_37, X8_above_40, X8_above_42, X8_above_43, X8_above_46, X8_above_47, X8_above_49 (ev8_refuse hR (v := -5) (r := 5) (by decide) (by decide) rfl) hR.ob, X8_above_52, iOb_some, iClr_i, iClr_r, iClr_n, iClr_u, iClr_l, rf_s, rf_n, iB_0, iSum_nil, oI_n, oI_s, if_neg (oI_ne (show p < 2 ^ 31 by omega)), if_true]
        exact c8_end hR (by decide)
      | some q =>
        rw [hv] at ev
        have hq := (tWhere_lt hv).1
        have hl := tLow_le (D := D) (n := (W.1.2.1 j).1) (i := p) (j := q) p
        simp only [X8_above_0, X8_above_1, X8_above_2 e1 hR.ob, X8_above_5, X8_above_5n, X8_above_7, X8_above_7n, X8_above_9, X8_above_9n, X8_above_12, X8_above_13, X8_above_17, X8_above_18, X8_above_18n, X8_above_20, X8_above_21 ew e2.o, X8_above_24, X8_above_26, X8_above_26n, X8_above_28, X8_above_29 ev e2.o, X8_above_32, X8_above_34, X8_above_36, X8_above_37, X8_above_40, X8_above_42, X8_above_43, X8_above_46, X8_above_47, X8_above_52, X8_above_53, X8_above_53n, X8_above_55, X8_above_55n, X8_above_57, X8_above_59, X8_above_61 (ev_lowestOver e2 hp hq) e2.o, X8_above_64 (ev_keyAt e2 (show tLow D (W.1.2.1 j).1 p q p < (W.1.2.1 j).1 by omega)) e2.o, X8_above_67, iOb_some, iClr_i, iClr_r, iClr_n, iClr_u, iClr_l, rf_s, rf_n, iB_0, iSum_nil, oI_s, if_neg (oI_ne (show p < 2 ^ 31 by omega)), if_neg (oI_ne (show q < 2 ^ 31 by omega))]
        rw [tLow_congr hd eDD hp p (Nat.le_refl _)] at hl ⊢
        rw [eKK _ (by omega)]
        exact c8_same hR
theorem above9_loop (hd : dEq D d n) (h5 : dOk d n) (hs : wIs s (n, K, B, D)) (h60 : n ≤ 60) (hi : i < n) (hj : j < n) (a1 a2 : Value) (y3 : Int32) {Q : Option Value → iHp → Prop} : ∀ m q, q ≤ m → q < n → tIn D n i q = true → (iWp 3 mX9_above 52 [.ref x, a1, a2, .int y3, .int (nI q), .int (nI j)] [] (mH b x s) Q = Q (some (.int (K (tLow D n i j q)))) (mH b x s)) := by
  obtain ⟨w1, w2, w3, w4⟩ := hs
  dsimp only at w1 w2 w3 w4
  have step : ∀ q, q < n → iEv mX9_isBelow [.ref x, .int (nI j), .int (nI q)] (mH b x s) (some (.int (iB (tIn D n j q)))) (mH b x s) := by
    intro q hq
    have eb := ev9_isBelow (b := b) (x := x) w1 (by omega) hj hq
    rw [w4] at eb
    exact eb
  intro m
  induction m with
  | zero =>
    intro q hm hq hin
    obtain rfl : q = 0 := by omega
    have hjn : tIn D n j 0 = true := by
      rw [tIn_n hd hq, nEnd_0 h5]
      exact ⟨Nat.zero_le _, hj⟩
    have eb := step 0 hq
    rw [hjn] at eb
    rw [tLow_at hd h5 hi hj hq hin hjn]
    simp only [X9_above_52, X9_above_53, X9_above_55, X9_above_57 eb mH_obj, X9_above_60, X9_above_63, X9_above_64, X9_above_69, X9_above_71, X9_above_74, X9_above_75, X9_above_78, X9_above_80, X9_above_81, iOb_some, iClr_i, iClr_r, iClr_n, iClr_u, iClr_l, rf_s, rf_n, iB_0, iSum_nil, Bool.true_eq_false, if_false, mg19, ml19 (show 0 < 66 by omega), w2]
  | succ m ih =>
    intro q hm hq hin
    have eb := step q hq
    by_cases c : tIn D n j q = true
    · rw [c] at eb
      rw [tLow_at hd h5 hi hj hq hin c]
      simp only [X9_above_52, X9_above_53, X9_above_55, X9_above_57 eb mH_obj, X9_above_60, X9_above_63, X9_above_64, X9_above_69, X9_above_71, X9_above_74, X9_above_75, X9_above_78, X9_above_80, X9_above_81, iOb_some, iClr_i, iClr_r, iClr_n, iClr_u, iClr_l, rf_s, rf_n, iB_0, iSum_nil, Bool.true_eq_false, if_false, mg19, ml19 (show q < 66 by omega), w2]
    · obtain ⟨p, p1, p2, p3, p4⟩ := tLow_up hd h5 hi hj hq hin c
      rw [Bool.eq_false_iff.mpr c] at eb
      have ep := ev9_parent (b := b) (x := x) (s := s) (n := n) (by omega) hq
      rw [w4, p1] at ep
      rw [p4, ← ih p (by omega) (by omega) p3]
      rw [X9_above_52]
      simp only [X9_above_53, X9_above_55, X9_above_57 eb mH_obj, X9_above_60, X9_above_63, X9_above_64, X9_above_66 ep mH_obj, X9_above_69, X9_above_71, iOb_some, iClr_i, iClr_r, iClr_n, iClr_u, iClr_l, rf_s, rf_n, iB_0, iSum_nil, if_true, oI_s]
theorem m9_above (hR : mRel s W) (hW : wOk W) (t ky ot : Int32) : ∃ r h1, iEv mX9_above [.ref x, .int t, .int ky, .int ot] (mH b x s) r h1 ∧ m9P b x (aAbove W t ky ot) r h1 := by
  refine I9_above ?_
  unfold aAbove
  have et := ev9_isTree (b := b) (x := x) hR.1 hW.1.1 (t := t)
  rcases iIx_cases t (n := W.1.1) (by have := hW.1.1; omega) with ⟨e, z⟩ | ⟨j, hj, rfl, e⟩
  · rw [e] at et ⊢
    simp only [X9_above_0, X9_above_1, X9_above_2 et mH_obj, X9_above_5, X9_above_8, X9_above_9, X9_above_10 (ev9_noV (v := -1) (r := 1) (by decide) rfl) mH_obj, X9_above_13, iOb_some, iClr_i, iClr_r, iClr_n, iClr_u, iClr_l, rf_s, rf_n, iB_0, iSum_nil, Option.isSome_none, if_true]
    exact m9_rf hR (by decide)
  · rw [e] at et ⊢
    dsimp only
    obtain ⟨⟨n, K, B, D⟩, s', e1, e2, e3, e4⟩ := ev9_loadsR (b := b) (x := x) hR.1 hW.1 hj
    have hT := e3.symm.ok (hW.1.2.2.1 j hj)
    obtain ⟨hK, d, hd, h5⟩ := hT
    have e2' := e2
    obtain ⟨w1, w2, w3, w4⟩ := e2
    have en : n = (W.1.2.1 j).1 := e3.1
    dsimp only at hK hd h5 w1 w2 w3 w4
    have h60 := hK.le
    have eKK : ∀ j', j' < n → K j' = (W.1.2.1 j).2.1 j' := fun j' hj' => (e3.2 j' hj').1
    have eDD : ∀ j', j' < n → D j' = (W.1.2.1 j).2.2.2 j' := fun j' hj' => (e3.2 j' hj').2.2
    have e5 := ev9_find (b := b) (x := x) w1 (by omega) ky
    have e6 := ev9_find (b := b) (x := x) w1 (by omega) ot
    have hL := hR.ex (e4.mono LWX)
    rw [w2] at e5 e6
    rw [← en, ← tWhere_congr eKK, ← tWhere_congr eKK]
    cases hw : tWhere K n ky with
    | none =>
      rw [hw] at e5
      simp only [X9_above_0, X9_above_1, X9_above_2 et mH_obj, X9_above_5, X9_above_8, X9_above_9, X9_above_13, X9_above_14, X9_above_15, X9_above_16 e1 mH_obj, X9_above_19, X9_above_20, X9_above_21 e5 mH_obj, X9_above_24, X9_above_26, X9_above_27, X9_above_28 e6 mH_obj, X9_above_31, X9_above_33, X9_above_35, X9_above_36, X9_above_39, X9_above_41, X9_above_42, X9_above_45, X9_above_46, X9_above_48 (ev9_noV (v := -5) (r := 5) (by decide) rfl) mH_obj, X9_above_51, iOb_some, iClr_i, iClr_r, iClr_n, iClr_u, iClr_l, rf_s, rf_n, iB_0, iSum_nil, Option.isSome_some, Bool.true_eq_false, if_false, oI_n, if_true]
      exact m9_rf hL (by decide)
    | some p =>
      rw [hw] at e5
      have hp := (tWhere_lt hw).1
      cases hv : tWhere K n ot with
      | none =>
        rw [hv] at e6
        simp only [X9_above_0, X9_above_1, X9_above_2 et mH_obj, X9_above_5, X9_above_8, X9_above_9, X9_above_13, X9_above_14, X9_above_15, X9_above_16 e1 mH_obj, X9_above_19, X9_above_20, X9_above_21 e5 mH_obj, X9_above_24, X9_above_26, X9_above_27, X9_above_28 e6 mH_obj, X9_above_31, X9_above_33, X9_above_35, X9_above_36, X9_above_39, X9_above_41, X9_above_42, X9_above_45, X9_above_46, X9_above_48 (ev9_noV (v := -5) (r := 5) (by decide) rfl) mH_obj, X9_above_51, iOb_some, iClr_i, iClr_r, iClr_n, iClr_u, iClr_l, rf_s, rf_n, iB_0, iSum_nil, Option.isSome_some, Bool.true_eq_false, if_false, oI_n, oI_s, if_neg (oI_ne (show p < 2 ^ 31 by omega)), if_true]
        exact m9_rf hL (by decide)
      | some q =>
        rw [hv] at e6
        have hq := (tWhere_lt hv).1
        simp only [X9_above_0, X9_above_1, X9_above_2 et mH_obj, X9_above_5, X9_above_8, X9_above_9, X9_above_13, X9_above_14, X9_above_15, X9_above_16 e1 mH_obj, X9_above_19, X9_above_20, X9_above_21 e5 mH_obj, X9_above_24, X9_above_26, X9_above_27, X9_above_28 e6 mH_obj, X9_above_31, X9_above_33, X9_above_35, X9_above_36, X9_above_39, X9_above_41, X9_above_42, X9_above_45, X9_above_46, X9_above_51, iOb_some, iClr_i, iClr_r, iClr_n, iClr_u, iClr_l, rf_s, rf_n, iB_0, iSum_nil, Option.isSome_some, Bool.true_eq_false, if_false, oI_s, if_neg (oI_ne (show p < 2 ^ 31 by omega)), if_neg (oI_ne (show q < 2 ^ 31 by omega))]
        rw [above9_loop hd h5 e2' h60 hp hq _ _ _ p p (Nat.le_refl _) hp ((tIn_n hd hp).mpr ⟨Nat.le_refl _, (nEnd_spec (d := d) hp).1⟩)]
        have hl := tLow_le (D := D) (n := n) (i := p) (j := q) p
        rw [tLow_congr hd eDD hp p (Nat.le_refl _)] at hl ⊢
        rw [eKK _ (by omega)]
        exact m9_same hL
end READS3

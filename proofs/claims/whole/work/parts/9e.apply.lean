/-! apply, sticks on both sides -/
section APPLY
variable {h h1 h' : iHp} {o sN n k i j l x m a c p q r t u : Nat} {im : Option Nat} {R E T P : Nat → Option Nat} {sh rf C C2 : Nat → Int32} {W : wW} {G : Nat → Nat → Int32} {e : Nat → Int32} {b : iHp} {s s0 s1 s' : mS} {w : sT} {Z : pP} {U V : tT} {K B D : Nat → Int32}
theorem cpyOf_eq (hT : trAt h a n K B D) : tEq (n, cpyOf K, cpyOf B, cpyOf D) (n, K, B, D) := ⟨rfl, fun i hi => ⟨cpyOf_at (by have := hT.2.2.2.2; have hi : i < n := hi; omega), cpyOf_at (by have := hT.2.2.2.2; have hi : i < n := hi; omega), cpyOf_at (by have := hT.2.2.2.2; have hi : i < n := hi; omega)⟩⟩
/-- a tree copied, behind all else -/
theorem c8_copyT (hR : cRe h o sN im R sh rf n k E C T P W) (hT : trAt h a m K B D) (oo : ∀ j, j < 4 → oc h o sN (a + j)) : ∃ h1, iEv mX7_init_ [.ref h.2.1, .ref a] (iNewO h 7) none h1 ∧ trT h1 h.2.1 (m, cpyOf K, cpyOf B, cpyOf D) = h1 ∧ (∀ q, q < h.2.1 → h1.1 q = h.1 q) ∧ h1.2 = (h.2.1 + 4, h.2.2 + 244) := by
  have hn := hT.2.2.2.2
  have o3 := (oo 3 (by decide)).2.1
  refine ⟨_, ev_tcopy hT (by omega), ?_, fun q hq => nH_off hq, rfl⟩
  refine trAt.eq (hT := ⟨nH_at (k := 0) (Nat.le_of_ble_eq_true rfl), nH_at (k := 1) (Nat.le_of_ble_eq_true rfl), nH_at (k := 2) (Nat.le_of_ble_eq_true rfl), nH_at (k := 3) (Nat.le_of_ble_eq_true rfl), hn⟩)
/-- a heap with a new tree behind all else -/
theorem cRe.growT (hR : cRe h o sN im R sh rf n k E C T P W) (g1 : ∀ q, q < h.2.1 → h1.1 q = h.1 q) (g2 : h1.2 = (h.2.1 + 4, h.2.2 + 244)) (U : tT) : cRe (trT h1 h.2.1 U) o sN im R sh rf n k E C T P W ∧ gr h (trT h1 h.2.1 U) o sN 4 244 ∧ ∀ j, j < 4 → oc (trT h1 h.2.1 U) o sN (h.2.1 + j) := by
  have n1 : h1.2.1 = h.2.1 + 4 := congrArg Prod.fst g2
  have n2 : h1.2.2 = h.2.2 + 244 := congrArg Prod.snd g2
  have hlo := hR.lo
  have hsn := hR.sNh
  have cell : ∀ q, q < h.2.1 → (trT h1 h.2.1 U).1 q = h.1 q := fun q hq => (trH_off (Or.inl hq)).trans (g1 q hq)
  refine ⟨hR.grow cell (by show h.2.1 ≤ h1.2.1; omega), ⟨fun q hq => cell q (by omega), fun q hq => ⟨⟨hq.1, by show q < h1.2.1; have := hq.2.1; omega, hq.2.2⟩, cell q hq.2.1⟩, by show h.2.1 ≤ h1.2.1; omega, by show h1.2.1 ≤ _; omega, by show h.2.2 ≤ h1.2.2; omega, by show h1.2.2 ≤ _; omega⟩, fun j hj => ⟨by omega, by show _ < h1.2.1; omega, by have := hR.sNl; omega⟩⟩
/-- a tree of the world replaced -/
def wTr (W : wW) (t : Nat) (U : tT) : wW := wNow W (W.1.1, va_up W.1.2.1 t U, W.1.2.2)
theorem c8_replace (hR : cRe h o sN im R sh rf n k E C T P W) (hW : wOk W) (hj : j < W.1.1) (hT : trAt h a V.1 V.2.1 V.2.2.1 V.2.2.2) (oo : ∀ j, j < 4 → oc h o sN (a + j)) (hU : tEq V U) : ∃ h1, iEv mX6_replaceTree [.ref sN, .int (nI j), .ref a] h none h1 ∧ cRe h1 o sN im R sh rf n k E C (va_up T j (some a)) P (wTr W j U) ∧ gr h h1 o sN 0 0 ∧ trAt h1 a V.1 V.2.1 V.2.2.1 V.2.2.2 := by
  have er := ev_sreplace (b := h) (s := sN) (tc := W.1.1) (pc := W.1.2.2.1) (se := W.1.2.2.2.2) (T := T) (P := P) (x := a) hW.1.1 hW.1.2.1 hj (by rw [hR.steq]; exact hT.o)
  rw [hR.steq] at er
  have hb : bSt h o sN (va_up T j (some a)) P (W.1.1, va_up W.1.2.1 j U, W.1.2.2) := by
    obtain ⟨b1, b2, b3, b4⟩ := hR.2.2.2.2.1
    refine ⟨fun q hq => ?_, b2, fun q y hy => ?_, b4⟩
    · show ∃ t, va_up T j (some a) q = some t ∧ bTr h o sN t (va_up W.1.2.1 j U q)
      unfold va_up
      by_cases cq : q = j
      · rw [if_pos cq, if_pos cq]
        refine ⟨a, rfl, ⟨V.2.1, V.2.2.1, V.2.2.2, ?_, ?_⟩, oo⟩
        · rw [← hU.1]
          exact hT
        · rw [← hU.1]
          exact hU
      · rw [if_neg cq, if_neg cq]
        exact b1 q hq
    · unfold va_up at hy
      split at hy
      · cases hy
        exact ⟨oo 0 (by decide), hT.o⟩
      · exact b3 q y hy
  have ag : agt h (stH h sN W.1.1 W.1.2.2.1 W.1.2.2.2.2 (va_up T j (some a)) P) o sN sN := fun q hq => ⟨hq, stH_off hq.2.2⟩
  exact ⟨_, er, hR.setS (w := (W.1.1, va_up W.1.2.1 j U, W.1.2.2)) hW.1.1 hW.1.2.1 hb, ⟨frZ.st hR.sNl, ag, Nat.le_refl _, Nat.le_refl _, Nat.le_refl _, Nat.le_refl _⟩, hT.agt oo ag⟩
def aApply (W : wW) (p t : Int32) : Int32 × wW := match iIx p W.1.2.2.1, iIx t W.1.1 with
  | some i, some j => match (untT (W.1.2.2.2.1 i).2.2.2.2.2.1 (W.1.2.2.2.1 i).1 0 (W.1.2.1 j)).2 with
    | none => (nI (untT (W.1.2.2.2.1 i).2.2.2.2.2.1 (W.1.2.2.2.1 i).1 0 (W.1.2.1 j)).1.1, wTr W j (untT (W.1.2.2.2.1 i).2.2.2.2.2.1 (W.1.2.2.2.1 i).1 0 (W.1.2.1 j)).1)
    | some _ => (-6, wRef W 6)
  | _, _ => (-1, wRef W 1)
def aSticks (W : wW) (p t : Int32) : Int32 × wW := match iIx p W.1.2.2.1, iIx t W.1.1 with
  | some i, some j => (oI (untT (W.1.2.2.2.1 i).2.2.2.2.2.1 (W.1.2.2.2.1 i).1 0 (W.1.2.1 j)).2, W)
  | _, _ => (-11, wRef W 1)
theorem unt_lt : ∀ k i (U : tT) y, (untT G k i U).2 = some y → i ≤ y ∧ y < i + k := by
  intro k
  induction k with
  | zero => intro i U y h; cases h
  | succ k ih =>
    intro i U y h
    unfold untT at h
    by_cases c : fitT (G i) U = true
    · rw [if_pos c] at h
      have := ih (i + 1) _ y h
      omega
    · rw [if_neg c] at h
      cases h
      omega
/-- a copy of a tree changed until an edit doesn't FIT -/
theorem c8_until (hR : cRe h o sN im R sh rf n k E C T P W) (hW : wOk W) (hi : i < W.1.2.2.1) (hj : j < W.1.1) {pa ta : Nat} (hP : bPt h o sN pa (W.1.2.2.2.1 i)) (hT : trAt h ta (W.1.2.1 j).1 K B D) (hE : tEq ((W.1.2.1 j).1, K, B, D) (W.1.2.1 j)) (oo : ∀ j, j < 4 → oc h o sN (ta + j)) : ∃ h1 h2 V, iEv mX7_init_ [.ref h.2.1, .ref ta] (iNewO h 7) none h1 ∧ iEv mX3_changeUntilMisfit [.ref pa, .ref h.2.1] h1 (some (.int (oI (untT (W.1.2.2.2.1 i).2.2.2.2.2.1 (W.1.2.2.2.1 i).1 0 (W.1.2.1 j)).2))) h2 ∧ iObj h1 pa 3 = true ∧ cRe h1 o sN im R sh rf n k E C T P W ∧ cRe h2 o sN im R sh rf n k E C T P W ∧ gr h h2 o sN 4 244 ∧ trAt h2 h.2.1 V.1 V.2.1 V.2.2.1 V.2.2.2 ∧ tEq V (untT (W.1.2.2.2.1 i).2.2.2.2.2.1 (W.1.2.2.2.1 i).1 0 (W.1.2.1 j)).1 ∧ ∀ j, j < 4 → oc h2 o sN (h.2.1 + j) := by
  obtain ⟨h1, e1, e2, e3, e4⟩ := c8_copyT hR hT oo
  have hTo := hE.symm.ok (hW.1.2.2.1 j hj)
  have hO := hW.1.2.2.2 i hi
  have n1 : h1.2.1 = h.2.1 + 4 := congrArg Prod.fst e4
  have hR1 := hR.grow e3 (by omega)
  have ag1 : agt h h1 o sN sN := fun q hq => ⟨⟨hq.1, by have := hq.2.1; omega, hq.2.2⟩, e3 q hq.2.1⟩
  have hcE : tEq ((W.1.2.1 j).1, cpyOf K, cpyOf B, cpyOf D) (W.1.2.1 j) := (cpyOf_eq hT).trans hE
  obtain ⟨u1, u2, u3⟩ := unt_congr (G := (W.1.2.2.2.1 i).2.2.2.2.2.1) (W.1.2.2.2.1 i).1 0 _ _ hcE (hcE.symm.ok (hW.1.2.2.1 j hj)) (fun q _ hq => hO.2.2.1 q (by omega))
  obtain ⟨⟨E', C', hP1, hG, -⟩, po⟩ := hP
  have po0 := po 0 (by decide)
  have po2 := po 2 (by decide)
  have pt1 : ptAt h1 pa (W.1.2.2.2.1 i).1 (W.1.2.2.2.1 i).2.1 (W.1.2.2.2.1 i).2.2.1 (W.1.2.2.2.1 i).2.2.2.1 (W.1.2.2.2.1 i).2.2.2.2.1 E' C' := ⟨(ag1 _ po0).2.trans hP1.1, (ag1 _ (po 1 (by decide))).2.trans hP1.2.1, (ag1 _ po2).2.trans hP1.2.2.1, hP1.2.2.2⟩
  have hu := ev_puntil (t := h.2.1) (T := ((W.1.2.1 j).1, cpyOf K, cpyOf B, cpyOf D)) (G := (W.1.2.2.2.1 i).2.2.2.2.2.1) pt1 (fun q hq => by
    obtain ⟨y, y1, y2, y3⟩ := hG q hq
    exact ⟨y, y1, (ag1 y y3).2.trans y2, y3.2.1⟩) (by have := po2.2.1; omega) hT.2.2.2.2
  rw [e2, u1] at hu
  obtain ⟨r2, g2, o2⟩ := hR.growT e3 e4 (untT (W.1.2.2.2.1 i).2.2.2.2.2.1 (W.1.2.2.2.1 i).1 0 ((W.1.2.1 j).1, cpyOf K, cpyOf B, cpyOf D)).1
  exact ⟨h1, _, _, e1, hu, pt1.o, hR1, r2, g2, trH_tr (by have := u3.1.le; omega), u2, o2⟩
theorem c8_apply (hR : cRep h o W) (hW : wOk W) (p t : Int32) : ∃ r h1, iEv mX8_apply [.ref o, .int p, .int t] h r h1 ∧ c8P h o (aApply W p t) r h1 := by
  obtain ⟨sN, im, R, sh, rf, n, k, E, C, T, P, hR⟩ := hR
  refine I8_apply ?_
  unfold aApply
  have hn : W.1.2.2.1 < 2 ^ 31 := by have := hW.1.2.1; omega
  have hn2 : W.1.1 < 2 ^ 31 := by have := hW.1.1; omega
  have r1 := ev8_refuse hR (v := -1) (r := 1) (by decide) (by decide) rfl
  rcases iIx_cases p hn with ⟨e, z⟩ | ⟨i, hi, rfl, e⟩
  · rw [e]
    rcases iIx_cases t hn2 with ⟨f, y⟩ | ⟨j, hj, rfl, f⟩
    · rw [f]
      simp only [X8_apply_0, X8_apply_1, X8_apply_2 (c8_patchN hR z) hR.ob, X8_apply_5, X8_apply_5n, X8_apply_6, X8_apply_7, X8_apply_8 (c8_treeN hR y) hR.ob, X8_apply_11, X8_apply_11n, X8_apply_13, X8_apply_13n, X8_apply_14, X8_apply_14n, X8_apply_17, X8_apply_17n, X8_apply_19, X8_apply_19n, X8_apply_22, X8_apply_23, X8_apply_24 r1 hR.ob, X8_apply_27, iOb_some, iClr_i, iClr_r, iClr_n, iClr_u, iClr_l, rf_s, rf_n, iB_0, iSum_nil]
      exact c8_end hR (by decide)
    · rw [f]
      obtain ⟨ta, K, B, D, f1, f2, f3, f4⟩ := c8_tree hR hj
      simp only [X8_apply_0, X8_apply_1, X8_apply_2 (c8_patchN hR z) hR.ob, X8_apply_5, X8_apply_5n, X8_apply_6, X8_apply_7, X8_apply_8 f1 hR.ob, X8_apply_11, X8_apply_11n, X8_apply_13, X8_apply_13n, X8_apply_14, X8_apply_14n, X8_apply_17, X8_apply_17n, X8_apply_19, X8_apply_19n, X8_apply_22, X8_apply_23, X8_apply_24 r1 hR.ob, X8_apply_27, iOb_some, iClr_i, iClr_r, iClr_n, iClr_u, iClr_l, rf_s, rf_n, iB_0, iSum_nil]
      exact c8_end hR (by decide)
  · rw [e]
    obtain ⟨pa, e1, hB⟩ := c8_patch hR hi
    rcases iIx_cases t hn2 with ⟨f, y⟩ | ⟨j, hj, rfl, f⟩
    · rw [f]
      simp only [X8_apply_0, X8_apply_1, X8_apply_2 e1 hR.ob, X8_apply_5, X8_apply_5n, X8_apply_6, X8_apply_7, X8_apply_8 (c8_treeN hR y) hR.ob, X8_apply_11, X8_apply_11n, X8_apply_13, X8_apply_13n, X8_apply_14, X8_apply_14n, X8_apply_17, X8_apply_17n, X8_apply_19, X8_apply_19n, X8_apply_22, X8_apply_23, X8_apply_24 r1 hR.ob, X8_apply_27, iOb_some, iClr_i, iClr_r, iClr_n, iClr_u, iClr_l, rf_s, rf_n, iB_0, iSum_nil]
      exact c8_end hR (by decide)
    · rw [f]
      obtain ⟨ta, K, B, D, f1, f2, f3, f4⟩ := c8_tree hR hj
      obtain ⟨h1, h2, V, k1, k2, k3, k4, k5, k6, k7, k8, k9⟩ := c8_until hR hW hi hj hB f2 f3 f4
      dsimp only
      have hO := (hW.1.2.2.2 i hi).1
      have hlt := unt_lt (G := (W.1.2.2.2.1 i).2.2.2.2.2.1) (W.1.2.2.2.1 i).1 0 (W.1.2.1 j)
      generalize (untT (W.1.2.2.2.1 i).2.2.2.2.2.1 (W.1.2.2.2.1 i).1 0 (W.1.2.1 j)).2 = oo at k2 hlt ⊢
      generalize (untT (W.1.2.2.2.1 i).2.2.2.2.2.1 (W.1.2.2.2.1 i).1 0 (W.1.2.1 j)).1 = U at k8 ⊢
      cases oo with
      | some y =>
        have hy : ¬ oI (some y) = -1 := oI_ne (by have := hlt y rfl; omega)
        simp only [X8_apply_0, X8_apply_1, X8_apply_2 e1 hR.ob, X8_apply_5, X8_apply_5n, X8_apply_6, X8_apply_7, X8_apply_8 f1 hR.ob, X8_apply_11, X8_apply_11n, X8_apply_13, X8_apply_13n, X8_apply_14, X8_apply_14n, X8_apply_17, X8_apply_17n, X8_apply_19, X8_apply_19n, X8_apply_22, X8_apply_23, X8_apply_27, X8_apply_28, X8_apply_31, X8_apply_32, X8_apply_32n, X8_apply_34 k1 (cat_r ta), X8_apply_37, X8_apply_37n, X8_apply_39, X8_apply_39n, X8_apply_40, X8_apply_40n, X8_apply_42 k2 k3 (cat_r h.2.1), X8_apply_45, X8_apply_46, X8_apply_49, X8_apply_50, X8_apply_52 (ev8_refuse k5 (v := -6) (r := 6) (by decide) (by decide) rfl) k5.ob, X8_apply_55, iOb_some, iClr_i, iClr_r, iClr_n, iClr_u, iClr_l, rf_s, rf_n, iB_0, iSum_nil, if_neg hy]
        obtain ⟨z1, z2, z3, z4, z5, z6, z7⟩ := c8_end k5 (r := 6) (u := -6) (by decide)
        obtain ⟨g1, g2, g3, g4, g5, g6⟩ := k6
        exact ⟨z1, z2, g1.trans z3, (by show h.2.1 ≤ h2.2.1; omega), (by show h2.2.1 ≤ h.2.1 + 1000; omega), (by show h.2.2 ≤ h2.2.2; omega), (by show h2.2.2 ≤ h.2.2 + 14000; omega)⟩
      | none =>
        obtain ⟨h3, q1, q2, q3, q4⟩ := c8_replace k5 hW hj k7 k9 k8
        dsimp only
        simp only [X8_apply_0, X8_apply_1, X8_apply_2 e1 hR.ob, X8_apply_5, X8_apply_5n, X8_apply_6, X8_apply_7, X8_apply_8 f1 hR.ob, X8_apply_11, X8_apply_11n, X8_apply_13, X8_apply_13n, X8_apply_14, X8_apply_14n, X8_apply_17, X8_apply_17n, X8_apply_19, X8_apply_19n, X8_apply_22, X8_apply_23, X8_apply_27, X8_apply_28, X8_apply_31, X8_apply_32, X8_apply_32n, X8_apply_34 k1 (cat_r ta), X8_apply_37, X8_apply_37n, X8_apply_39, X8_apply_39n, X8_apply_40, X8_apply_40n, X8_apply_42 k2 k3 (cat_r h.2.1), X8_apply_45, X8_apply_46, X8_apply_49, X8_apply_50, X8_apply_55, X8_apply_56, X8_apply_57, X8_apply_60, X8_apply_61, X8_apply_61n, X8_apply_63 q1 k5.2.2.1.o (cat_r h.2.1), X8_apply_66, X8_apply_66n, X8_apply_68, X8_apply_71, iOb_some, iClr_i, iClr_r, iClr_n, iClr_u, iClr_l, rf_s, rf_n, iB_0, iSum_nil, oI_n, if_true, k5.g4, q4.s]
        rw [k8.1]
        obtain ⟨g1, g2, g3, g4, g5, g6⟩ := k6.trans q3
        exact ⟨rfl, ⟨sN, im, R, sh, rf, n, k, E, C, _, P, q2⟩, g1, by omega, by omega, by omega, by omega⟩
theorem c8_sticks (hR : cRep h o W) (hW : wOk W) (p t : Int32) : ∃ r h1, iEv mX8_sticks [.ref o, .int p, .int t] h r h1 ∧ c8P h o (aSticks W p t) r h1 := by
  obtain ⟨sN, im, R, sh, rf, n, k, E, C, T, P, hR⟩ := hR
  refine I8_sticks ?_
  unfold aSticks
  have hn : W.1.2.2.1 < 2 ^ 31 := by have := hW.1.2.1; omega
  have hn2 : W.1.1 < 2 ^ 31 := by have := hW.1.1; omega
  have r1 := ev8_refuseLower hR (v := -1) (r := 1) (by decide) (by decide) rfl
  rcases iIx_cases p hn with ⟨e, z⟩ | ⟨i, hi, rfl, e⟩
  · rw [e]
    rcases iIx_cases t hn2 with ⟨f, y⟩ | ⟨j, hj, rfl, f⟩
    · rw [f]
      simp only [X8_sticks_0, X8_sticks_1, X8_sticks_2 (c8_patchN hR z) hR.ob, X8_sticks_5, X8_sticks_5n, X8_sticks_6, X8_sticks_7, X8_sticks_8 (c8_treeN hR y) hR.ob, X8_sticks_11, X8_sticks_11n, X8_sticks_13, X8_sticks_13n, X8_sticks_14, X8_sticks_14n, X8_sticks_17, X8_sticks_17n, X8_sticks_19, X8_sticks_19n, X8_sticks_22, X8_sticks_23, X8_sticks_24 r1 hR.ob, X8_sticks_27, iOb_some, iClr_i, iClr_r, iClr_n, iClr_u, iClr_l, rf_s, rf_n, iB_0, iSum_nil]
      exact c8_end hR (by decide)
    · rw [f]
      obtain ⟨ta, K, B, D, f1, f2, f3, f4⟩ := c8_tree hR hj
      simp only [X8_sticks_0, X8_sticks_1, X8_sticks_2 (c8_patchN hR z) hR.ob, X8_sticks_5, X8_sticks_5n, X8_sticks_6, X8_sticks_7, X8_sticks_8 f1 hR.ob, X8_sticks_11, X8_sticks_11n, X8_sticks_13, X8_sticks_13n, X8_sticks_14, X8_sticks_14n, X8_sticks_17, X8_sticks_17n, X8_sticks_19, X8_sticks_19n, X8_sticks_22, X8_sticks_23, X8_sticks_24 r1 hR.ob, X8_sticks_27, iOb_some, iClr_i, iClr_r, iClr_n, iClr_u, iClr_l, rf_s, rf_n, iB_0, iSum_nil]
      exact c8_end hR (by decide)
  · rw [e]
    obtain ⟨pa, e1, hB⟩ := c8_patch hR hi
    rcases iIx_cases t hn2 with ⟨f, y⟩ | ⟨j, hj, rfl, f⟩
    · rw [f]
      simp only [X8_sticks_0, X8_sticks_1, X8_sticks_2 e1 hR.ob, X8_sticks_5, X8_sticks_5n, X8_sticks_6, X8_sticks_7, X8_sticks_8 (c8_treeN hR y) hR.ob, X8_sticks_11, X8_sticks_11n, X8_sticks_13, X8_sticks_13n, X8_sticks_14, X8_sticks_14n, X8_sticks_17, X8_sticks_17n, X8_sticks_19, X8_sticks_19n, X8_sticks_22, X8_sticks_23, X8_sticks_24 r1 hR.ob, X8_sticks_27, iOb_some, iClr_i, iClr_r, iClr_n, iClr_u, iClr_l, rf_s, rf_n, iB_0, iSum_nil]
      exact c8_end hR (by decide)
    · rw [f]
      obtain ⟨ta, K, B, D, f1, f2, f3, f4⟩ := c8_tree hR hj
      obtain ⟨h1, h2, V, k1, k2, k3, k4, k5, k6, k7, k8, k9⟩ := c8_until hR hW hi hj hB f2 f3 f4
      simp only [X8_sticks_0, X8_sticks_1, X8_sticks_2 e1 hR.ob, X8_sticks_5, X8_sticks_5n, X8_sticks_6, X8_sticks_7, X8_sticks_8 f1 hR.ob, X8_sticks_11, X8_sticks_11n, X8_sticks_13, X8_sticks_13n, X8_sticks_14, X8_sticks_14n, X8_sticks_17, X8_sticks_17n, X8_sticks_19, X8_sticks_19n, X8_sticks_22, X8_sticks_23, X8_sticks_27, X8_sticks_28, X8_sticks_28n, X8_sticks_29, X8_sticks_32, X8_sticks_33, X8_sticks_33n, X8_sticks_35 k1 (cat_r ta), X8_sticks_38 k2 k3 (cat_r h.2.1), X8_sticks_41, iOb_some, iClr_i, iClr_r, iClr_n, iClr_u, iClr_l, rf_s, rf_n, iB_0, iSum_nil]
      obtain ⟨g1, g2, g3, g4, g5, g6⟩ := k6
      exact ⟨rfl, ⟨sN, im, R, sh, rf, n, k, E, C, T, P, k5⟩, g1, by omega, by omega, by omega, by omega⟩
-- the reference
theorem stuck_loop (hp : p < 16) (hZ : mPt (s0.2.1 7) (s0.2.1 8) (s0.2.1 9) p Z) (h12 : Z.1 ≤ 120) (he : ∀ i, i < Z.1 → eOk (Z.2.2.2.2.2.1 i)) {Q : Option Value → iHp → Prop} : ∀ k i s1 U, i + k = Z.1 → sEx LW s0 s1 → wIs s1 U → tOk U → (∀ s2 V, sEx LW s0 s2 → wIs s2 V → tEq V (untT Z.2.2.2.2.2.1 k i U).1 → Q (some (.int (oI (untT Z.2.2.2.2.2.1 k i U).2))) (mH b x s2)) → iWp 6 mX9_stuck 2 [.ref x, .int (nI p), .int (nI i)] [] (mH b x s1) Q := by
  intro k
  induction k with
  | zero =>
    intro i s1 U hi hx hw hU hQ
    obtain rfl : i = Z.1 := by omega
    have eo := ev9_of0 (b := b) (x := x) (s := s1) hp
    rw [(congrFun (hx.2.1 7 (by decide)) p).trans hZ.1] at eo
    rw [X9_stuck_2]
    simp only [X9_stuck_3, X9_stuck_4, X9_stuck_5, X9_stuck_6 eo mH_obj, X9_stuck_9, X9_stuck_12, X9_stuck_13, X9_stuck_14, X9_stuck_17, X9_stuck_20, X9_stuck_21, X9_stuck_22, X9_stuck_24, X9_stuck_25, X9_stuck_26, X9_stuck_30, X9_stuck_33, X9_stuck_34, X9_stuck_35, X9_stuck_38, X9_stuck_41, X9_stuck_42, iOb_some, iClr_i, iClr_r, iClr_n, iClr_u, iClr_l, rf_s, rf_n, iB_0, iSum_nil, if_pos (Int32.le_refl (nI Z.1))]
    exact hQ s1 U hx hw tEq.refl
  | succ k ih =>
    intro i s1 U hi hx hw hU hQ
    have eo := ev9_of0 (b := b) (x := x) (s := s1) hp
    rw [(congrFun (hx.2.1 7 (by decide)) p).trans hZ.1] at eo
    have hin := inAt_edits (b := b) (x := x) (s := s1) (i := i) hp (hZ.ex hx (by decide) (by decide) (by decide)) (by omega) h12
    obtain ⟨s2, U', d1, d2, d3, d4⟩ := ev9_doesR hw hU hin
    rw [X9_stuck_2]
    by_cases c : fitT (Z.2.2.2.2.2.1 i) U = true
    · rw [c] at d1
      rw [doT_t c] at d3
      have hU' := perf_ok hU (he i (by omega)) c
      have hunt : untT Z.2.2.2.2.2.1 (k + 1) i U = untT Z.2.2.2.2.2.1 k (i + 1) (ePerf (Z.2.2.2.2.2.1 i) U) := if_pos c
      rw [hunt] at hQ
      obtain ⟨u1, u2, u3⟩ := unt_congr (G := Z.2.2.2.2.2.1) k (i + 1) U' _ d3 (d3.symm.ok hU') (fun q q1 q2 => he q (by omega))
      simp only [X9_stuck_3, X9_stuck_4, X9_stuck_5, X9_stuck_6 eo mH_obj, X9_stuck_9, X9_stuck_12, X9_stuck_13, X9_stuck_14, X9_stuck_17, X9_stuck_20, X9_stuck_21, X9_stuck_22, X9_stuck_24, X9_stuck_25, X9_stuck_26, X9_stuck_27 d1 mH_obj (cat_r (x + 6)), X9_stuck_30, X9_stuck_33, X9_stuck_34, X9_stuck_35, X9_stuck_38, iOb_some, iClr_i, iClr_r, iClr_n, iClr_u, iClr_l, rf_s, rf_n, iB_0, iSum_nil, if_neg (nI_ge (show i < Z.1 by omega) (by omega)), mg8, i7, i840, Bool.true_eq_false, if_false, nI_1]
      refine ih (i + 1) s2 U' (by omega) (hx.trans d4) d2 (d3.symm.ok hU') (fun s3 V y1 y2 y3 => ?_)
      rw [u1]
      exact hQ s3 V y1 y2 (y3.trans u2)
    · have cf := Bool.eq_false_iff.mpr c
      rw [cf] at d1
      rw [doT_f cf] at d3
      have hunt : untT Z.2.2.2.2.2.1 (k + 1) i U = (U, some i) := if_neg c
      rw [hunt] at hQ
      simp only [X9_stuck_3, X9_stuck_4, X9_stuck_5, X9_stuck_6 eo mH_obj, X9_stuck_9, X9_stuck_12, X9_stuck_13, X9_stuck_14, X9_stuck_17, X9_stuck_20, X9_stuck_21, X9_stuck_22, X9_stuck_24, X9_stuck_25, X9_stuck_26, X9_stuck_27 d1 mH_obj (cat_r (x + 6)), X9_stuck_30, X9_stuck_33, X9_stuck_34, X9_stuck_35, X9_stuck_38, iOb_some, iClr_i, iClr_r, iClr_n, iClr_u, iClr_l, rf_s, rf_n, iB_0, iSum_nil, if_neg (nI_ge (show i < Z.1 by omega) (by omega)), mg8, i7, i840, if_true]
      exact hQ s2 U' (hx.trans d4) d2 d3
theorem ev9_stuck (hp : p < 16) (hZ : mPt (s.2.1 7) (s.2.1 8) (s.2.1 9) p Z) (h12 : Z.1 ≤ 120) (he : ∀ i, i < Z.1 → eOk (Z.2.2.2.2.2.1 i)) (hw : wIs s U) (hU : tOk U) : ∃ s2 V, iEv mX9_stuck [.ref x, .int (nI p)] (mH b x s) (some (.int (oI (untT Z.2.2.2.2.2.1 Z.1 0 U).2))) (mH b x s2) ∧ sEx LW s s2 ∧ wIs s2 V ∧ tEq V (untT Z.2.2.2.2.2.1 Z.1 0 U).1 := by
  have z : iWp 6 mX9_stuck 0 [.ref x, .int (nI p), iU] [] (mH b x s) (fun r h1 => r = some (.int (oI (untT Z.2.2.2.2.2.1 Z.1 0 U).2)) ∧ ∃ s2 V, h1 = mH b x s2 ∧ sEx LW s s2 ∧ wIs s2 V ∧ tEq V (untT Z.2.2.2.2.2.1 Z.1 0 U).1) := by
    simp only [X9_stuck_0, X9_stuck_1, iOb_some, iClr_i, iClr_r, iClr_n, iClr_u, iClr_l, rf_s, rf_n, iB_0, iSum_nil]
    exact stuck_loop (s0 := s) hp hZ h12 he Z.1 0 s U (by omega) sEx.refl hw hU (fun s2 V y1 y2 y3 => ⟨rfl, s2, V, rfl, y1, y2, y3⟩)
  obtain ⟨r, h1, e, rfl, s2, V, rfl, g⟩ := I9_stuck z
  exact ⟨s2, V, e, g⟩
/-- a tree laid back -/
theorem ev9_laysR (hR : mRel s W) (hW : wOk W) (ht : t ≤ W.1.1) (ht16 : t < 16) (hw : wIs s V) (hV : V.1 ≤ 60) (hU : tEq V U) : ∃ s2, iEv mX9_lays [.ref x, .int (nI t)] (mH b x s) none (mH b x s2) ∧ mRel s2 (wTr W t U) ∧ s2.1 = s.1 ∧ s2.2.1 1 t = nI V.1 ∧ (t = W.1.1 → mTr (s2.2.1 2) (s2.2.1 3) (s2.2.1 4) t U) := by
  have el := ev9_lays (b := b) (x := x) (s := s) (n := V.1) (u := t) (K := V.2.1) (B := V.2.2.1) (D := V.2.2.2) (C := s.2.1 22) (E := s.2.1 23) (F := s.2.1 24) ht16 (by omega)
  rw [← hw.eq] at el
  generalize hs2 : wS (lS s (upd (s.2.1 1) t (nI V.1)) (tPt (s.2.1 2) V.2.1 (64 * t) V.1) (tPt (s.2.1 3) V.2.2.1 (64 * t) V.1) (tPt (s.2.1 4) V.2.2.2 (64 * t) V.1)) V.1 V.2.1 V.2.2.1 V.2.2.2 (s.2.1 22) (s.2.1 23) (s.2.1 24) = s2 at el
  have f1 : ∀ q, s2.1 q = s.1 q := by
    intro q
    rw [← hs2]
    show va_up s.1 18 (nI V.1) q = s.1 q
    unfold va_up
    split
    · rename_i z
      rw [z, hw.1]
    · rfl
  have f2 : ∀ q, q ∉ [1, 2, 3, 4] → s2.2.1 q = s.2.1 q := by
    intro q hq
    rw [← hs2]
    by_cases c : q < 19 ∨ 24 < q
    · rw [wS_off c, lS_off (by simp at hq; omega)]
    · have : q = 19 ∨ q = 20 ∨ q = 21 ∨ q = 22 ∨ q = 23 ∨ q = 24 := by omega
      rcases this with z | z | z | z | z | z
      · rw [z]
        exact hw.2.1.symm
      · rw [z]
        exact hw.2.2.1.symm
      · rw [z]
        exact hw.2.2.2.symm
      · rw [z]
        rfl
      · rw [z]
        rfl
      · rw [z]
        rfl
  have f3 : s2.2.2 = s.2.2 := by rw [← hs2]; rfl
  have a1 : s2.2.1 1 = upd (s.2.1 1) t (nI V.1) := by rw [← hs2]; rfl
  have a2 : s2.2.1 2 = tPt (s.2.1 2) V.2.1 (64 * t) V.1 := by rw [← hs2]; rfl
  have a3 : s2.2.1 3 = tPt (s.2.1 3) V.2.2.1 (64 * t) V.1 := by rw [← hs2]; rfl
  have a4 : s2.2.1 4 = tPt (s.2.1 4) V.2.2.2 (64 * t) V.1 := by rw [← hs2]; rfl
  have sz : s2.2.1 1 t = nI V.1 := by
    rw [a1]
    exact pk_us
  have mt : mTr (s2.2.1 2) (s2.2.1 3) (s2.2.1 4) t U := by
    intro i hi
    have hi : i < V.1 := by rw [hU.1]; exact hi
    obtain ⟨b1, b2, b3⟩ := hU.2 i hi
    rw [a2, a3, a4]
    unfold tPt
    rw [if_pos (by omega), if_pos (by omega), if_pos (by omega), Nat.add_sub_cancel_left]
    exact ⟨b1, b2, b3⟩
  have mo : ∀ u, u ≠ t → ∀ Y : tT, Y.1 ≤ 64 → mTr (s.2.1 2) (s.2.1 3) (s.2.1 4) u Y → mTr (s2.2.1 2) (s2.2.1 3) (s2.2.1 4) u Y := by
    intro u hu Y hY hm i hi
    rw [a2, a3, a4]
    unfold tPt
    rw [if_neg (by omega), if_neg (by omega), if_neg (by omega)]
    exact hm i hi
  refine ⟨s2, el, hR.now (fun q _ => f1 q) (fun q hq => f2 q (by simp at hq ⊢; omega)) f3 ?_, funext f1, sz, fun _ => mt⟩
  obtain ⟨b1, b2, b3, b4, b5⟩ := hR.1
  refine ⟨(f1 0).trans b1, (f1 5).trans b2, (f1 10).trans b3, fun u hu => ?_, fun r hr => ?_⟩
  · show s2.2.1 1 u = nI (va_up W.1.2.1 t U u).1 ∧ mTr _ _ _ u (va_up W.1.2.1 t U u)
    unfold va_up
    by_cases cu : u = t
    · rw [if_pos cu, cu]
      exact ⟨sz.trans (by rw [hU.1]), mt⟩
    · rw [if_neg cu]
      have hu : u < W.1.1 := hu
      obtain ⟨c1, c2⟩ := b4 u hu
      refine ⟨?_, mo u cu _ (by have := (hW.1.2.2.1 u hu).1.le; omega) c2⟩
      rw [a1, pk_un cu]
      exact c1
  · rw [f2 7 (by decide), f2 8 (by decide), f2 9 (by decide)]
    exact b5 r hr
theorem m9_apply (hR : mRel s W) (hW : wOk W) (v y : Int32) : ∃ r h1, iEv mX9_apply [.ref x, .int v, .int y] (mH b x s) r h1 ∧ m9P b x (aApply W v y) r h1 := by
  refine I9_apply ?_
  unfold aApply
  have hn : W.1.2.2.1 < 2 ^ 31 := by have := hW.1.2.1; omega
  have hn2 : W.1.1 < 2 ^ 31 := by have := hW.1.1; omega
  have et := ev9_isPatch (b := b) (x := x) hR.1 hW.1.2.1 (t := v)
  have eu := ev9_isTree (b := b) (x := x) hR.1 hW.1.1 (t := y)
  rcases iIx_cases v hn with ⟨e, z⟩ | ⟨i, hi, rfl, e⟩
  · rw [e] at et ⊢
    simp only [X9_apply_0, X9_apply_1, X9_apply_2 et mH_obj, X9_apply_5, X9_apply_8, X9_apply_9, X9_apply_13, X9_apply_16, X9_apply_17, X9_apply_18 (ev9_noV (v := -1) (r := 1) (by decide) rfl) mH_obj, X9_apply_21, iOb_some, iClr_i, iClr_r, iClr_n, iClr_u, iClr_l, rf_s, rf_n, iB_0, iSum_nil, Option.isSome_none, if_true]
    exact m9_rf hR (by decide)
  · rw [e] at et ⊢
    rcases iIx_cases y hn2 with ⟨f, z⟩ | ⟨j, hj, rfl, f⟩
    · rw [f] at eu ⊢
      simp only [X9_apply_0, X9_apply_1, X9_apply_2 et mH_obj, X9_apply_5, X9_apply_8, X9_apply_9, X9_apply_10 eu mH_obj, X9_apply_13, X9_apply_16, X9_apply_17, X9_apply_18 (ev9_noV (v := -1) (r := 1) (by decide) rfl) mH_obj, X9_apply_21, iOb_some, iClr_i, iClr_r, iClr_n, iClr_u, iClr_l, rf_s, rf_n, iB_0, iSum_nil, Option.isSome_none, Option.isSome_some, Bool.true_eq_false, if_false, if_true]
      exact m9_rf hR (by decide)
    · rw [f] at eu ⊢
      dsimp only
      have hi16 : i < 16 := by have := hW.1.2.1; omega
      have hj16 : j < 16 := by have := hW.1.1; omega
      obtain ⟨U, s1, e1, e2, e3, e4⟩ := ev9_loadsR (b := b) (x := x) hR.1 hW.1 hj
      have hT := e3.symm.ok (hW.1.2.2.1 j hj)
      have hO := hW.1.2.2.2 i hi
      obtain ⟨s2, V, k1, k2, k3, k4⟩ := ev9_stuck (b := b) (x := x) hi16 ((hR.1.2.2.2.2 i hi).ex e4 (by decide) (by decide) (by decide)) hO.1 hO.2.2.1 e2 hT
      obtain ⟨u1, u2, u3⟩ := unt_congr (G := (W.1.2.2.2.1 i).2.2.2.2.2.1) (W.1.2.2.2.1 i).1 0 U _ e3 hT (fun q _ hq => hO.2.2.1 q (by omega))
      have hlt := unt_lt (G := (W.1.2.2.2.1 i).2.2.2.2.2.1) (W.1.2.2.2.1 i).1 0 (W.1.2.1 j)
      rw [u1] at k1
      have k5 := k4.trans u2
      have hV : V.1 ≤ 60 := (k4.symm.ok u3).1.le
      have hL := hR.ex ((e4.trans k2).mono LWX)
      have hO1 := hO.1
      generalize (untT (W.1.2.2.2.1 i).2.2.2.2.2.1 (W.1.2.2.2.1 i).1 0 (W.1.2.1 j)).2 = oo at k1 hlt ⊢
      generalize (untT (W.1.2.2.2.1 i).2.2.2.2.2.1 (W.1.2.2.2.1 i).1 0 (W.1.2.1 j)).1 = Y at k5 ⊢
      cases oo with
      | some q =>
        have hy : ¬ oI (some q) = -1 := oI_ne (by have := hlt q rfl; omega)
        simp only [X9_apply_0, X9_apply_1, X9_apply_2 et mH_obj, X9_apply_5, X9_apply_8, X9_apply_9, X9_apply_10 eu mH_obj, X9_apply_13, X9_apply_16, X9_apply_17, X9_apply_21, X9_apply_22, X9_apply_23, X9_apply_24 e1 mH_obj, X9_apply_27, X9_apply_28, X9_apply_29 k1 mH_obj, X9_apply_32, X9_apply_33, X9_apply_36, X9_apply_37, X9_apply_39 (ev9_noV (v := -6) (r := 6) (by decide) rfl) mH_obj, X9_apply_42, iOb_some, iClr_i, iClr_r, iClr_n, iClr_u, iClr_l, rf_s, rf_n, iB_0, iSum_nil, Option.isSome_some, Bool.true_eq_false, if_false, if_neg hy]
        exact m9_rf hL (by decide)
      | none =>
        obtain ⟨s3, q1, q2, q3, q4, -⟩ := ev9_laysR (b := b) (x := x) hL hW (Nat.le_of_lt hj) hj16 k3 hV k5
        have n18 : s3.1 18 = nI V.1 := by rw [q3]; exact k3.1
        simp only [X9_apply_0, X9_apply_1, X9_apply_2 et mH_obj, X9_apply_5, X9_apply_8, X9_apply_9, X9_apply_10 eu mH_obj, X9_apply_13, X9_apply_16, X9_apply_17, X9_apply_21, X9_apply_22, X9_apply_23, X9_apply_24 e1 mH_obj, X9_apply_27, X9_apply_28, X9_apply_29 k1 mH_obj, X9_apply_32, X9_apply_33, X9_apply_36, X9_apply_37, X9_apply_42, X9_apply_43, X9_apply_44, X9_apply_45 q1 mH_obj, X9_apply_48, X9_apply_49, X9_apply_52, iOb_some, iClr_i, iClr_r, iClr_n, iClr_u, iClr_l, rf_s, rf_n, iB_0, iSum_nil, Option.isSome_some, Bool.true_eq_false, if_false, oI_n, if_true, mg18, n18]
        rw [k5.1]
        exact m9_same q2
theorem m9_sticks (hR : mRel s W) (hW : wOk W) (v y : Int32) : ∃ r h1, iEv mX9_sticks [.ref x, .int v, .int y] (mH b x s) r h1 ∧ m9P b x (aSticks W v y) r h1 := by
  refine I9_sticks ?_
  unfold aSticks
  have hn : W.1.2.2.1 < 2 ^ 31 := by have := hW.1.2.1; omega
  have hn2 : W.1.1 < 2 ^ 31 := by have := hW.1.1; omega
  have et := ev9_isPatch (b := b) (x := x) hR.1 hW.1.2.1 (t := v)
  have eu := ev9_isTree (b := b) (x := x) hR.1 hW.1.1 (t := y)
  rcases iIx_cases v hn with ⟨e, z⟩ | ⟨i, hi, rfl, e⟩
  · rw [e] at et ⊢
    simp only [X9_sticks_0, X9_sticks_1, X9_sticks_2 et mH_obj, X9_sticks_5, X9_sticks_8, X9_sticks_9, X9_sticks_13, X9_sticks_16, X9_sticks_17, X9_sticks_18 (ev9_no10V (v := -1) (r := 1) (by decide) rfl) mH_obj, X9_sticks_21, iOb_some, iClr_i, iClr_r, iClr_n, iClr_u, iClr_l, rf_s, rf_n, iB_0, iSum_nil, Option.isSome_none, if_true]
    exact m9_rf hR (by decide)
  · rw [e] at et ⊢
    rcases iIx_cases y hn2 with ⟨f, z⟩ | ⟨j, hj, rfl, f⟩
    · rw [f] at eu ⊢
      simp only [X9_sticks_0, X9_sticks_1, X9_sticks_2 et mH_obj, X9_sticks_5, X9_sticks_8, X9_sticks_9, X9_sticks_10 eu mH_obj, X9_sticks_13, X9_sticks_16, X9_sticks_17, X9_sticks_18 (ev9_no10V (v := -1) (r := 1) (by decide) rfl) mH_obj, X9_sticks_21, iOb_some, iClr_i, iClr_r, iClr_n, iClr_u, iClr_l, rf_s, rf_n, iB_0, iSum_nil, Option.isSome_none, Option.isSome_some, Bool.true_eq_false, if_false, if_true]
      exact m9_rf hR (by decide)
    · rw [f] at eu ⊢
      dsimp only
      have hi16 : i < 16 := by have := hW.1.2.1; omega
      obtain ⟨U, s1, e1, e2, e3, e4⟩ := ev9_loadsR (b := b) (x := x) hR.1 hW.1 hj
      have hT := e3.symm.ok (hW.1.2.2.1 j hj)
      have hO := hW.1.2.2.2 i hi
      obtain ⟨s2, V, k1, k2, k3, k4⟩ := ev9_stuck (b := b) (x := x) hi16 ((hR.1.2.2.2.2 i hi).ex e4 (by decide) (by decide) (by decide)) hO.1 hO.2.2.1 e2 hT
      obtain ⟨u1, u2, u3⟩ := unt_congr (G := (W.1.2.2.2.1 i).2.2.2.2.2.1) (W.1.2.2.2.1 i).1 0 U _ e3 hT (fun q _ hq => hO.2.2.1 q (by omega))
      rw [u1] at k1
      simp only [X9_sticks_0, X9_sticks_1, X9_sticks_2 et mH_obj, X9_sticks_5, X9_sticks_8, X9_sticks_9, X9_sticks_10 eu mH_obj, X9_sticks_13, X9_sticks_16, X9_sticks_17, X9_sticks_21, X9_sticks_22, X9_sticks_23, X9_sticks_24 e1 mH_obj, X9_sticks_27, X9_sticks_28, X9_sticks_29 k1 mH_obj, X9_sticks_32, iOb_some, iClr_i, iClr_r, iClr_n, iClr_u, iClr_l, rf_s, rf_n, iB_0, iSum_nil, Option.isSome_some, Bool.true_eq_false, if_false]
      exact m9_same (hR.ex ((e4.trans k2).mono LWX))
end APPLY

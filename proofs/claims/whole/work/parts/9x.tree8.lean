/-! tree: the class -/
section TREE8
variable {h h1 b : iHp} {o sN n k i j l x m a c p q r t u d L st : Nat} {im : Option Nat} {R E T P : Nat → Option Nat} {sh rf C : Nat → Int32} {W : wW} {U V : tT} {va vd v so ky : Int32} {fz : Nat → Int64} {f g : Nat → Int32} {K B D : Nat → Int32}
theorem rdN_f (h : ∀ j, j < L → f j = g j) : rdN f L a d U = rdN g L a d U := by
  have hd : ∀ j, dg f L j = dg g L j := by
    intro j
    unfold dg
    by_cases c : j < L
    · rw [h j c]
    · rw [decide_eq_false (fun z => c z.1), decide_eq_false (fun z => c z.1)]
  unfold rdN
  by_cases c : a < L
  · rw [h a c, hd (a + 1), hd (a + 2)]
    have hk : ∀ ky a', rdK f a d U ky a' = rdK g a d U ky a' := by
      intro ky a'
      unfold rdK
      rw [h a c]
    split
    · split
      · rename_i c1
        have l1 := (of_decide_eq_true c1).1
        split
        · rename_i c2
          have l2 := (of_decide_eq_true c2).1
          rw [hk, h (a + 1) l1, h (a + 2) l2]
        · rw [hk, h (a + 1) l1]
      · rfl
    · rfl
  · rw [if_neg (fun z => c z.1), if_neg (fun z => c z.1)]
theorem rdM_f (h : ∀ j, j < L → f j = g j) : ∀ k a d st U, rdM f L k a d st U = rdM g L k a d st U := by
  intro k
  induction k with
  | zero => intro a d st U; rfl
  | succ k ih =>
    intro a d st U
    rw [rdM_s, rdM_s, rdN_f h]
    by_cases c : a < L
    · rw [if_pos c, if_pos c, h a c, ih (a + 1) (d + 1) 0 U, ih (a + 1) d 0 U, ih (a + 1) (d - 1) 2 U]
      by_cases c1 : st = 0
      · rw [if_pos c1, if_pos c1]
        cases rdN g L a d U with
        | inl x => rfl
        | inr y => exact ih y.1 d 1 y.2
      · rw [if_neg c1, if_neg c1]
    · rw [if_neg c, if_neg c]
theorem rdp4 {a0 a1 a2 a3 v : Value} {ci : Nat} (hk : k < 4) : iPut (iSet b p (.inr (ci, [a0, a1, a2, a3]))) p ci k v = some (iSet b p (.inr (ci, [a0, a1, a2, a3].set k v))) := by
  rw [iPut_at (if_pos rfl) (show k < [a0, a1, a2, a3].length from hk)]
  refine congrArg some (Prod.ext (funext fun z => ?_) rfl)
  show (if z = p then _ else (if z = p then _ else b.1 z)) = (if z = p then _ else b.1 z)
  by_cases e : z = p
  · rw [if_pos e, if_pos e]
  · rw [if_neg e, if_neg e, if_neg e]
theorem iDefs4 : iDefs 4 = [.null, .null, .int 0, .int 0] := rfl
/-- a new Reader -/
theorem ev_rdinit : ∃ g : iHp, iEv mX4_init [.ref h.2.1, .ref q] (iNewO h 4) none (rrH g h.2.1 q (0, fun _ => 0, fun _ => 0, fun _ => 0) 0 0) ∧ (∀ z, z < h.2.1 → g.1 z = h.1 z) ∧ g.2.1 = h.2.1 + 5 ∧ h.2.2 ≤ g.2.2 ∧ g.2.2 ≤ h.2.2 + 400 := by
  have ei := ev_tinit (h := iNewO h 4)
  have e0 : (iNewO h 4).2.1 = h.2.1 + 1 := rfl
  rw [e0] at ei
  generalize hg : nH (iNewO h 4) [.inr (7, [.ref (h.2.1 + 1 + 1), .ref (h.2.1 + 1 + 2), .ref (h.2.1 + 1 + 3), .int 0]), .inl (0, 80, .inl (fun _ => 0)), .inl (0, 80, .inl (fun _ => 0)), .inl (0, 80, .inl (fun _ => 0))] ((iNewO h 4).2.2 + 244) = g at ei
  have hp : g.1 h.2.1 = some (.inr (4, [.null, .null, .int 0, .int 0])) := by
    rw [← hg, nH_off (by rw [e0]; omega)]
    exact iNew_at
  have hT : trAt g (h.2.1 + 1) 0 (fun _ => 0) (fun _ => 0) (fun _ => 0) := by
    rw [← hg]
    exact ⟨nH_at (h := iNewO h 4) (k := 0) (Nat.le_of_ble_eq_true rfl), nH_at (h := iNewO h 4) (k := 1) (Nat.le_of_ble_eq_true rfl), nH_at (h := iNewO h 4) (k := 2) (Nat.le_of_ble_eq_true rfl), nH_at (h := iNewO h 4) (k := 3) (Nat.le_of_ble_eq_true rfl), by decide⟩
  have hs : iSet g h.2.1 (.inr (4, [.null, .null, .int 0, .int 0])) = g := iSet_same hp
  have ef : rrH g h.2.1 q (0, fun _ => 0, fun _ => 0, fun _ => 0) 0 0 = iSet g h.2.1 (rrC h.2.1 q 0 0) := by
    unfold rrH
    rw [← rr_set (c := .inr (4, [.null, .null, .int 0, .int 0])), hs]
    exact congrArg (fun z => iSet z h.2.1 (rrC h.2.1 q 0 0)) hT.eq
  refine ⟨g, ?_, fun z hz => ?_, ?_, ?_, ?_⟩
  · rw [ef]
    refine J4_init (cat_r q) ?_
    have q0 : iPut g h.2.1 4 0 (.ref (h.2.1 + 1)) = some (iSet g h.2.1 (.inr (4, [.ref (h.2.1 + 1), .null, .int 0, .int 0]))) := by
      rw [← hs]
      refine (rdp4 (b := g) (p := h.2.1) (k := 0) (by decide)).trans ?_
      rw [hs]
      rfl
    simp only [X4_init_0, X4_init_1, X4_init_4, X4_init_5, X4_init_8, X4_init_9 ei, X4_init_12, X4_init_12n, X4_init_15, X4_init_16, X4_init_17, X4_init_20, X4_init_21, X4_init_22, X4_init_25, X4_init_26, X4_init_26n, X4_init_27, X4_init_27n, X4_init_30, iOb_some, iClr_i, iClr_r, iClr_n, iClr_u, iClr_l, rf_s, rf_n, iB_0, iSum_nil, e0, q0, rdp4 (b := g) (p := h.2.1) (ci := 4) (k := 1) (by decide), rdp4 (b := g) (p := h.2.1) (ci := 4) (k := 2) (by decide), rdp4 (b := g) (p := h.2.1) (ci := 4) (k := 3) (by decide), List.set_cons_zero, List.set_cons_succ]
    exact ⟨trivial, rfl⟩
  · rw [← hg, nH_off (by rw [e0]; omega)]
    exact iNew_off (by omega)
  · rw [← hg]
    rfl
  · rw [← hg]
    show h.2.2 ≤ h.2.2 + _ + 244
    omega
  · rw [← hg]
    show h.2.2 + 4 + 244 ≤ _
    omega
theorem c8_addT (hR : cRe h o sN im R sh rf n k E C T P W) (hW : wOk W) (ht : W.1.1 < 16) (hT : trAt h a V.1 V.2.1 V.2.2.1 V.2.2.2) (oo : ∀ j, j < 4 → oc h o sN (a + j)) (hU : tEq V U) : ∃ h1, iEv mX6_addTree [.ref sN, .ref a] h (some (.int (nI W.1.1))) h1 ∧ cRe h1 o sN im R sh rf n k E C (va_up T W.1.1 (some a)) P (wAd W U) ∧ gr h h1 o sN 0 0 := by
  have er := ev_saddTree (b := h) (s := sN) (tc := W.1.1) (pc := W.1.2.2.1) (se := W.1.2.2.2.2) (T := T) (P := P) (x := a) ht hW.1.2.1 (by rw [hR.steq]; exact hT.o)
  rw [hR.steq] at er
  have hb : bSt h o sN (va_up T W.1.1 (some a)) P (W.1.1 + 1, va_up W.1.2.1 W.1.1 U, W.1.2.2) := by
    obtain ⟨b1, b2, b3, b4⟩ := hR.2.2.2.2.1
    refine ⟨fun q hq => ?_, b2, fun q y hy => ?_, b4⟩
    · show ∃ t, va_up T W.1.1 (some a) q = some t ∧ bTr h o sN t (va_up W.1.2.1 W.1.1 U q)
      have hq : q < W.1.1 + 1 := hq
      unfold va_up
      by_cases cq : q = W.1.1
      · rw [if_pos cq, if_pos cq]
        refine ⟨a, rfl, ⟨V.2.1, V.2.2.1, V.2.2.2, ?_, ?_⟩, oo⟩
        · rw [← hU.1]
          exact hT
        · rw [← hU.1]
          exact hU
      · rw [if_neg cq, if_neg cq]
        exact b1 q (by omega)
    · unfold va_up at hy
      split at hy
      · cases hy
        exact ⟨oo 0 (by decide), hT.o⟩
      · exact b3 q y hy
  have ag : agt h (stH h sN (W.1.1 + 1) W.1.2.2.1 W.1.2.2.2.2 (va_up T W.1.1 (some a)) P) o sN sN := fun q hq => ⟨hq, stH_off hq.2.2⟩
  exact ⟨_, er, hR.setS (w := (W.1.1 + 1, va_up W.1.2.1 W.1.1 U, W.1.2.2)) (by show W.1.1 + 1 ≤ 16; omega) hW.1.2.1 hb, ⟨frZ.st hR.sNl, ag, Nat.le_refl _, Nat.le_refl _, Nat.le_refl _, Nat.le_refl _⟩⟩
theorem c8_addTN (hR : cRe h o sN im R sh rf n k E C T P W) (hW : wOk W) (ht : W.1.1 = 16) : iEv mX6_addTree [.ref sN, .ref a] h (some (.int (-1))) h := by
  have er := ev_saddTreeN (b := h) (s := sN) (pc := W.1.2.2.1) (se := W.1.2.2.2.2) (T := T) (P := P) hW.1.2.1 (.ref a) rfl
  have := hR.steq
  rw [ht] at this
  rwa [this] at er
theorem c8_doTree (hR : cRep h o W) (hW : wOk W) (y : Int32) : ∃ r h1, iEv mX8_tree [.ref o, .int y] h r h1 ∧ c8P h o (aTree W y) r h1 := by
  obtain ⟨sN, im, R, sh, rf, n, k, E, C, T, P, hR⟩ := hR
  refine I8_tree ?_
  unfold aTree
  have why : ∀ v r, aNoRow W y = v → v ≠ 0 → ∀ {Q : Option Value → iHp → Prop}, (∃ h2, iEv mX8_refuse [.ref o, .int v] h (some (.int v)) h2 ∧ r = h2 ∧ Q (some (.int v)) h2) → iEv mX8_rowAt [.ref o, .int y] h (some .null) h → iWp 7 mX8_tree 0 [.ref o, .int y, iU, iU, iU] [] h Q := by
    intro v r h1 h2 Q h3 h4
    obtain ⟨h5, h6, -, h7⟩ := h3
    have hw := c8_why hR (i := y) (by rw [h1]; exact h2)
    rw [h1] at hw
    simp only [X8_tree_0, X8_tree_1, X8_tree_2 h4 hR.ob, X8_tree_5, X8_tree_5n, X8_tree_6, X8_tree_6n, X8_tree_7, X8_tree_7n, X8_tree_10, X8_tree_11, X8_tree_12, X8_tree_13 hw hR.ob, X8_tree_16 h6 hR.ob, X8_tree_19, iOb_some, iClr_i, iClr_r, iClr_n, iClr_u, iClr_l, rf_s, rf_n, iB_0, iSum_nil]
    exact h7
  have en : aNoRow W y = _ := rfl
  rcases iIx_cases y (n := 8) (by decide) with ⟨e, z⟩ | ⟨j, hj, rfl, e⟩
  · have en : aNoRow W y = -1 := by unfold aNoRow; rw [e]
    rw [e]
    exact why (-1) _ en (by decide) ⟨_, ev8_refuse hR (v := -1) (r := 1) (by decide) (by decide) rfl, rfl, c8_end hR (by decide)⟩ (c8_rowN hR (fun q hq => by rw [e] at hq; cases hq))
  · rw [e]
    dsimp only
    cases hz : (W.2.2.1 j).1 with
    | none =>
      have hrow := c8_rowN hR (i := nI j) (fun q hq => by rw [e] at hq; cases hq; exact hz)
      dsimp only
      by_cases c : (W.2.2.1 j).2 = -1
      · rw [if_pos c]
        have en : aNoRow W (nI j) = -3 := by
          unfold aNoRow
          rw [e]
          dsimp only
          rw [hz]
          exact if_pos c
        exact why (-3) _ en (by decide) ⟨_, ev8_refuse hR (v := -3) (r := 3) (by decide) (by decide) rfl, rfl, c8_end hR (by decide)⟩ hrow
      · rw [if_neg c]
        have en : aNoRow W (nI j) = -2 := by
          unfold aNoRow
          rw [e]
          dsimp only
          rw [hz]
          exact if_neg c
        exact why (-2) _ en (by decide) ⟨_, ev8_refuse hR (v := -2) (r := 2) (by decide) (by decide) rfl, rfl, c8_end hR (by decide)⟩ hrow
    | some z =>
      dsimp only
      obtain ⟨a, f, r1, r2, r3, r4, r5⟩ := hR.rS hj hz
      have hrow := c8_row hR hj r1
      have hap := r5.2.1
      have hlo := hR.lo
      obtain ⟨g, i1, i2, i3, i4, i5⟩ := ev_rdinit (h := h) (q := a)
      have hwg : rwAt g a z.1 z.2.1 f := ⟨(i2 a (by omega)).trans r2.1, (i2 (a + 1) (by omega)).trans r2.2.1, r2.2.2⟩
      have hrd : rdT z = rd (fun j => (f j).toInt32) z.2.1 0 0 0 (0, fun _ => 0, fun _ => 0, fun _ => 0) := rdM_f (fun j hj => by rw [r3 j hj]) _ 0 0 0 _
      have w1 := rr_w (p := h.2.1) (T := (0, fun _ => 0, fun _ => 0, fun _ => 0)) (va := 0) (vd := 0) hwg hap
      have hread : ∃ r h1, iEv mX4_read [.ref h.2.1] (rrH g h.2.1 a (0, fun _ => 0, fun _ => 0, fun _ => 0) 0 0) r h1 ∧ rQ g h.2.1 a (rdT z) r h1 := by
        refine I4_read ?_
        simp only [X4_read_0, X4_read_1, X4_read_4 (ev_rlen w1) w1.o, X4_read_7, X4_read_8, X4_read_9, X4_read_10, X4_read_11, iOb_some, iClr_i, iClr_r, iClr_n, iClr_u, iClr_l, rf_s, rf_n, iB_0, iSum_nil, rr_g1]
        rw [hrd]
        exact read_loop hwg hap z.2.1 0 0 0 (0, fun _ => 0, fun _ => 0, fun _ => 0) 0 _ (by omega) (Nat.zero_le _) (Nat.le_refl _) (Or.inl rfl) (Nat.zero_le _) (Nat.le_refl _)
      obtain ⟨r, h1, ev, V, va, vd, rfl, hV, hq⟩ := hread
      have hsn := hR.sNh
      have nx : (rrH g h.2.1 a V va vd).2.1 = h.2.1 + 5 := i3
      have n1 : h.2.1 ≤ (rrH g h.2.1 a V va vd).2.1 := by omega
      have cell : ∀ z, z < h.2.1 → (rrH g h.2.1 a V va vd).1 z = h.1 z := fun z hz => (rr_off (Or.inl hz)).trans (i2 z hz)
      have hR1 := hR.grow cell n1
      have g1 : gr h (rrH g h.2.1 a V va vd) o sN 5 400 := ⟨fun q hq => cell q (by omega), fun q hq => ⟨⟨hq.1, by have := hq.2.1; omega, hq.2.2⟩, cell q hq.2.1⟩, n1, by omega, i4, i5⟩
      have fa : ∀ v, cRe (iSet (rrH g h.2.1 a V va vd) o (cOb o sN im v W.2.2.2.2.2)) o sN im R sh rf n k E C T P (wFa W v) ∧ gr h (iSet (rrH g h.2.1 a V va vd) o (cOb o sN im v W.2.2.2.2.2)) o sN 5 400 := fun v => ⟨hR1.setO hR1.2.2.2.2.2.1, (g1.trans (⟨frZ.set (Or.inl ⟨Nat.le_refl _, by omega⟩), fun q hq => ⟨hq, if_neg (by have := hq.1; omega)⟩, Nat.le_refl _, Nat.le_refl _, Nat.le_refl _, Nat.le_refl _⟩ : gr (rrH g h.2.1 a V va vd) (iSet (rrH g h.2.1 a V va vd) o (cOb o sN im v W.2.2.2.2.2)) o sN 0 0))⟩
      rcases hq with ⟨x, q1, rfl, q3⟩ | ⟨q1, rfl, q3⟩
      · obtain ⟨f1, f2⟩ := fa (nI x)
        have hf := (hR1.pFault (v := nI x))
        have hg6 : iGet (iSet (rrH g h.2.1 a V va vd) o (cOb o sN im (nI x) W.2.2.2.2.2)) o 8 6 = some (.int (nI x)) := f1.g6
        have nx1 : ¬ nI x = -1 := oI_ne q3
        rw [q1]
        dsimp only
        simp only [X8_tree_0, X8_tree_1, X8_tree_2 hrow hR.ob, X8_tree_5, X8_tree_5n, X8_tree_6, X8_tree_6n, X8_tree_7, X8_tree_7n, X8_tree_10, X8_tree_11, X8_tree_12, X8_tree_19, X8_tree_20, X8_tree_23, X8_tree_24, X8_tree_24n, X8_tree_25 i1 (cat_r a), X8_tree_28, X8_tree_28n, X8_tree_29, X8_tree_30, X8_tree_30n, X8_tree_31 ev rr_o, X8_tree_34, X8_tree_37, X8_tree_38, X8_tree_41, X8_tree_42, X8_tree_45, X8_tree_46, X8_tree_48 (ev8_refuse f1 (v := -6) (r := 6) (by decide) (by decide) rfl) f1.ob, X8_tree_51, iOb_some, iClr_i, iClr_r, iClr_n, iClr_u, iClr_l, rf_s, rf_n, iB_0, iSum_nil, hf, hg6, if_neg nx1]
        obtain ⟨z1, z2, z3, z4, z5, z6, z7⟩ := c8_end f1 (r := 6) (u := -6) (by decide)
        obtain ⟨b1, b2, b3, b4, b5, b6⟩ := f2
        exact ⟨z1, z2, b1.trans z3, (by show h.2.1 ≤ g.2.1; omega), (by show g.2.1 ≤ h.2.1 + 1000; omega), (by show h.2.2 ≤ g.2.2; omega), (by show g.2.2 ≤ h.2.2 + 14000; omega)⟩
      · obtain ⟨f1, f2⟩ := fa (-1)
        have hf := (hR1.pFault (v := -1))
        have hg6 : iGet (iSet (rrH g h.2.1 a V va vd) o (cOb o sN im (-1) W.2.2.2.2.2)) o 8 6 = some (.int (-1)) := f1.g6
        have hc0 : (iSet (rrH g h.2.1 a V va vd) o (cOb o sN im (-1) W.2.2.2.2.2)).1 h.2.1 = some (rrC h.2.1 a va vd) := (if_neg (show ¬ h.2.1 = o by omega)).trans rr_c
        have hg0 : iGet (iSet (rrH g h.2.1 a V va vd) o (cOb o sN im (-1) W.2.2.2.2.2)) h.2.1 4 0 = some (.ref (h.2.1 + 1)) := (iGet_of hc0).trans rfl
        rw [q1]
        dsimp only
        have oo : ∀ j, j < 4 → oc (rrH g h.2.1 a V va vd) o sN (h.2.1 + 1 + j) := fun j hj => ⟨by omega, by omega, by omega⟩
        have hT : trAt (iSet (rrH g h.2.1 a V va vd) o (cOb o sN im (-1) W.2.2.2.2.2)) (h.2.1 + 1) V.1 V.2.1 V.2.2.1 V.2.2.2 := (rr_t (show V.1 ≤ 80 by omega)).agt oo (fun q hq => ⟨hq, if_neg (by have := hq.1; omega)⟩)
        have oo2 : ∀ j, j < 4 → oc (iSet (rrH g h.2.1 a V va vd) o (cOb o sN im (-1) W.2.2.2.2.2)) o sN (h.2.1 + 1 + j) := oo
        have ht := hW.1.1
        by_cases c16 : W.1.1 = 16
        · rw [if_pos c16]
          have ea := c8_addTN (a := h.2.1 + 1) f1 (wFa_ok hW) c16
          simp only [X8_tree_0, X8_tree_1, X8_tree_2 hrow hR.ob, X8_tree_5, X8_tree_5n, X8_tree_6, X8_tree_6n, X8_tree_7, X8_tree_7n, X8_tree_10, X8_tree_11, X8_tree_12, X8_tree_19, X8_tree_20, X8_tree_23, X8_tree_24, X8_tree_24n, X8_tree_25 i1 (cat_r a), X8_tree_28, X8_tree_28n, X8_tree_29, X8_tree_30, X8_tree_30n, X8_tree_31 ev rr_o, X8_tree_34, X8_tree_37, X8_tree_38, X8_tree_41, X8_tree_42, X8_tree_45, X8_tree_46, X8_tree_51, X8_tree_52, X8_tree_53, X8_tree_56, X8_tree_56n, X8_tree_57, X8_tree_60 ea f1.2.2.1.o (cat_r (h.2.1 + 1)), X8_tree_63, X8_tree_65, X8_tree_67, X8_tree_68, X8_tree_71, X8_tree_72, X8_tree_74 (ev8_refuse f1 (v := -7) (r := 7) (by decide) (by decide) rfl) f1.ob, X8_tree_77, iOb_some, iClr_i, iClr_r, iClr_n, iClr_u, iClr_l, rf_s, rf_n, iB_0, iSum_nil, hf, hg6, if_true, f1.g4, hg0]
          simp only [X8_tree_82, iOb_some, iClr_i, iClr_r, iClr_n, iClr_u, iClr_l, rf_s, rf_n, iB_0, iSum_nil]
          obtain ⟨z1, z2, z3, z4, z5, z6, z7⟩ := c8_end f1 (r := 7) (u := -7) (by decide)
          obtain ⟨b1, b2, b3, b4, b5, b6⟩ := f2
          exact ⟨z1, z2, b1.trans z3, (by show h.2.1 ≤ g.2.1; omega), (by show g.2.1 ≤ h.2.1 + 1000; omega), (by show h.2.2 ≤ g.2.2; omega), (by show g.2.2 ≤ h.2.2 + 14000; omega)⟩
        · rw [if_neg c16]
          obtain ⟨h3, d1, d2, d3⟩ := c8_addT f1 (wFa_ok hW) (show W.1.1 < 16 by omega) hT oo2 (q3 ▸ tEq.refl : tEq V (rdT z).2)
          have d1 : iEv mX6_addTree [.ref sN, .ref (h.2.1 + 1)] (iSet (rrH g h.2.1 a V va vd) o (cOb o sN im (-1) W.2.2.2.2.2)) (some (.int (nI W.1.1))) h3 := d1
          have nt : ¬ nI W.1.1 = -1 := oI_ne (show W.1.1 < 2 ^ 31 by omega)
          simp only [X8_tree_0, X8_tree_1, X8_tree_2 hrow hR.ob, X8_tree_5, X8_tree_5n, X8_tree_6, X8_tree_6n, X8_tree_7, X8_tree_7n, X8_tree_10, X8_tree_11, X8_tree_12, X8_tree_19, X8_tree_20, X8_tree_23, X8_tree_24, X8_tree_24n, X8_tree_25 i1 (cat_r a), X8_tree_28, X8_tree_28n, X8_tree_29, X8_tree_30, X8_tree_30n, X8_tree_31 ev rr_o, X8_tree_34, X8_tree_37, X8_tree_38, X8_tree_41, X8_tree_42, X8_tree_45, X8_tree_46, X8_tree_51, X8_tree_52, X8_tree_53, X8_tree_56, X8_tree_56n, X8_tree_57, X8_tree_60 d1 f1.2.2.1.o (cat_r (h.2.1 + 1)), X8_tree_63, X8_tree_65, X8_tree_67, X8_tree_68, X8_tree_71, X8_tree_72, X8_tree_77, X8_tree_80, X8_tree_82, iOb_some, iClr_i, iClr_r, iClr_n, iClr_u, iClr_l, rf_s, rf_n, iB_0, iSum_nil, hf, hg6, if_true, f1.g4, hg0, if_neg nt]
          obtain ⟨b1, b2, b3, b4, b5, b6⟩ := f2.trans d3
          exact ⟨rfl, ⟨sN, im, R, sh, rf, n, k, E, C, _, P, d2⟩, b1, by omega, by omega, by omega, by omega⟩
end TREE8

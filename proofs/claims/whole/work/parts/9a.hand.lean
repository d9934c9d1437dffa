/-! hand, put: the class -/
section HAND
variable {h h' : iHp} {o sN n k i j l x m a c p q : Nat} {im : Option Nat} {R E T P : Nat → Option Nat} {sh rf C C2 : Nat → Int32} {W : wW} {G : Nat → Nat → Int32} {so sr : Int32} {e : Nat → Int32}
theorem dEd.agt (hE : dEd h o sN n E G) (ha : agt h h' o sN sN) : dEd h' o sN n E G := fun j hj => by
  obtain ⟨x, x1, x2, x3⟩ := hE j hj
  exact ⟨x, x1, (ha x x3).2.trans x2, (ha x x3).1⟩
theorem agt_dr {E' : Nat → Option Nat} {C' : Nat → Int32} {n' k' : Nat} : agt h (drH h (o + 4) n' k' E' C') o sN sN := fun q hq => ⟨hq, drH_off (by have := hq.1; omega)⟩
theorem agt_new {z : iPC} : agt h (iNew h z m) o sN sN := fun q hq => ⟨⟨hq.1, Nat.lt_succ_of_lt hq.2.1, hq.2.2⟩, iNew_off (by have := hq.2.1; omega)⟩
theorem agt.trans {h2 : iHp} (a : agt h h' o sN sN) (b : agt h' h2 o sN sN) : agt h h2 o sN sN := fun q hq => ⟨(b q (a q hq).1).1, (b q (a q hq).1).2.trans (a q hq).2⟩
theorem frZ.new {z : iPC} (hl : o + 38 ≤ h.2.1) : frZ h (iNew h z m) o := fun q hq => iNew_off (by omega)
theorem cRe.new (hR : cRe h o sN im R sh rf n k E C T P W) {z : iPC} : cRe (iNew h z m) o sN im R sh rf n k E C T P W := hR.grow (fun q hq => iNew_off (by omega)) (Nat.le_succ _)
/-- a new edit -/
theorem cRe.edit (hR : cRe h o sN im R sh rf n k E C T P W) (e : Nat → Int32) : cRe (eNew h e) o sN im R sh rf n k E C T P W ∧ edAt (eNew h e) h.2.1 e ∧ oc (eNew h e) o sN h.2.1 ∧ agt h (eNew h e) o sN sN ∧ frZ h (eNew h e) o := ⟨hR.new, eNew_at, ⟨hR.lo, Nat.lt_succ_self _, Or.inr hR.sNh⟩, agt_new, frZ.new hR.lo⟩
/-- the draft emptied -/
theorem c8_clear (hR : cRe h o sN im R sh rf n k E C T P W) : iEv mX1_clear [.ref (o + 4)] h none (drH h (o + 4) 0 0 E C) ∧ cRe (drH h (o + 4) 0 0 E C) o sN im R sh rf 0 0 E C T P W := by
  have := ev_dclear (b := h) (d := o + 4) (n := n) (c := k) (E := E) (C := C)
  rw [hR.dreq] at this
  exact ⟨this, hR.setD (by omega) (by omega)⟩
/-- an edit comes to the draft -/
theorem c8_add (hR : cRe h o sN im R sh rf n k E C T P W) (hE : dEd h o sN n E G) (hn : n < 120) (hx : edAt h x e) (ox : oc h o sN x) : iEv mX1_add [.ref (o + 4), .ref x] h none (drH h (o + 4) (n + 1) k (va_up E n (some x)) C) ∧ cRe (drH h (o + 4) (n + 1) k (va_up E n (some x)) C) o sN im R sh rf (n + 1) k (va_up E n (some x)) C T P W ∧ dEd (drH h (o + 4) (n + 1) k (va_up E n (some x)) C) o sN (n + 1) (va_up E n (some x)) (va_up G n e) := by
  have hk := hR.2.1.2.2.2.2
  have := ev_dadd (b := h) (d := o + 4) (n := n) (c := k) (E := E) (C := C) (x := x) hn hk (by rw [hR.dreq]; exact hx.o)
  rw [hR.dreq] at this
  refine ⟨this, hR.setD (by omega) hk, fun j hj => ?_⟩
  unfold va_up
  by_cases cj : j = n
  · rw [if_pos cj, if_pos cj]
    exact ⟨x, rfl, (agt_dr (sN := sN) x ox).2.trans hx, (agt_dr (sN := sN) x ox).1⟩
  · rw [if_neg cj, if_neg cj]
    exact (hE.agt agt_dr) j (by omega)
theorem dEd_0 : dEd h o sN 0 E G := fun j hj => by omega
theorem dEd.congr {G' : Nat → Nat → Int32} (hE : dEd h o sN n E G) (hG : ∀ j, j < n → G j = G' j) : dEd h o sN n E G' := fun j hj => by
  rw [← hG j hj]
  exact hE j hj
theorem dEd.one (hE : dEd h o sN (0 + 1) E (va_up G 0 e)) : dEd h o sN 1 E (fun _ => e) := fun j hj => by
  obtain rfl : j = 0 := by omega
  exact hE 0 (by omega)
/-- the end of a call behind a new patch -/
theorem k8_end {v : Int32 × wW} (h1 : cRep h' o v.2) (f0 : frZ h h' o) (a1 : h.2.1 ≤ h'.2.1) (a2 : h'.2.1 ≤ h.2.1 + 1000) (a3 : h.2.2 ≤ h'.2.2) (a4 : h'.2.2 ≤ h.2.2 + 14000) : c8P h o v (some (.int v.1)) h' := ⟨rfl, h1, f0, a1, a2, a3, a4⟩
def aHand (W : wW) (ky lb t : Int32) : Int32 × wW := match iIx t W.1.1 with
  | none => (-1, wRef W 1)
  | some j => match tWhere (W.1.2.1 j).2.1 (W.1.2.1 j).1 ky with
    | none => (-5, wRef W 5)
    | some i => if 97 ≤ lb ∧ lb ≤ 122 then aNew W 1 0 0 (-1) (fun _ => e7 0 ky ((W.1.2.1 j).2.2.1 i) lb 0 0 0) (fun _ => 0) else (-6, wRef W 6)
theorem c8_isLabel {h : iHp} (y : Int32) : iEv mX8_isLabel [.int y] h (some (.int (iB (decide (97 ≤ y ∧ y ≤ 122))))) h := by
  refine J8_isLabel ?_
  by_cases c1 : y < 97
  · simp only [X8_isLabel_0, X8_isLabel_1, X8_isLabel_3, X8_isLabel_6, X8_isLabel_7, X8_isLabel_9, X8_isLabel_12, X8_isLabel_13, X8_isLabel_16, X8_isLabel_17, X8_isLabel_17z, X8_isLabel_17o, iOb_some, iClr_i, iClr_r, iClr_n, iClr_u, iClr_l, rf_s, rf_n, iB_0, iSum_nil, if_pos c1]
    rw [decide_eq_false (fun z => Int32.not_le.mpr c1 z.1)]
    exact ⟨rfl, trivial⟩
  · by_cases c2 : 122 < y
    · simp only [X8_isLabel_0, X8_isLabel_1, X8_isLabel_3, X8_isLabel_6, X8_isLabel_7, X8_isLabel_9, X8_isLabel_12, X8_isLabel_13, X8_isLabel_16, X8_isLabel_17, X8_isLabel_17z, X8_isLabel_17o, iOb_some, iClr_i, iClr_r, iClr_n, iClr_u, iClr_l, rf_s, rf_n, iB_0, iSum_nil, if_neg c1, if_pos c2]
      rw [decide_eq_false (fun z => Int32.not_le.mpr c2 z.2)]
      exact ⟨rfl, trivial⟩
    · simp only [X8_isLabel_0, X8_isLabel_1, X8_isLabel_3, X8_isLabel_6, X8_isLabel_7, X8_isLabel_9, X8_isLabel_12, X8_isLabel_13, X8_isLabel_16, X8_isLabel_17, X8_isLabel_17z, X8_isLabel_17o, iOb_some, iClr_i, iClr_r, iClr_n, iClr_u, iClr_l, rf_s, rf_n, iB_0, iSum_nil, if_neg c1, if_neg c2]
      rw [decide_eq_true ⟨Int32.not_lt.mp c1, Int32.not_lt.mp c2⟩]
      exact ⟨rfl, trivial⟩
theorem c8_hand (hR : cRep h o W) (hW : wOk W) (ky lb t : Int32) : ∃ r h1, iEv mX8_hand [.ref o, .int ky, .int lb, .int t] h r h1 ∧ c8P h o (aHand W ky lb t) r h1 := by
  obtain ⟨sN, im, R, sh, rf, n, k, E, C, T, P, hR⟩ := hR
  refine I8_hand ?_
  unfold aHand
  have t16 := hW.1.1
  rcases iIx_cases t (n := W.1.1) (by omega) with ⟨f, z⟩ | ⟨j, hj, rfl, f⟩
  · rw [f]
    simp only [X8_hand_0, X8_hand_1, X8_hand_2 (c8_treeN hR z) hR.ob, X8_hand_5, X8_hand_5n, X8_hand_7, X8_hand_7n, X8_hand_9, X8_hand_9n, X8_hand_12, X8_hand_13, X8_hand_14 (ev8_refuse hR (v := -1) (r := 1) (by decide) (by decide) rfl) hR.ob, X8_hand_17, iOb_some, iClr_i, iClr_r, iClr_n, iClr_u, iClr_l, rf_s, rf_n, iB_0, iSum_nil]
    exact c8_end hR (by decide)
  · rw [f]
    dsimp only
    obtain ⟨a, K, B, D, e1, e2, e3, e4⟩ := c8_tree hR hj
    have h60 := (hW.1.2.2.1 j hj).1.le
    have eKK : ∀ j' < (W.1.2.1 j).1, K j' = (W.1.2.1 j).2.1 j' := fun j' hj' => (e3.2 j' hj').1
    have ew := ev_whereOf e2 ky
    rw [← tWhere_congr eKK]
    cases hw : tWhere K (W.1.2.1 j).1 ky with
    | none =>
      rw [hw] at ew
      simp only [X8_hand_0, X8_hand_1, X8_hand_2 e1 hR.ob, X8_hand_5, X8_hand_5n, X8_hand_7, X8_hand_7n, X8_hand_9, X8_hand_9n, X8_hand_12, X8_hand_13, X8_hand_17, X8_hand_18, X8_hand_18n, X8_hand_20, X8_hand_21 ew e2.o, X8_hand_24, X8_hand_26, X8_hand_28, X8_hand_29, X8_hand_32, X8_hand_33, X8_hand_35 (ev8_refuse hR (v := -5) (r := 5) (by decide) (by decide) rfl) hR.ob, X8_hand_38, iOb_some, iClr_i, iClr_r, iClr_n, iClr_u, iClr_l, rf_s, rf_n, iB_0, iSum_nil, oI_n, if_true]
      exact c8_end hR (by decide)
    | some i =>
      rw [hw] at ew
      have hi := (tWhere_lt hw).1
      have el := c8_isLabel (h := h) lb
      dsimp only
      by_cases c : 97 ≤ lb ∧ lb ≤ 122
      · rw [if_pos c]
        rw [decide_eq_true c] at el
        obtain ⟨c1, r1⟩ := c8_clear hR
        have lt2 := ev_labelAt (h := drH h (o + 4) 0 0 E C) (t := a) (n := (W.1.2.1 j).1) (K := K) (B := B) (D := D) ⟨(agt_dr (sN := sN) a (e4 0 (by decide))).2.trans e2.1, (agt_dr (sN := sN) (a + 1) (e4 1 (by decide))).2.trans e2.2.1, (agt_dr (sN := sN) (a + 2) (e4 2 (by decide))).2.trans e2.2.2.1, (agt_dr (sN := sN) (a + 3) (e4 3 (by decide))).2.trans e2.2.2.2.1, e2.2.2.2.2⟩ hi
        have to2 : iObj (drH h (o + 4) 0 0 E C) a 7 = true := iObj_of ((agt_dr (sN := sN) a (e4 0 (by decide))).2.trans e2.1)
        have en := ev_name (h := drH h (o + 4) 0 0 E C) ky (B i) lb
        obtain ⟨r2, x2, o2, ag2, f2⟩ := r1.edit (e7 0 ky (B i) lb 0 0 0)
        obtain ⟨c3, r3, d3⟩ := c8_add r2 (dEd_0 (G := fun _ => e7 0 ky (B i) lb 0 0 0)) (by omega) x2 o2
        obtain ⟨h4, c4, r4, f4, b1, b2, b3, b4⟩ := ev8_keep (C2 := fun _ => 0) r3 hW (by omega) (fun _ => d3.one) (fun q (hq : q < 2 * 0) => by omega) 0 (-1)
        simp only [X8_hand_0, X8_hand_1, X8_hand_2 e1 hR.ob, X8_hand_5, X8_hand_5n, X8_hand_7, X8_hand_7n, X8_hand_9, X8_hand_9n, X8_hand_12, X8_hand_13, X8_hand_17, X8_hand_18, X8_hand_18n, X8_hand_20, X8_hand_21 ew e2.o, X8_hand_24, X8_hand_26, X8_hand_28, X8_hand_29, X8_hand_32, X8_hand_33, X8_hand_38, X8_hand_39, X8_hand_40 el, X8_hand_43, X8_hand_46, X8_hand_47, X8_hand_52, X8_hand_53, X8_hand_54, X8_hand_57 c1 hR.2.1.o, X8_hand_60, X8_hand_61, X8_hand_64, X8_hand_65, X8_hand_65n, X8_hand_67, X8_hand_69 lt2 to2, X8_hand_72, X8_hand_73 en, X8_hand_76 c3 r2.2.1.o (cat_r h.2.1), X8_hand_79, X8_hand_80, X8_hand_81, X8_hand_82 c4 r3.ob, X8_hand_85, iOb_some, iClr_i, iClr_r, iClr_n, iClr_u, iClr_l, rf_s, rf_n, iB_0, iSum_nil, oI_s, if_neg (oI_ne (show i < 2 ^ 31 by omega)), Bool.true_eq_false, if_false, hR.g3, r1.g3]
        rw [← (e3.2 i hi).2.1]
        refine k8_end r4 ((frZ.dr.trans f2).trans (frZ.dr.trans f4)) ?_ ?_ ?_ ?_
        · exact Nat.le_trans (Nat.le_succ _) b1
        · exact Nat.le_trans b2 (by show h.2.1 + 1 + 3 ≤ _; omega)
        · exact Nat.le_trans (Nat.le_add_right _ 7) b3
        · exact Nat.le_trans b4 (by show h.2.2 + 7 + 400 ≤ _; omega)
      · rw [if_neg c]
        rw [decide_eq_false c] at el
        simp only [X8_hand_0, X8_hand_1, X8_hand_2 e1 hR.ob, X8_hand_5, X8_hand_5n, X8_hand_7, X8_hand_7n, X8_hand_9, X8_hand_9n, X8_hand_12, X8_hand_13, X8_hand_17, X8_hand_18, X8_hand_18n, X8_hand_20, X8_hand_21 ew e2.o, X8_hand_24, X8_hand_26, X8_hand_28, X8_hand_29, X8_hand_32, X8_hand_33, X8_hand_38, X8_hand_39, X8_hand_40 el, X8_hand_43, X8_hand_46, X8_hand_47, X8_hand_49 (ev8_refuse hR (v := -6) (r := 6) (by decide) (by decide) rfl) hR.ob, X8_hand_52, iOb_some, iClr_i, iClr_r, iClr_n, iClr_u, iClr_l, rf_s, rf_n, iB_0, iSum_nil, oI_s, if_neg (oI_ne (show i < 2 ^ 31 by omega)), if_true]
        exact c8_end hR (by decide)
end HAND

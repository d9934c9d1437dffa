/-! invert, behind: the class -/
section INVERT
variable {h h' h2 : iHp} {o sN n k i j l x m a c p q r n0 : Nat} {im : Option Nat} {R E E' EP T P : Nat → Option Nat} {sh rf C C2 : Nat → Int32} {W : wW} {G G0 : Nat → Nat → Int32} {so sr : Int32} {e : Nat → Int32} {Z Y : pP}
/-- grown by so many cells and slots, what counts as it was -/
def gr (h h' : iHp) (o sN a b : Nat) : Prop := frZ h h' o ∧ agt h h' o sN sN ∧ h.2.1 ≤ h'.2.1 ∧ h'.2.1 ≤ h.2.1 + a ∧ h.2.2 ≤ h'.2.2 ∧ h'.2.2 ≤ h.2.2 + b
theorem gr.refl {a b : Nat} : gr h h o sN a b := ⟨frZ.refl, fun q hq => ⟨hq, rfl⟩, Nat.le_refl _, Nat.le_add_right _ _, Nat.le_refl _, Nat.le_add_right _ _⟩
theorem gr.trans {a b c d : Nat} (g1 : gr h h' o sN a b) (g2 : gr h' h2 o sN c d) : gr h h2 o sN (a + c) (b + d) := by
  obtain ⟨x1, x2, x3, x4, x5, x6⟩ := g1
  obtain ⟨y1, y2, y3, y4, y5, y6⟩ := g2
  exact ⟨x1.trans y1, x2.trans y2, by omega, by omega, by omega, by omega⟩
theorem gr.mono {a b c d : Nat} (g1 : gr h h' o sN a b) (h1 : a ≤ c) (h2 : b ≤ d) : gr h h' o sN c d := by
  obtain ⟨x1, x2, x3, x4, x5, x6⟩ := g1
  exact ⟨x1, x2, x3, by omega, x5, by omega⟩
theorem gr_dr : gr h (drH h (o + 4) n k E C) o sN 0 0 := ⟨frZ.dr, agt_dr, Nat.le_refl _, Nat.le_refl _, Nat.le_refl _, Nat.le_refl _⟩
theorem gr_ed (hR : cRe h o sN im R sh rf n k E C T P W) : gr h (eNew h e) o sN 1 7 := ⟨frZ.new hR.lo, agt_new, Nat.le_succ _, Nat.le_refl _, Nat.le_add_right _ _, Nat.le_refl _⟩
theorem agt.pt (ha : agt h h' o sN sN) (hP : bPt h o sN p Z) : bPt h' o sN p Z := ha.agr.pt hP
/-- the patch-making calls end so -/
theorem k8_fin {a b : Nat} {v : Int32 × wW} (g : gr h h' o sN a b) (h1 : cRep h2 o v.2) (f : frZ h' h2 o) (b1 : h'.2.1 ≤ h2.2.1) (b2 : h2.2.1 ≤ h'.2.1 + 3) (b3 : h'.2.2 ≤ h2.2.2) (b4 : h2.2.2 ≤ h'.2.2 + 400) (ha : a ≤ 997) (hb : b ≤ 13600) : c8P h o v (some (.int v.1)) h2 := by
  obtain ⟨x1, x2, x3, x4, x5, x6⟩ := g
  exact ⟨rfl, h1, x1.trans f, by omega, by omega, by omega, by omega⟩
def aInvert (W : wW) (p : Int32) : Int32 × wW := match iIx p W.1.2.2.1 with
  | none => (-1, wRef W 1)
  | some j => aNew W (W.1.2.2.2.1 j).1 0 2 p (fun i => eTurn ((W.1.2.2.2.1 j).2.2.2.2.2.1 ((W.1.2.2.2.1 j).1 - 1 - i))) (fun _ => 0)
theorem invert_loop {h0 : iHp} (hZ : Z.1 ≤ 120) (y : Int32) {Q : Option Value → iHp → Prop} (hQ : ∀ h1 E1 z, cRe h1 o sN im R sh rf Z.1 0 E1 C T P W → dEd h1 o sN Z.1 E1 (fun i => eTurn (Z.2.2.2.2.2.1 (Z.1 - 1 - i))) → gr h0 h1 o sN Z.1 (7 * Z.1) → iWp 4 mX8_invert 64 [.ref o, .int y, .ref a, .int (dI 0), z] [] h1 Q) : ∀ r, r ≤ Z.1 → ∀ h E z, cRe h o sN im R sh rf (Z.1 - r) 0 E C T P W → dEd h o sN (Z.1 - r) E (fun i => eTurn (Z.2.2.2.2.2.1 (Z.1 - 1 - i))) → bPt h o sN a Z → gr h0 h o sN (Z.1 - r) (7 * (Z.1 - r)) → iWp 4 mX8_invert 30 [.ref o, .int y, .ref a, .int (dI r), z] [] h Q := by
  intro r
  induction r with
  | zero =>
    intro hr h E z hR hE hB hg
    rw [X8_invert_30]
    simp only [X8_invert_31, iOb_some, iClr_i, iClr_r, iClr_n, iClr_u, iClr_l, rf_s, rf_n, iB_0, iSum_nil, dI_0, if_pos (show (-1 : Int32) < 0 by decide)]
    exact hQ h E z hR hE hg
  | succ r ih =>
    intro hr h E z hR hE hB hg
    obtain ⟨E', C', hP, hG, hC⟩ := hB.pt
    obtain ⟨x, x1, x2⟩ := hG r (by omega)
    have et := ev_turned x2
    obtain ⟨r2, y2, o2, ag2, f2⟩ := hR.edit (eTurn (Z.2.2.2.2.2.1 r))
    obtain ⟨c3, r3, d3⟩ := c8_add r2 (hE.agt ag2) (by omega) y2 o2
    rw [X8_invert_30]
    simp only [X8_invert_31, X8_invert_34, X8_invert_34n, X8_invert_35, X8_invert_36 (ev_pedit hP (show r < Z.1 by omega) x1) hP.o, X8_invert_39, X8_invert_39n, X8_invert_41, X8_invert_41n, X8_invert_43, X8_invert_43n, X8_invert_46, X8_invert_47, X8_invert_50, X8_invert_50n, X8_invert_52 et x2.o, X8_invert_55 c3 r2.2.1.o (cat_r h.2.1), X8_invert_58, X8_invert_61, iOb_some, iClr_i, iClr_r, iClr_n, iClr_u, iClr_l, rf_s, rf_n, iB_0, iSum_nil, dI_c, if_neg (nI_pos (show r < 2 ^ 31 by omega)), hR.g3, r2.g3, dI_m]
    have e1 : Z.1 - (r + 1) + 1 = Z.1 - r := by omega
    rw [e1] at r3 d3 ⊢
    refine ih (by omega) _ _ _ r3 (d3.congr (fun j hj => ?_)) ((ag2.trans agt_dr).pt hB) (((hg.trans (gr_ed hR)).trans gr_dr).mono (by omega) (by omega))
    unfold va_up
    by_cases cj : j = Z.1 - (r + 1)
    · rw [if_pos cj, show Z.1 - 1 - j = r by omega]
    · rw [if_neg cj]
theorem c8_invert (hR : cRep h o W) (hW : wOk W) (p : Int32) : ∃ r h1, iEv mX8_invert [.ref o, .int p] h r h1 ∧ c8P h o (aInvert W p) r h1 := by
  obtain ⟨sN, im, R, sh, rf, n, k, E, C, T, P, hR⟩ := hR
  refine I8_invert ?_
  unfold aInvert
  have hn : W.1.2.2.1 < 2 ^ 31 := by have := hW.1.2.1; omega
  rcases iIx_cases p hn with ⟨e, z⟩ | ⟨j, hj, rfl, e⟩
  · rw [e]
    simp only [X8_invert_0, X8_invert_1, X8_invert_2 (c8_patchN hR z) hR.ob, X8_invert_5, X8_invert_5n, X8_invert_6, X8_invert_6n, X8_invert_7, X8_invert_7n, X8_invert_10, X8_invert_11, X8_invert_12 (ev8_refuse hR (v := -1) (r := 1) (by decide) (by decide) rfl) hR.ob, X8_invert_15, iOb_some, iClr_i, iClr_r, iClr_n, iClr_u, iClr_l, rf_s, rf_n, iB_0, iSum_nil]
    exact c8_end hR (by decide)
  · rw [e]
    obtain ⟨a, e1, hB⟩ := c8_patch hR hj
    obtain ⟨c1, r1⟩ := c8_clear hR
    have hB1 := (agt_dr (n' := 0) (k' := 0) (E' := E) (C' := C)).pt hB
    obtain ⟨E', C', hP, hG, hC⟩ := hB1.pt
    have h12 := hP.2.2.2.1
    dsimp only
    generalize hZ : W.1.2.2.2.1 j = Z at hB hB1 hP hG hC h12 ⊢
    simp only [X8_invert_0, X8_invert_1, X8_invert_2 e1 hR.ob, X8_invert_5, X8_invert_5n, X8_invert_6, X8_invert_6n, X8_invert_7, X8_invert_7n, X8_invert_10, X8_invert_11, X8_invert_15, X8_invert_16, X8_invert_17, X8_invert_20 c1 hR.2.1.o, X8_invert_23, X8_invert_23n, X8_invert_24 (ev_psize hP) hP.o, X8_invert_27, X8_invert_28, X8_invert_29, iOb_some, iClr_i, iClr_r, iClr_n, iClr_u, iClr_l, rf_s, rf_n, iB_0, iSum_nil, hR.g3, dI_s]
    refine invert_loop (h0 := h) (Z := Z) (sN := sN) (im := im) (R := R) (sh := sh) (rf := rf) (C := C) (T := T) (P := P) (W := W) h12 (nI j) (fun h1 E1 z r2 d2 g2 => ?_) Z.1 (Nat.le_refl _) _ E _ ?_ ?_ hB1 (gr_dr.mono (by omega) (by omega))
    · obtain ⟨h4, c4, r4, f4, b1, b2, b3, b4⟩ := ev8_keep (C2 := fun _ => 0) r2 hW (by omega) (fun _ => d2) (fun q (hq : q < 2 * 0) => by omega) 2 (nI j)
      simp only [X8_invert_64, X8_invert_65, X8_invert_66, X8_invert_67 c4 r2.ob, X8_invert_70, iOb_some, iClr_i, iClr_r, iClr_n, iClr_u, iClr_l, rf_s, rf_n, iB_0, iSum_nil]
      exact k8_fin g2 r4 f4 b1 b2 b3 b4 (by omega) (by omega)
    · rw [Nat.sub_self]
      exact r1
    · rw [Nat.sub_self]
      exact dEd_0
-- behind
theorem aE_at : ∀ i q, n0 + i ≤ 120 → aE E n0 EP i q = if n0 ≤ q ∧ q < n0 + i then EP (q - n0) else E q := by
  intro i
  induction i with
  | zero => intro q _; rw [if_neg (by omega)]; rfl
  | succ i ih =>
    intro q h
    show (if n0 + i < 120 then va_up (aE E n0 EP i) (n0 + i) (EP i) else aE E n0 EP i) q = _
    rw [if_pos (by omega)]
    unfold va_up
    by_cases c : q = n0 + i
    · rw [if_pos c, if_pos (by omega), c, Nat.add_sub_cancel_left]
    · rw [if_neg c, ih q (by omega)]
      by_cases c2 : n0 ≤ q ∧ q < n0 + i
      · rw [if_pos c2, if_pos (by omega)]
      · rw [if_neg c2, if_neg (by omega)]
/-- one row of edits behind another -/
def gApp (G0 : Nat → Nat → Int32) (n0 : Nat) (G : Nat → Nat → Int32) : Nat → Nat → Int32 := fun i => if i < n0 then G0 i else G (i - n0)
theorem c8_addAll (hR : cRe h o sN im R sh rf n k E C T P W) (hB : bPt h o sN p Z) (hn : n ≤ 1000) (hE : n + Z.1 ≤ 120 → dEd h o sN n E G) : ∃ E1, iEv mX1_addAll [.ref (o + 4), .ref p] h none (drH h (o + 4) (n + Z.1) k E1 C) ∧ cRe (drH h (o + 4) (n + Z.1) k E1 C) o sN im R sh rf (n + Z.1) k E1 C T P W ∧ (n + Z.1 ≤ 120 → dEd (drH h (o + 4) (n + Z.1) k E1 C) o sN (n + Z.1) E1 (gApp G n Z.2.2.2.2.2.1)) := by
  obtain ⟨⟨EP, C', hP, hG, hC⟩, oo⟩ := hB
  have hk := hR.2.1.2.2.2.2
  have h12 := hP.2.2.2.1
  have o0 := (oo 0 (by decide)).1
  have ea := ev_daddAll (b := h) (d := o + 4) (n0 := n) (c := k) (E := E) (C := C) hP (Or.inr (by omega)) (fun j hj => by
    obtain ⟨x, x1, x2, x3⟩ := hG j hj
    exact ⟨x, x1, x2, Or.inr (by have := x3.1; omega)⟩) hn hk
  rw [hR.dreq] at ea
  refine ⟨_, ea, hR.setD (by omega) hk, fun hle j hj => ?_⟩
  rw [aE_at _ _ hle]
  unfold gApp
  by_cases c : j < n
  · rw [if_neg (by omega), if_pos c]
    exact ((hE hle).agt agt_dr) j c
  · rw [if_pos ⟨by omega, hj⟩, if_neg c]
    obtain ⟨x, x1, x2, x3⟩ := hG (j - n) (by omega)
    exact ⟨x, x1, (agt_dr (sN := sN) x x3).2.trans x2, (agt_dr (sN := sN) x x3).1⟩
def aBehind (W : wW) (p q : Int32) : Int32 × wW := match iIx p W.1.2.2.1, iIx q W.1.2.2.1 with
  | some i, some j => aNew W ((W.1.2.2.2.1 i).1 + (W.1.2.2.2.1 j).1) 0 0 (-1) (gApp (W.1.2.2.2.1 i).2.2.2.2.2.1 (W.1.2.2.2.1 i).1 (W.1.2.2.2.1 j).2.2.2.2.2.1) (fun _ => 0)
  | _, _ => (-1, wRef W 1)
theorem c8_behind (hR : cRep h o W) (hW : wOk W) (p q : Int32) : ∃ r h1, iEv mX8_behind [.ref o, .int p, .int q] h r h1 ∧ c8P h o (aBehind W p q) r h1 := by
  obtain ⟨sN, im, R, sh, rf, n, k, E, C, T, P, hR⟩ := hR
  refine I8_behind ?_
  unfold aBehind
  have hn : W.1.2.2.1 < 2 ^ 31 := by have := hW.1.2.1; omega
  have r1 := ev8_refuse hR (v := -1) (r := 1) (by decide) (by decide) rfl
  rcases iIx_cases p hn with ⟨e, z⟩ | ⟨i, hi, rfl, e⟩
  · rw [e]
    rcases iIx_cases q hn with ⟨f, y⟩ | ⟨j, hj, rfl, f⟩
    · rw [f]
      simp only [X8_behind_0, X8_behind_1, X8_behind_2 (c8_patchN hR z) hR.ob, X8_behind_5, X8_behind_5n, X8_behind_6, X8_behind_7, X8_behind_8 (c8_patchN hR y) hR.ob, X8_behind_11, X8_behind_11n, X8_behind_13, X8_behind_13n, X8_behind_14, X8_behind_14n, X8_behind_17, X8_behind_17n, X8_behind_19, X8_behind_19n, X8_behind_22, X8_behind_23, X8_behind_24 r1 hR.ob, X8_behind_27, iOb_some, iClr_i, iClr_r, iClr_n, iClr_u, iClr_l, rf_s, rf_n, iB_0, iSum_nil]
      exact c8_end hR (by decide)
    · rw [f]
      obtain ⟨a, e1, hB⟩ := c8_patch hR hj
      simp only [X8_behind_0, X8_behind_1, X8_behind_2 (c8_patchN hR z) hR.ob, X8_behind_5, X8_behind_5n, X8_behind_6, X8_behind_7, X8_behind_8 e1 hR.ob, X8_behind_11, X8_behind_11n, X8_behind_13, X8_behind_13n, X8_behind_14, X8_behind_14n, X8_behind_17, X8_behind_17n, X8_behind_19, X8_behind_19n, X8_behind_22, X8_behind_23, X8_behind_24 r1 hR.ob, X8_behind_27, iOb_some, iClr_i, iClr_r, iClr_n, iClr_u, iClr_l, rf_s, rf_n, iB_0, iSum_nil]
      exact c8_end hR (by decide)
  · rw [e]
    obtain ⟨a, e1, hB⟩ := c8_patch hR hi
    rcases iIx_cases q hn with ⟨f, y⟩ | ⟨j, hj, rfl, f⟩
    · rw [f]
      simp only [X8_behind_0, X8_behind_1, X8_behind_2 e1 hR.ob, X8_behind_5, X8_behind_5n, X8_behind_6, X8_behind_7, X8_behind_8 (c8_patchN hR y) hR.ob, X8_behind_11, X8_behind_11n, X8_behind_13, X8_behind_13n, X8_behind_14, X8_behind_14n, X8_behind_17, X8_behind_17n, X8_behind_19, X8_behind_19n, X8_behind_22, X8_behind_23, X8_behind_24 r1 hR.ob, X8_behind_27, iOb_some, iClr_i, iClr_r, iClr_n, iClr_u, iClr_l, rf_s, rf_n, iB_0, iSum_nil]
      exact c8_end hR (by decide)
    · rw [f]
      obtain ⟨a', f1, hB'⟩ := c8_patch hR hj
      have h12 := (hW.1.2.2.2 i hi).1
      have h12' := (hW.1.2.2.2 j hj).1
      obtain ⟨c2, r2⟩ := c8_clear hR
      obtain ⟨E3, c3, r3, d3⟩ := c8_addAll (G := fun _ _ => 0) r2 ((agt_dr (n' := 0) (k' := 0) (E' := E) (C' := C)).pt hB) (by omega) (fun _ => dEd_0)
      rw [Nat.zero_add] at c3 r3 d3
      have hB3 := ((agt_dr (h := h) (n' := 0) (k' := 0) (E' := E) (C' := C)).trans (agt_dr (n' := (W.1.2.2.2.1 i).1) (k' := 0) (E' := E3) (C' := C))).pt hB'
      obtain ⟨E4, c4, r4, d4⟩ := c8_addAll r3 hB3 (by omega) (fun _ => d3 h12)
      obtain ⟨h5, c5, r5, f5, b1, b2, b3, b4⟩ := ev8_keep (G := gApp (W.1.2.2.2.1 i).2.2.2.2.2.1 (W.1.2.2.2.1 i).1 (W.1.2.2.2.1 j).2.2.2.2.2.1) (C2 := fun _ => 0) r4 hW (by omega) (fun z => (d4 z).congr (fun q hq => by
        unfold gApp
        split
        · rw [if_neg (by omega), Nat.sub_zero]
        · rfl)) (fun q (hq : q < 2 * 0) => by omega) 0 (-1)
      simp only [X8_behind_0, X8_behind_1, X8_behind_2 e1 hR.ob, X8_behind_5, X8_behind_5n, X8_behind_6, X8_behind_7, X8_behind_8 f1 hR.ob, X8_behind_11, X8_behind_11n, X8_behind_13, X8_behind_13n, X8_behind_14, X8_behind_14n, X8_behind_17, X8_behind_17n, X8_behind_19, X8_behind_19n, X8_behind_22, X8_behind_23, X8_behind_27, X8_behind_28, X8_behind_29, X8_behind_32 c2 hR.2.1.o, X8_behind_35, X8_behind_36, X8_behind_39, X8_behind_39n, X8_behind_40 c3 r2.2.1.o (cat_r a), X8_behind_43, X8_behind_44, X8_behind_47, X8_behind_47n, X8_behind_49 c4 r3.2.1.o (cat_r a'), X8_behind_52, X8_behind_53, X8_behind_54, X8_behind_55 c5 r4.ob, X8_behind_58, iOb_some, iClr_i, iClr_r, iClr_n, iClr_u, iClr_l, rf_s, rf_n, iB_0, iSum_nil, hR.g3, r2.g3, r3.g3]
      exact k8_fin ((gr_dr (sN := sN).trans gr_dr).trans gr_dr) r5 f5 b1 b2 b3 b4 (by omega) (by omega)
end INVERT

/-! squeeze: what comes of it; the class -/
abbrev sqX : Type := Nat × (Nat → Nat → Int32)
def sqC (f : Nat → Int32) (X : sqX) : sqX := match X.1 with
  | 0 => (1, va_up X.2 0 f)
  | m + 1 => if eNames (X.2 m) f = true then (if X.2 m 2 = f 3 then (m, X.2) else (m + 1, va_up X.2 m (e7 0 (X.2 m 1) (X.2 m 2) (f 3) 0 0 0))) else if eLike f (eTurn (X.2 m)) = true then (m, X.2) else (m + 2, va_up X.2 (m + 1) f)
def sqF (G : Nat → Nat → Int32) : Nat → Nat → sqX → sqX
  | 0, _, X => X
  | k + 1, i, X => sqF G k (i + 1) (sqC (G i) X)
abbrev sqZ (Z : pP) : sqX := sqF Z.2.2.2.2.2.1 Z.1 0 (0, fun _ _ => 0)
def aSqueeze (W : wW) (p : Int32) : Int32 × wW := match iIx p W.1.2.2.1 with
  | none => (-1, wRef W 1)
  | some j => aNew W (sqZ (W.1.2.2.2.1 j)).1 0 2 p (sqZ (W.1.2.2.2.1 j)).2 (fun _ => 0)
section SQZ8
variable {h h1 b : iHp} {o sN n k i j l x m a c p q r t u : Nat} {im : Option Nat} {R E T P : Nat → Option Nat} {sh rf C : Nat → Int32} {W : wW} {G : Nat → Nat → Int32} {e f : Nat → Int32} {Z : pP} {X : sqX}
theorem sqC_le : (sqC f X).1 ≤ X.1 + 1 := by
  obtain ⟨m, H⟩ := X
  cases m with
  | zero => exact Nat.le_refl _
  | succ m =>
    unfold sqC
    dsimp only
    split
    · split
      · show m ≤ _
        omega
      · show m + 1 ≤ _
        omega
    · split
      · show m ≤ _
        omega
      · exact Nat.le_refl _
theorem sqF_le : ∀ k i X, (sqF G k i X).1 ≤ X.1 + k := by
  intro k
  induction k with
  | zero => intro i X; exact Nat.le_refl _
  | succ k ih =>
    intro i X
    have := ih (i + 1) (sqC (G i) X)
    have := sqC_le (f := G i) (X := X)
    show (sqF G k (i + 1) (sqC (G i) X)).1 ≤ _
    omega
theorem c8_sqstep (hR : cRe h o sN im R sh rf X.1 k E C T P W) (hE : dEd h o sN X.1 E X.2) (hn : X.1 < 120) (hF : edAt h q f) (oq : oc h o sN q) : ∃ h2 E2, iEv mX1_addSqueezed [.ref (o + 4), .ref q] h none h2 ∧ cRe h2 o sN im R sh rf (sqC f X).1 k E2 C T P W ∧ dEd h2 o sN (sqC f X).1 E2 (sqC f X).2 ∧ gr h h2 o sN 1 7 := by
  obtain ⟨m, H⟩ := X
  dsimp only at hR hE hn
  have hd := hR.lo
  have hk := hR.2.1.2.2.2.2
  have hdq := hR.dreq
  have q0 := oq.1
  have q1 := oq.2.1
  cases m with
  | zero =>
    have := ev_dsq0 (b := h) (d := o + 4) (c := k) (E := E) (C := C) (by omega) hk hF (Or.inr (by omega))
    rw [hdq] at this
    refine ⟨_, _, this, hR.setD (by omega) hk, ?_, gr_dr.mono (by omega) (by omega)⟩
    exact (c8_add hR hE (by omega) hF oq).2.2
  | succ m =>
    obtain ⟨x, x1, x2, x3⟩ := hE m (Nat.lt_succ_self m)
    have hx0 := x3.1
    unfold sqC
    dsimp only
    have dR : ∀ n' E' {h' : iHp}, cRe h' o sN im R sh rf (m + 1) k E C T P W → n' ≤ 1000000 → cRe (drH h' (o + 4) n' k E' C) o sN im R sh rf n' k E' C T P W := fun n' E' h' r hle => r.setD hle hk
    by_cases c1 : eNames (H m) f = true
    · rw [if_pos c1]
      by_cases c2 : H m 2 = f 3
      · rw [if_pos c2]
        have := ev_dsqJ0 (b := h) (d := o + 4) (n := m) (C := C) (by omega) hk hF (Or.inr (by omega)) x2 (Or.inr (by omega)) x1 c1 c2
        rw [hdq] at this
        exact ⟨_, _, this, dR _ _ hR (by omega), fun j hj => ((hE.agt agt_dr) j (by have hj : j < m := hj; omega)), gr_dr.mono (by omega) (by omega)⟩
      · rw [if_neg c2]
        have := ev_dsqJ (b := h) (d := o + 4) (n := m) (C := C) (by omega) (by omega) hk hF (Or.inr (by omega)) x2 (Or.inr (by omega)) x1 c1 c2
        rw [hdq] at this
        obtain ⟨r2, y2, o2, ag2, f2⟩ := hR.edit (e7 0 (H m 1) (H m 2) (f 3) 0 0 0)
        refine ⟨_, _, this, dR _ _ r2 (by omega), fun j hj => ?_, ((gr_ed hR).trans gr_dr).mono (by omega) (by omega)⟩
        have hj : j < m + 1 := hj
        dsimp only [va_up]
        by_cases cj : j = m
        · rw [if_pos cj, if_pos cj]
          exact ⟨_, rfl, (agt_dr (sN := sN) _ o2).2.trans y2, (agt_dr (sN := sN) _ o2).1⟩
        · rw [if_neg cj, if_neg cj]
          exact ((hE.agt ag2).agt agt_dr) j hj
    · rw [if_neg c1]
      have c1 := Bool.eq_false_iff.mpr c1
      obtain ⟨r2, y2, o2, ag2, f2⟩ := hR.edit (eTurn (H m))
      by_cases c2 : eLike f (eTurn (H m)) = true
      · rw [if_pos c2]
        have := ev_dsqU (b := h) (d := o + 4) (n := m) (C := C) (by omega) (by omega) hk hF (Or.inr (by omega)) (by omega) x2 (Or.inr (by omega)) x1 c1 c2
        rw [hdq] at this
        exact ⟨_, _, this, dR _ _ r2 (by omega), fun j hj => (((hE.agt ag2).agt agt_dr) j (by have hj : j < m := hj; omega)), ((gr_ed hR).trans gr_dr).mono (by omega) (by omega)⟩
      · rw [if_neg c2]
        have c2 := Bool.eq_false_iff.mpr c2
        have := ev_dsqA (b := h) (d := o + 4) (n := m) (C := C) (by omega) (by omega) hk hF (Or.inr (by omega)) (by omega) x2 (Or.inr (by omega)) x1 c1 c2
        rw [hdq] at this
        have hF2 : edAt (eNew h (eTurn (H m))) q f := (ag2 q oq).2.trans hF
        exact ⟨_, _, this, dR _ _ r2 (by omega), (c8_add r2 (hE.agt ag2) (by omega) hF2 (ag2 q oq).1).2.2, ((gr_ed hR).trans gr_dr).mono (by omega) (by omega)⟩
theorem squeeze_loop {h0 : iHp} (hB : bPt h0 o sN a Z) (hZ : Z.1 ≤ 120) {y : Int32} {Q : Option Value → iHp → Prop} : ∀ k i h E X, i + k = Z.1 → X.1 ≤ i → cRe h o sN im R sh rf X.1 0 E C T P W → dEd h o sN X.1 E X.2 → gr h0 h o sN i (7 * i) → (∀ h1 E1, cRe h1 o sN im R sh rf (sqF Z.2.2.2.2.2.1 k i X).1 0 E1 C T P W → dEd h1 o sN (sqF Z.2.2.2.2.2.1 k i X).1 E1 (sqF Z.2.2.2.2.2.1 k i X).2 → gr h0 h1 o sN Z.1 (7 * Z.1) → iWp 5 mX8_squeeze 51 [.ref o, .int y, .ref a, .int (nI Z.1)] [] h1 Q) → iWp 5 mX8_squeeze 25 [.ref o, .int y, .ref a, .int (nI i)] [] h Q := by
  intro k
  induction k with
  | zero =>
    intro i h E X hi hX hR hE hg hQ
    obtain rfl : i = Z.1 := by omega
    obtain ⟨E', C', hP, hG, hC⟩ := (hg.2.1.pt hB).pt
    rw [X8_squeeze_25]
    simp only [X8_squeeze_26, X8_squeeze_26n, X8_squeeze_27 (ev_psize hP) hP.o, X8_squeeze_30, iOb_some, iClr_i, iClr_r, iClr_n, iClr_u, iClr_l, rf_s, rf_n, iB_0, iSum_nil, if_pos (Int32.le_refl (nI Z.1))]
    exact hQ h E hR hE hg
  | succ k ih =>
    intro i h E X hi hX hR hE hg hQ
    obtain ⟨⟨E', C', hP, hG, hC⟩, oo⟩ := hg.2.1.pt hB
    obtain ⟨x, x1, x2, x3⟩ := hG i (by omega)
    obtain ⟨h2, E2, d1, d2, d3, d4⟩ := c8_sqstep hR hE (by omega) x2 x3
    rw [X8_squeeze_25]
    simp only [X8_squeeze_26, X8_squeeze_26n, X8_squeeze_27 (ev_psize hP) hP.o, X8_squeeze_30, X8_squeeze_33, X8_squeeze_34, X8_squeeze_37, X8_squeeze_37n, X8_squeeze_38, X8_squeeze_39 (ev_pedit hP (show i < Z.1 by omega) x1) hP.o, X8_squeeze_42 d1 hR.2.1.o (cat_r x), X8_squeeze_45, X8_squeeze_48, iOb_some, iClr_i, iClr_r, iClr_n, iClr_u, iClr_l, rf_s, rf_n, iB_0, iSum_nil, if_neg (nI_ge (show i < Z.1 by omega) (show Z.1 < 2 ^ 31 by omega)), hR.g3, nI_1]
    exact ih (i + 1) h2 E2 (sqC (Z.2.2.2.2.2.1 i) X) (by omega) (by have := sqC_le (f := Z.2.2.2.2.2.1 i) (X := X); omega) d2 d3 ((hg.trans d4).mono (by omega) (by omega)) hQ
theorem c8_squeeze (hR : cRep h o W) (hW : wOk W) (p : Int32) : ∃ r h1, iEv mX8_squeeze [.ref o, .int p] h r h1 ∧ c8P h o (aSqueeze W p) r h1 := by
  obtain ⟨sN, im, R, sh, rf, n, k, E, C, T, P, hR⟩ := hR
  refine I8_squeeze ?_
  unfold aSqueeze
  have hn : W.1.2.2.1 < 2 ^ 31 := by have := hW.1.2.1; omega
  rcases iIx_cases p hn with ⟨e, z⟩ | ⟨j, hj, rfl, e⟩
  · rw [e]
    simp only [X8_squeeze_0, X8_squeeze_1, X8_squeeze_2 (c8_patchN hR z) hR.ob, X8_squeeze_5, X8_squeeze_5n, X8_squeeze_6, X8_squeeze_6n, X8_squeeze_7, X8_squeeze_7n, X8_squeeze_10, X8_squeeze_11, X8_squeeze_12 (ev8_refuse hR (v := -1) (r := 1) (by decide) (by decide) rfl) hR.ob, X8_squeeze_15, iOb_some, iClr_i, iClr_r, iClr_n, iClr_u, iClr_l, rf_s, rf_n, iB_0, iSum_nil]
    exact c8_end hR (by decide)
  · rw [e]
    obtain ⟨a, e1, hB⟩ := c8_patch hR hj
    obtain ⟨c1, r1⟩ := c8_clear hR
    have hB1 := (agt_dr (n' := 0) (k' := 0) (E' := E) (C' := C)).pt hB
    have hZ := (hW.1.2.2.2 j hj).1
    dsimp only
    generalize W.1.2.2.2.1 j = Z at hB hB1 hZ ⊢
    have hle := sqF_le (G := Z.2.2.2.2.2.1) Z.1 0 (0, fun _ _ => 0)
    have hle : (sqZ Z).1 ≤ 0 + Z.1 := hle
    simp only [X8_squeeze_0, X8_squeeze_1, X8_squeeze_2 e1 hR.ob, X8_squeeze_5, X8_squeeze_5n, X8_squeeze_6, X8_squeeze_6n, X8_squeeze_7, X8_squeeze_7n, X8_squeeze_10, X8_squeeze_11, X8_squeeze_15, X8_squeeze_16, X8_squeeze_17, X8_squeeze_20 c1 hR.2.1.o, X8_squeeze_23, X8_squeeze_24, iOb_some, iClr_i, iClr_r, iClr_n, iClr_u, iClr_l, rf_s, rf_n, iB_0, iSum_nil, hR.g3]
    refine squeeze_loop (h0 := h) (Z := Z) (sN := sN) (im := im) (R := R) (sh := sh) (rf := rf) (C := C) (T := T) (P := P) (W := W) hB hZ (y := nI j) Z.1 0 _ E (0, fun _ _ => 0) (by omega) (Nat.le_refl _) r1 dEd_0 gr_dr (fun h1 E1 r2 d2 g2 => ?_)
    obtain ⟨h4, c4, r4, f4, b1, b2, b3, b4⟩ := ev8_keep (C2 := fun _ => 0) r2 hW (by omega) (fun _ => d2) (fun q (hq : q < 2 * 0) => by omega) 2 (nI j)
    simp only [X8_squeeze_51, X8_squeeze_52, X8_squeeze_53, X8_squeeze_54 c4 r2.ob, X8_squeeze_57, iOb_some, iClr_i, iClr_r, iClr_n, iClr_u, iClr_l, rf_s, rf_n, iB_0, iSum_nil]
    exact k8_fin g2 r4 f4 b1 b2 b3 b4 (by omega) (by omega)
end SQZ8

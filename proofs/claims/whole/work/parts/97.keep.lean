/-! a patch comes of the draft: the class -/
section KEEP
variable {h h' : iHp} {o sN n k i j l x m a c p q : Nat} {im : Option Nat} {R E T P : Nat → Option Nat} {sh rf C C2 : Nat → Int32} {W : wW} {G : Nat → Nat → Int32} {so sr : Int32}
def aNew (W : wW) (n c : Nat) (so sr : Int32) (G : Nat → Nat → Int32) (C : Nat → Int32) : Int32 × wW := if 120 < n ∨ 16 ≤ W.1.2.2.1 then (-7, wRef W 7) else (nI W.1.2.2.1, ((W.1.1, W.1.2.1, W.1.2.2.1 + 1, va_up W.1.2.2.2.1 W.1.2.2.1 (n, c, W.2.2.2.2.2 + 1, so, sr, G, C), W.1.2.2.2.2), W.2.1, W.2.2.1, W.2.2.2.1, W.2.2.2.2.1, W.2.2.2.2.2 + 1))
def k8P (h : iHp) (o : Nat) (v : Int32 × wW) (r : Option Value) (h1 : iHp) : Prop := r = some (.int v.1) ∧ cRep h1 o v.2 ∧ frZ h h1 o ∧ h.2.1 ≤ h1.2.1 ∧ h1.2.1 ≤ h.2.1 + 3 ∧ h.2.2 ≤ h1.2.2 ∧ h1.2.2 ≤ h.2.2 + 400
/-- the draft's edits, as the class has them -/
def dEd (h : iHp) (o sN n : Nat) (E : Nat → Option Nat) (G : Nat → Nat → Int32) : Prop := ∀ j, j < n → ∃ x, E j = some x ∧ edAt h x (G j) ∧ oc h o sN x
theorem iGet_no {ci cj a : Nat} (ha : a < h.2.1) : iGet (iNewO h ci) a cj k = iGet h a cj k := by
  unfold iGet
  rw [show (iNewO h ci).1 a = h.1 a from iNew_off (by omega)]
theorem ev8_keep (hR : cRe h o sN im R sh rf n k E C T P W) (hW : wOk W) (hn : n ≤ 1000000) (hE : n ≤ 120 → dEd h o sN n E G) (hC2 : ∀ j, j < 2 * k → C j = C2 j) (so sr : Int32) : ∃ h1, iEv mX8_keepDraft [.ref o, .int so, .int sr] h (some (.int (aNew W n k so sr G C2).1)) h1 ∧ cRep h1 o (aNew W n k so sr G C2).2 ∧ frZ h h1 o ∧ h.2.1 ≤ h1.2.1 ∧ h1.2.1 ≤ h.2.1 + 3 ∧ h.2.2 ≤ h1.2.2 ∧ h1.2.2 ≤ h.2.2 + 400 := by
  have z : iWp 3 mX8_keepDraft 0 [.ref o, .int so, .int sr] [] h (k8P h o (aNew W n k so sr G C2)) := by
    have hD := hR.2.1
    have hS := hR.2.2.1
    have p16 := hW.1.2.1
    have rfin : k8P h o (-7, wRef W 7) (some (.int (-7))) (cRf h o 7 rf) := ⟨rfl, ⟨sN, im, R, sh, _, n, k, E, C, T, P, c8_rf hR (by decide)⟩, frZ.set (Or.inl ⟨by omega, by omega⟩), Nat.le_refl _, Nat.le_add_right _ _, Nat.le_refl _, Nat.le_add_right _ _⟩
    unfold aNew
    by_cases c1 : 120 < n
    · rw [if_pos (Or.inl c1)]
      simp only [X8_keepDraft_0, X8_keepDraft_1, X8_keepDraft_4, X8_keepDraft_7, X8_keepDraft_9, X8_keepDraft_12, X8_keepDraft_13, X8_keepDraft_16, X8_keepDraft_19, X8_keepDraft_21, X8_keepDraft_24, X8_keepDraft_25, X8_keepDraft_27 (ev8_refuse hR (v := -7) (r := 7) (by decide) (by decide) rfl) hR.ob, X8_keepDraft_30, iOb_some, iClr_i, iClr_r, iClr_n, iClr_u, iClr_l, rf_s, rf_n, iB_0, iSum_nil, hR.g3, hD.g2, if_pos (show 120 < nI n from nI_lt (a := 120) (b := n) c1 (by omega))]
      exact rfin
    have e1 : ¬ 120 < nI n := nI_nlt (a := 120) (b := n) (by omega) (by decide)
    by_cases c2 : 16 ≤ W.1.2.2.1
    · rw [if_pos (Or.inr c2)]
      simp only [X8_keepDraft_0, X8_keepDraft_1, X8_keepDraft_4, X8_keepDraft_7, X8_keepDraft_9, X8_keepDraft_12, X8_keepDraft_13, X8_keepDraft_16, X8_keepDraft_19, X8_keepDraft_21, X8_keepDraft_24, X8_keepDraft_25, X8_keepDraft_27 (ev8_refuse hR (v := -7) (r := 7) (by decide) (by decide) rfl) hR.ob, X8_keepDraft_30, iOb_some, iClr_i, iClr_r, iClr_n, iClr_u, iClr_l, rf_s, rf_n, iB_0, iSum_nil, hR.g3, hD.g2, if_neg e1, hR.g4, hS.g3, if_neg (show ¬ nI W.1.2.2.1 < 16 from nI_nlt (a := W.1.2.2.1) (b := 16) c2 (by omega))]
      exact rfin
    rw [if_neg (fun z => z.elim c1 c2)]
    have hE := hE (by omega)
    have e2 : nI W.1.2.2.1 < 16 := nI_lt (a := W.1.2.2.1) (b := 16) (by omega) (by decide)
    have hlo := hR.lo
    have hsn := hR.sNh
    have hR1 := hR.setO (fa := W.2.2.2.2.1) (ev := W.2.2.2.2.2 + 1) hR.2.2.2.2.2.1
    have ag1 : agt h (iSet h o (cOb o sN im W.2.2.2.2.1 (W.2.2.2.2.2 + 1))) o sN sN := agt_set (by omega)
    have nx1 : (iSet h o (cOb o sN im W.2.2.2.2.1 (W.2.2.2.2.2 + 1))).2 = h.2 := rfl
    have fr1 : frZ h (iSet h o (cOb o sN im W.2.2.2.2.1 (W.2.2.2.2.2 + 1))) o := frZ.set (Or.inl ⟨Nat.le_refl _, by omega⟩)
    have hEv := hR.pEver (v := W.2.2.2.2.2 + 1)
    generalize iSet h o (cOb o sN im W.2.2.2.2.1 (W.2.2.2.2.2 + 1)) = h1 at hR1 ag1 nx1 fr1 hEv
    have n1 : h1.2.1 = h.2.1 := congrArg Prod.fst nx1
    have n2 : h1.2.2 = h.2.2 := congrArg Prod.snd nx1
    have hE1 : ∀ j, j < n → ∃ x, E j = some x ∧ x < h1.2.1 ∧ iObj h1 x 2 = true := by
      intro j hj
      obtain ⟨x, x1, x2, x3⟩ := hE j hj
      exact ⟨x, x1, by have := x3.2.1; omega, iObj_of ((ag1 x x3).2.trans x2)⟩
    have ep := ev_pinit (h := h1) (d := o + 4) (by omega) hR1.2.1 (by omega) hE1 so sr (W.2.2.2.2.2 + 1)
    have hc := hR.2.1.2.2.2.2
    have hR2 : cRe (ptH h1 n k (W.2.2.2.2.2 + 1) so sr E C) o sN im R sh rf n k E C T P _ := hR1.nH
    have nx2 : (ptH h1 n k (W.2.2.2.2.2 + 1) so sr E C).2 = (h1.2.1 + 3, h1.2.2 + 5 + n + 2 * k) := rfl
    have fr2 : frZ h1 (ptH h1 n k (W.2.2.2.2.2 + 1) so sr E C) o := frZ.nH (by omega)
    have cell : ∀ q, q < h1.2.1 → (ptH h1 n k (W.2.2.2.2.2 + 1) so sr E C).1 q = h1.1 q := fun q hq => nH_off hq
    have pcell : ptAt (ptH h1 n k (W.2.2.2.2.2 + 1) so sr E C) h1.2.1 n k (W.2.2.2.2.2 + 1) so sr (tkE E n) (va_cpy C (fun _ => 0) 0 0 (2 * k)) := ⟨nH_at (k := 0) (Nat.le_of_ble_eq_true rfl), nH_at (k := 1) (Nat.le_of_ble_eq_true rfl), nH_at (k := 2) (Nat.le_of_ble_eq_true rfl), by omega, hc⟩
    generalize ptH h1 n k (W.2.2.2.2.2 + 1) so sr E C = h2 at ep hR2 nx2 fr2 cell pcell
    have m1 : h2.2.1 = h1.2.1 + 3 := congrArg Prod.fst nx2
    have m2 : h2.2.2 = h1.2.2 + 5 + n + 2 * k := congrArg Prod.snd nx2
    have hS2 := hR2.2.2.1
    have st2 := hR2.steq
    dsimp only at hS2 st2
    have ea := ev_saddPatch (b := h2) (s := sN) (tc := W.1.1) (pc := W.1.2.2.1) (se := W.1.2.2.2.2) (T := T) (P := P) (x := h1.2.1) hW.1.1 (by omega) (by rw [st2]; exact pcell.o)
    rw [st2] at ea
    have hb : bSt h2 o sN T (va_up P W.1.2.2.1 (some h1.2.1)) (W.1.1, W.1.2.1, W.1.2.2.1 + 1, va_up W.1.2.2.2.1 W.1.2.2.1 (n, k, W.2.2.2.2.2 + 1, so, sr, G, C2), W.1.2.2.2.2) := by
      obtain ⟨b1, b2, b3, b4⟩ := hR2.2.2.2.2.1
      have oo : ∀ j, j < 3 → oc h2 o sN (h1.2.1 + j) := fun j hj => ⟨by omega, by omega, by have := hR.sNl; omega⟩
      refine ⟨b1, fun j hj => ?_, b3, fun j y hy => ?_⟩
      · show ∃ p, va_up P W.1.2.2.1 (some h1.2.1) j = some p ∧ bPt h2 o sN p (va_up W.1.2.2.2.1 W.1.2.2.1 _ j)
        unfold va_up
        by_cases cj : j = W.1.2.2.1
        · rw [if_pos cj, if_pos cj]
          refine ⟨_, rfl, ⟨_, _, pcell, fun q hq => ?_, fun q hq => ?_⟩, oo⟩
          · obtain ⟨x, x1, x2, x3⟩ := hE q hq
            have x4 := ag1 x x3
            refine ⟨x, (tkE_at hq).trans x1, (cell x x4.1.2.1).trans (x4.2.trans x2), ⟨x3.1, by have := x3.2.1; omega, x3.2.2⟩⟩
          · have hq : q < 2 * k := hq
            rw [pk_cpy_in (by omega) (by omega)]
            exact (congrArg C (by omega)).trans (hC2 q hq)
        · rw [if_neg cj, if_neg cj]
          exact b2 j (by have : j < W.1.2.2.1 + 1 := hj; show j < W.1.2.2.1; omega)
      · unfold va_up at hy
        split at hy
        · cases hy
          exact ⟨oo 0 (by decide), pcell.o⟩
        · exact b4 j y hy
    have hR3 := hR2.setS (w := (W.1.1, W.1.2.1, W.1.2.2.1 + 1, va_up W.1.2.2.2.1 W.1.2.2.1 (n, k, W.2.2.2.2.2 + 1, so, sr, G, C2), W.1.2.2.2.2)) hW.1.1 (show W.1.2.2.1 + 1 ≤ 16 by omega) hb
    have g3 : iGet (iNewO h1 3) o 8 3 = some (.ref (o + 4)) := (iGet_no (by omega)).trans hR1.g3
    have g7 : iGet (iNewO h1 3) o 8 7 = some (.int (W.2.2.2.2.2 + 1)) := (iGet_no (by omega)).trans hR1.g7
    simp only [X8_keepDraft_0, X8_keepDraft_1, X8_keepDraft_4, X8_keepDraft_7, X8_keepDraft_9, X8_keepDraft_12, X8_keepDraft_13, X8_keepDraft_16, X8_keepDraft_19, X8_keepDraft_21, X8_keepDraft_24, X8_keepDraft_25, X8_keepDraft_30, X8_keepDraft_31, X8_keepDraft_32, X8_keepDraft_33, X8_keepDraft_36, X8_keepDraft_37, X8_keepDraft_38, X8_keepDraft_41, X8_keepDraft_42, X8_keepDraft_45, X8_keepDraft_48, X8_keepDraft_49, X8_keepDraft_50, X8_keepDraft_53, X8_keepDraft_54, X8_keepDraft_55, X8_keepDraft_56, X8_keepDraft_59 ep (cat_r (o + 4)), X8_keepDraft_62 ea hS2.o (cat_r h1.2.1), X8_keepDraft_65, iOb_some, iClr_i, iClr_r, iClr_n, iClr_u, iClr_l, rf_s, rf_n, iB_0, iSum_nil, hR.g3, hD.g2, if_neg e1, hR.g4, hS.g3, if_pos e2, hR.g7, hEv, hR1.g4, g3, g7]
    refine ⟨rfl, ⟨sN, im, R, sh, rf, n, k, E, C, T, _, hR3⟩, (fr1.trans fr2).trans (frZ.st hR.sNl), ?_, ?_, ?_, ?_⟩
    · show h.2.1 ≤ h2.2.1
      omega
    · show h2.2.1 ≤ h.2.1 + 3
      omega
    · show h.2.2 ≤ h2.2.2
      omega
    · show h2.2.2 ≤ h.2.2 + 400
      omega
  obtain ⟨r, h1, e, rfl, g⟩ := I8_keepDraft z
  exact ⟨h1, e, g⟩
end KEEP

/-! the class's world, changed: what of it stays -/
section CWRITES
variable {h h' : iHp} {o sN n k i j n' k' : Nat} {im im' : Option Nat} {R R' E T P E' T' P' : Nat → Option Nat} {sh sh' rf C C' : Nat → Int32} {W : wW} {fa ev v : Int32} {cs : List iPC} {sl : Nat}
/-- nothing of the reference's, and nothing ahead, has changed -/
def frZ (h h1 : iHp) (o : Nat) : Prop := ∀ q, (q < o ∨ (o + 10 ≤ q ∧ q < o + 38)) → h1.1 q = h.1 q
theorem frZ.refl : frZ h h o := fun _ _ => rfl
theorem frZ.trans {h2 : iHp} (a : frZ h h' o) (b : frZ h' h2 o) : frZ h h2 o := fun q hq => (b q hq).trans (a q hq)
theorem frZ.set {a : Nat} {c : iPC} (ha : (o ≤ a ∧ a < o + 10) ∨ o + 38 ≤ a) : frZ h (iSet h a c) o := fun q hq => if_neg (by omega)
theorem frZ.nH (hl : o + 38 ≤ h.2.1) : frZ h (nH h cs sl) o := fun q hq => nH_off (by omega)
theorem frZ.st {s tc pc : Nat} {se : Int32} (ha : s = o + 7 ∨ o + 38 ≤ s) : frZ h (stH h s tc pc se T P) o := fun q hq => stH_off (by omega)
theorem frZ.dr : frZ h (drH h (o + 4) n k E C) o := fun q hq => drH_off (by omega)
theorem cRe.lo (hR : cRe h o sN im R sh rf n k E C T P W) : o + 38 ≤ h.2.1 := hR.2.2.2.1.1
theorem cRe.sNl (hR : cRe h o sN im R sh rf n k E C T P W) : sN = o + 7 ∨ o + 38 ≤ sN := by have := hR.2.2.2.1.2; omega
theorem cRe.sNh (hR : cRe h o sN im R sh rf n k E C T P W) : sN + 3 ≤ h.2.1 := by have := hR.2.2.2.1; unfold cLo at this; omega
/-- more cells -/
theorem cRe.grow (hR : cRe h o sN im R sh rf n k E C T P W) (h1 : ∀ q, q < h.2.1 → h'.1 q = h.1 q) (h2 : h.2.1 ≤ h'.2.1) : cRe h' o sN im R sh rf n k E C T P W := by
  have l1 := hR.lo
  have l2 := hR.sNh
  obtain ⟨⟨a1, a2, a3, a4⟩, hd, hs, hl, hb, hi, hw, hf⟩ := hR
  have ag : agt h h' o sN sN := fun q hq => ⟨⟨hq.1, by have := hq.2.1; omega, hq.2.2⟩, h1 q hq.2.1⟩
  refine ⟨⟨(h1 _ (by omega)).trans a1, (h1 _ (by omega)).trans a2, (h1 _ (by omega)).trans a3, (h1 _ (by omega)).trans a4⟩, ⟨(h1 _ (by omega)).trans hd.1, (h1 _ (by omega)).trans hd.2.1, (h1 _ (by omega)).trans hd.2.2.1, hd.2.2.2⟩, ⟨(h1 _ (by omega)).trans hs.1, (h1 _ (by omega)).trans hs.2.1, (h1 _ (by omega)).trans hs.2.2.1, hs.2.2.2⟩, ⟨by omega, by have := hl.2; omega⟩, ag.agr.st hb, ag.agr.img hi, ag.rw hw, hf⟩
theorem cRe.nH (hR : cRe h o sN im R sh rf n k E C T P W) : cRe (nH h cs sl) o sN im R sh rf n k E C T P W := hR.grow (fun q hq => nH_off hq) (Nat.le_add_right _ _)
/-- the draft -/
theorem cRe.setD (hR : cRe h o sN im R sh rf n k E C T P W) (hn : n' ≤ 1000000) (hk : k' ≤ 120) : cRe (drH h (o + 4) n' k' E' C') o sN im R sh rf n' k' E' C' T P W := by
  have l1 := hR.sNl
  obtain ⟨⟨a1, a2, a3, a4⟩, hd, hs, hl, hb, hi, hw, hf⟩ := hR
  have ag : agt h (drH h (o + 4) n' k' E' C') o sN sN := fun q hq => ⟨hq, drH_off (by have := hq.1; omega)⟩
  exact ⟨⟨(drH_off (by omega)).trans a1, (drH_off (by omega)).trans a2, (drH_off (by omega)).trans a3, (drH_off (by omega)).trans a4⟩, drH_dr hn hk, ⟨(drH_off (by omega)).trans hs.1, (drH_off (by omega)).trans hs.2.1, (drH_off (by omega)).trans hs.2.2.1, hs.2.2.2⟩, hl, ag.agr.st hb, ag.agr.img hi, ag.rw hw, hf⟩
theorem cRe.dreq (hR : cRe h o sN im R sh rf n k E C T P W) : drH h (o + 4) n k E C = h := hR.2.1.eq
/-- the State that holds now -/
theorem cRe.setS (hR : cRe h o sN im R sh rf n k E C T P W) {w : sT} (ht : w.1 ≤ 16) (hp : w.2.2.1 ≤ 16) (hb : bSt h o sN T' P' w) : cRe (stH h sN w.1 w.2.2.1 w.2.2.2.2 T' P') o sN im R sh rf n k E C T' P' (wNow W w) := by
  have l1 := hR.sNl
  obtain ⟨⟨a1, a2, a3, a4⟩, hd, hs, hl, hb0, hi, hw, hf⟩ := hR
  have ag : agt h (stH h sN w.1 w.2.2.1 w.2.2.2.2 T' P') o sN sN := fun q hq => ⟨hq, stH_off hq.2.2⟩
  exact ⟨⟨(stH_off (by omega)).trans a1, (stH_off (by omega)).trans a2, (stH_off (by omega)).trans a3, (stH_off (by omega)).trans a4⟩, ⟨(stH_off (by omega)).trans hd.1, (stH_off (by omega)).trans hd.2.1, (stH_off (by omega)).trans hd.2.2.1, hd.2.2.2⟩, stH_st ht hp, hl, ag.agr.st hb, ag.agr.img hi, ag.rw hw, hf⟩
theorem cRe.steq (hR : cRe h o sN im R sh rf n k E C T P W) : stH h sN W.1.1 W.1.2.2.1 W.1.2.2.2.2 T P = h := hR.2.2.1.eq
/-- the object itself: fault, how many ever made, the image -/
def cOb (o sN : Nat) (im : Option Nat) (fa ev : Int32) : iPC := .inr (8, [.ref (o + 1), .ref (o + 2), .ref (o + 3), .ref (o + 4), .ref sN, va_rf im, .int fa, .int ev])
theorem cRe.setO (hR : cRe h o sN im R sh rf n k E C T P W) {w : Option sT} (hb : bIm h o sN im' w) : cRe (iSet h o (cOb o sN im' fa ev)) o sN im' R sh rf n k E C T P (W.1, w, W.2.2.1, W.2.2.2.1, fa, ev) := by
  have l1 := hR.sNl
  obtain ⟨⟨a1, a2, a3, a4⟩, hd, hs, hl, hb0, hi, hw, hf⟩ := hR
  have ag : agt h (iSet h o (cOb o sN im' fa ev)) o sN sN := agt_set (by omega)
  exact ⟨⟨if_pos rfl, (if_neg (by omega)).trans a2, (if_neg (by omega)).trans a3, (if_neg (by omega)).trans a4⟩, hd.off (by omega), hs.off (by omega), hl, ag.agr.st hb0, ag.agr.img hb, ag.rw hw, hf⟩
theorem cRe.pFault (hR : cRe h o sN im R sh rf n k E C T P W) : iPut h o 8 6 (.int v) = some (iSet h o (cOb o sN im v W.2.2.2.2.2)) := by
  unfold iPut
  rw [hR.1.1]
  dsimp only
  rw [if_pos ⟨rfl, Nat.le_of_ble_eq_true rfl⟩]
  rfl
theorem cRe.pEver (hR : cRe h o sN im R sh rf n k E C T P W) : iPut h o 8 7 (.int v) = some (iSet h o (cOb o sN im W.2.2.2.2.1 v)) := by
  unfold iPut
  rw [hR.1.1]
  dsimp only
  rw [if_pos ⟨rfl, Nat.le_of_ble_eq_true rfl⟩]
  rfl
theorem cRe.pImg (hR : cRe h o sN im R sh rf n k E C T P W) {a : Nat} : iPut h o 8 5 (.ref a) = some (iSet h o (cOb o sN (some a) W.2.2.2.2.1 W.2.2.2.2.2)) := by
  unfold iPut
  rw [hR.1.1]
  dsimp only
  rw [if_pos ⟨rfl, Nat.le_of_ble_eq_true rfl⟩]
  rfl
theorem cRe.pNow (hR : cRe h o sN im R sh rf n k E C T P W) {a : Nat} : iPut h o 8 4 (.ref a) = some (iSet h o (cOb o a im W.2.2.2.2.1 W.2.2.2.2.2)) := by
  unfold iPut
  rw [hR.1.1]
  dsimp only
  rw [if_pos ⟨rfl, Nat.le_of_ble_eq_true rfl⟩]
  rfl
/-- the shelves -/
def cRow (R : Nat → Option Nat) : iPC := .inl (15, 8, .inr (.inr (.inr (.inr R))))
def cShw (sh : Nat → Int32) : iPC := .inl (0, 8, .inl sh)
theorem cRe.setSh (hR : cRe h o sN im R sh rf n k E C T P W) {u : Nat → hS} (hb : bRw h o sN R' sh' u) : cRe (iSet (iSet h (o + 1) (cRow R')) (o + 2) (cShw sh')) o sN im R' sh' rf n k E C T P (wShs W u) := by
  have l1 := hR.sNl
  obtain ⟨⟨a1, a2, a3, a4⟩, hd, hs, hl, hb0, hi, hw, hf⟩ := hR
  have ag : agt h (iSet (iSet h (o + 1) (cRow R')) (o + 2) (cShw sh')) o sN sN := fun q hq => ⟨hq, (if_neg (by have := hq.1; omega)).trans (if_neg (by have := hq.1; omega))⟩
  refine ⟨⟨(if_neg (by omega)).trans ((if_neg (by omega)).trans a1), (if_neg (by omega)).trans (if_pos rfl), if_pos rfl, (if_neg (by omega)).trans ((if_neg (by omega)).trans a4)⟩, (hd.off (by omega)).off (by omega), (hs.off (by omega)).off (by omega), hl, ag.agr.st hb0, ag.agr.img hi, ag.rw hb, hf⟩
theorem cRe.stR (hR : cRe h o sN im R sh rf n k E C T P W) (hi : i < 8) {r : Option Nat} (hr : iObjO h r 5 = true) : iStQ h (o + 1) (nI i) r = some (iSet h (o + 1) (cRow (va_up R i r))) := iStQ_of hR.1.2.1 rfl hi (by decide) hr
theorem cRe.g1r (hR : cRe h o sN im R sh rf n k E C T P W) {c : iPC} : iGet (iSet h (o + 1) c) o 8 1 = some (.ref (o + 2)) := (iGet_of (h := iSet h (o + 1) c) (a := o) (k := 1) ((if_neg (show ¬ o = o + 1 by omega)).trans hR.1.1)).trans rfl
theorem cRe.stS (hR : cRe h o sN im R sh rf n k E C T P W) (hi : i < 8) {c : iPC} : iStI (iSet h (o + 1) c) (o + 2) (nI i) v = some (iSet (iSet h (o + 1) c) (o + 2) (cShw (upd sh i v))) := iStI_of ((if_neg (by omega)).trans hR.1.2.2.1) hi (by decide)
theorem bRw.put {u : Nat → hS} (hb : bRw h o sN R sh u) (hi : i < 8) {r : Option Nat} {z : hS} (hz : bSh h o sN r z.2 z) (hd : ∀ j a, j < 8 → j ≠ i → R j = some a → r ≠ some a) : bRw h o sN (va_up R i r) (upd sh i z.2) (va_up u i z) := by
  refine ⟨fun j hj => ?_, fun p q a hp hq h1 h2 => ?_⟩
  · unfold va_up upd
    by_cases c : j = i
    · rw [if_pos c, if_pos c, if_pos c]
      exact hz
    · rw [if_neg c, if_neg c, if_neg c]
      exact hb.1 j hj
  · unfold va_up at h1 h2
    by_cases c : p = i
    · by_cases c2 : q = i
      · omega
      · rw [if_pos c] at h1
        rw [if_neg c2] at h2
        exact absurd h1 (hd q a hq c2 h2)
    · rw [if_neg c] at h1
      by_cases c2 : q = i
      · rw [if_pos c2] at h2
        exact absurd h2 (hd p a hp c h1)
      · rw [if_neg c2] at h2
        exact hb.2 p q a hp hq h1 h2
-- row
def aRow (W : wW) (s so n : Int32) : Int32 × wW := match iIx s 8 with
  | none => (-1, wRef W 1)
  | some i => if n < 0 then (-4, wRef W 4) else match iIx so 4 with
    | none => (-6, wRef W 6)
    | some _ => if 160 < n then (-7, wRef W 7) else (1, wSh W i (some (so, n.toNatClampNeg, fun _ => 0), -1))
theorem c8_row_ (hR : cRep h o W) (s so y : Int32) : ∃ r h1, iEv mX8_row [.ref o, .int s, .int so, .int y] h r h1 ∧ c8P h o (aRow W s so y) r h1 := by
  obtain ⟨sN, im, R, sh, rf, n, k, E, C, T, P, hR⟩ := hR
  refine I8_row ?_
  unfold aRow
  have es := c8_isShelf (h := h) s
  rcases iIx_cases s (n := 8) (by decide) with ⟨e, z⟩ | ⟨j, hj, rfl, e⟩
  · rw [e] at es ⊢
    simp only [X8_row_0, X8_row_1 es, X8_row_4, X8_row_7, X8_row_8, X8_row_9 (ev8_refuse hR (v := -1) (r := 1) (by decide) (by decide) rfl) hR.ob, X8_row_12, iOb_some, iClr_i, iClr_r, iClr_n, iClr_u, iClr_l, rf_s, rf_n, iB_0, iSum_nil, Option.isSome_none, if_true]
    exact c8_end hR (by decide)
  · rw [e] at es ⊢
    dsimp only
    by_cases c : y < 0
    · rw [if_pos c]
      simp only [X8_row_0, X8_row_1 es, X8_row_4, X8_row_7, X8_row_8, X8_row_12, X8_row_13, X8_row_14, X8_row_17, X8_row_18, X8_row_20 (ev8_refuse hR (v := -4) (r := 4) (by decide) (by decide) rfl) hR.ob, X8_row_23, iOb_some, iClr_i, iClr_r, iClr_n, iClr_u, iClr_l, rf_s, rf_n, iB_0, iSum_nil, Option.isSome_some, Bool.true_eq_false, if_false, if_neg (Int32.not_le.mpr c)]
      exact c8_end hR (by decide)
    rw [if_neg c]
    rcases iIx_cases so (n := 4) (by decide) with ⟨f, y2⟩ | ⟨l, hl, rfl, f⟩
    · rw [f]
      by_cases c2 : so < 0
      · simp only [X8_row_0, X8_row_1 es, X8_row_4, X8_row_7, X8_row_8, X8_row_12, X8_row_13, X8_row_14, X8_row_17, X8_row_18, X8_row_23, X8_row_24, X8_row_25, X8_row_28, X8_row_29, X8_row_30, X8_row_33, X8_row_34, X8_row_36 (ev8_refuse hR (v := -6) (r := 6) (by decide) (by decide) rfl) hR.ob, X8_row_39, iOb_some, iClr_i, iClr_r, iClr_n, iClr_u, iClr_l, rf_s, rf_n, iB_0, iSum_nil, Option.isSome_some, Bool.true_eq_false, if_false, if_pos (Int32.not_lt.mp c), if_pos c2]
        exact c8_end hR (by decide)
      · have c3 : ¬ so ≤ 3 := fun z => absurd (Int32.le_trans (y2.resolve_left c2) z) (by decide)
        simp only [X8_row_0, X8_row_1 es, X8_row_4, X8_row_7, X8_row_8, X8_row_12, X8_row_13, X8_row_14, X8_row_17, X8_row_18, X8_row_23, X8_row_24, X8_row_25, X8_row_28, X8_row_29, X8_row_30, X8_row_33, X8_row_34, X8_row_36 (ev8_refuse hR (v := -6) (r := 6) (by decide) (by decide) rfl) hR.ob, X8_row_39, iOb_some, iClr_i, iClr_r, iClr_n, iClr_u, iClr_l, rf_s, rf_n, iB_0, iSum_nil, Option.isSome_some, Bool.true_eq_false, if_false, if_pos (Int32.not_lt.mp c), if_neg c2, if_neg c3]
        exact c8_end hR (by decide)
    · rw [f]
      have c2 : ¬ nI l < 0 := nI_pos (by omega)
      have c3 : nI l ≤ 3 := nI_le (a := l) (b := 3) (by omega) (by decide)
      dsimp only
      by_cases c4 : 160 < y
      · rw [if_pos c4]
        simp only [X8_row_0, X8_row_1 es, X8_row_4, X8_row_7, X8_row_8, X8_row_12, X8_row_13, X8_row_14, X8_row_17, X8_row_18, X8_row_23, X8_row_24, X8_row_25, X8_row_28, X8_row_29, X8_row_30, X8_row_33, X8_row_34, X8_row_39, X8_row_40, X8_row_41, X8_row_44, X8_row_47, X8_row_48, X8_row_50 (ev8_refuse hR (v := -7) (r := 7) (by decide) (by decide) rfl) hR.ob, X8_row_53, iOb_some, iClr_i, iClr_r, iClr_n, iClr_u, iClr_l, rf_s, rf_n, iB_0, iSum_nil, Option.isSome_some, Bool.true_eq_false, if_false, if_pos (Int32.not_lt.mp c), if_neg c2, if_pos c3, if_neg (Int32.not_le.mpr c4)]
        exact c8_end hR (by decide)
      · rw [if_neg c4]
        obtain ⟨m, hm, rfl⟩ := nI_of2 (M := 160) (n := 160) rfl c (Int32.not_lt.mp c4)
        rw [nI_clamp (by omega)]
        have er := ev_rinit (h := h) (nI l) hm
        have h1R := hR.nH (cs := [.inr (5, [.int (nI l), .ref (h.2.1 + 1)]), .inl (1, m, .inr (.inl (fun _ => 0)))]) (sl := h.2.2 + 2 + m)
        have hfr : frZ h (nH h [.inr (5, [.int (nI l), .ref (h.2.1 + 1)]), .inl (1, m, .inr (.inl (fun _ => 0)))] (h.2.2 + 2 + m)) o := frZ.nH hR.lo
        have hnx : (nH h [.inr (5, [.int (nI l), .ref (h.2.1 + 1)]), .inl (1, m, .inr (.inl (fun _ => 0)))] (h.2.2 + 2 + m)).2 = (h.2.1 + 2, h.2.2 + 2 + m) := rfl
        have hrw : rwAt (nH h [.inr (5, [.int (nI l), .ref (h.2.1 + 1)]), .inl (1, m, .inr (.inl (fun _ => 0)))] (h.2.2 + 2 + m)) h.2.1 (nI l) m (fun _ => 0) := ⟨nH_at (k := 0) (Nat.le_of_ble_eq_true rfl), nH_at (k := 1) (Nat.le_of_ble_eq_true rfl), hm⟩
        generalize hg : nH h [.inr (5, [.int (nI l), .ref (h.2.1 + 1)]), .inl (1, m, .inr (.inl (fun _ => 0)))] (h.2.2 + 2 + m) = h1 at er h1R hfr hnx hrw
        have l1 := hR.lo
        have l2 := hR.sNh
        have n1 : h1.2.1 = h.2.1 + 2 := congrArg Prod.fst hnx
        have n2 : h1.2.2 = h.2.2 + 2 + m := congrArg Prod.snd hnx
        simp only [X8_row_0, X8_row_1 es, X8_row_4, X8_row_7, X8_row_8, X8_row_12, X8_row_13, X8_row_14, X8_row_17, X8_row_18, X8_row_23, X8_row_24, X8_row_25, X8_row_28, X8_row_29, X8_row_30, X8_row_33, X8_row_34, X8_row_39, X8_row_40, X8_row_41, X8_row_44, X8_row_47, X8_row_48, X8_row_53, X8_row_54, X8_row_55, X8_row_58, X8_row_59, X8_row_62, X8_row_63, X8_row_64, X8_row_65 er, X8_row_68, X8_row_68n, X8_row_69, X8_row_70, X8_row_73, X8_row_74, X8_row_75, X8_row_76, X8_row_77, iOb_some, iClr_i, iClr_r, iClr_n, iClr_u, iClr_l, rf_s, rf_n, iB_0, iSum_nil, Option.isSome_some, Bool.true_eq_false, if_false, if_pos (Int32.not_lt.mp c), if_neg c2, if_pos c3, if_pos (Int32.not_lt.mp c4), hR.g0, h1R.stR hj (r := some h.2.1) hrw.o, h1R.g1r, h1R.stS hj]
        refine ⟨rfl, ⟨sN, im, _, _, rf, n, k, E, C, T, P, h1R.setSh (h1R.2.2.2.2.2.2.1.put hj (r := some h.2.1) (z := (some (nI l, m, fun _ => 0), -1)) ⟨rfl, ⟨_, hrw, fun _ _ => rfl⟩, ?_, ?_⟩ ?_)⟩, ?_, ?_, ?_, ?_, ?_⟩
        · exact ⟨by omega, by omega, by omega⟩
        · exact ⟨by omega, by omega, by omega⟩
        · intro q a hq hqi hRq z
          cases z
          cases w : (W.2.2.1 q).1 with
          | none =>
            have := hR.rN hq w
            rw [this] at hRq
            cases hRq
          | some zz =>
            obtain ⟨a', f', r1, -, -, r4, -⟩ := hR.rS hq w
            rw [r1] at hRq
            cases hRq
            have := r4.2.1
            omega
        · exact (hfr.trans (frZ.set (Or.inl ⟨by omega, by omega⟩))).trans (frZ.set (Or.inl ⟨by omega, by omega⟩))
        · show h.2.1 ≤ h1.2.1
          omega
        · show h1.2.1 ≤ h.2.1 + 1000
          omega
        · show h.2.2 ≤ h1.2.2
          omega
        · show h1.2.2 ≤ h.2.2 + 14000
          omega
end CWRITES

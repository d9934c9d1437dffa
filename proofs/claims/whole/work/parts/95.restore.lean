/-! forget, restore on both sides -/
section RESTORE
variable {h h' : iHp} {o sN n k i j l x m a c p q t pc : Nat} {im : Option Nat} {R E T P T2 P2 : Nat → Option Nat} {sh rf C : Nat → Int32} {W : wW} {b : iHp} {s s0 s1 s' : mS} {v : Nat → hS} {w : sT} {fa ev : Int32}
/-- a shelf, when there are pc patches left -/
def vS (pc : Nat) (z : hS) : hS := match z.1 with
  | some _ => z
  | none => if nI pc ≤ z.2 then (none, -1) else z
def vF (pc : Nat) (v : Nat → hS) (i : Nat) : Nat → hS := fun j => if j < i then vS pc (v j) else v j
theorem vF_0 : vF pc v 0 = v := funext fun j => if_neg (by omega)
theorem vF_s : va_up (vF pc v i) i (vS pc (v i)) = vF pc v (i + 1) := by
  funext j
  unfold va_up vF
  by_cases e : j = i
  · rw [if_pos e, if_pos (by omega), e]
  · rw [if_neg e]
    by_cases g : j < i
    · rw [if_pos g, if_pos (by omega)]
    · rw [if_neg g, if_neg (by omega)]
theorem vF_i : vF pc v i i = v i := if_neg (by omega)
theorem up_same {α : Type} {f : Nat → α} {i : Nat} : va_up f i (f i) = f := by
  funext j
  unfold va_up
  by_cases e : j = i
  · rw [if_pos e, e]
  · rw [if_neg e]
theorem iSet_same {a : Nat} {c : iPC} (e : h.1 a = some c) : iSet h a c = h := by
  refine Prod.ext (funext fun q => ?_) rfl
  show (if q = a then some c else h.1 q) = h.1 q
  by_cases z : q = a
  · rw [if_pos z, z, e]
  · rw [if_neg z]
theorem cRe.setS1 (hR : cRe h o sN im R sh rf n k E C T P W) {sh' : Nat → Int32} {u : Nat → hS} (hb : bRw h o sN R sh' u) : cRe (iSet h (o + 2) (cShw sh')) o sN im R sh' rf n k E C T P (wShs W u) := by
  have := hR.setSh hb
  rw [show iSet h (o + 1) (cRow R) = h from iSet_same hR.1.2.1] at this
  exact this
theorem cRe.stS1 (hR : cRe h o sN im R sh rf n k E C T P W) (hi : i < 8) {y : Int32} : iStI h (o + 2) (nI i) y = some (iSet h (o + 2) (cShw (upd sh i y))) := iStI_of hR.1.2.2.1 hi (by decide)
theorem vain_loop (hv : ∀ j z, j < 8 → (v j).1 = some z → (v j).2 = -1) (hpc : pc ≤ 16) {Q : Option Value → iHp → Prop} : ∀ k i, i + k = 8 → ∀ h sh W, W.2.2.1 = vF pc v i → W.1.2.2.1 = pc → cRe h o sN im R sh rf n m E C T P W → (∀ h' sh', cRe h' o sN im R sh' rf n m E C T P (wShs W (vF pc v 8)) → frZ h h' o → h'.2 = h.2 → Q none h') → iWp 1 mX8_emptyVainShelves 2 [.ref o, .int (nI i)] [] h Q := by
  intro k
  induction k with
  | zero =>
    intro i hi h sh W hW hp hR hQ
    obtain rfl : i = 8 := by omega
    rw [X8_emptyVainShelves_2]
    simp only [X8_emptyVainShelves_0, X8_emptyVainShelves_1, X8_emptyVainShelves_3, X8_emptyVainShelves_5, X8_emptyVainShelves_8, X8_emptyVainShelves_9, X8_emptyVainShelves_12, X8_emptyVainShelves_13, X8_emptyVainShelves_14, X8_emptyVainShelves_15, X8_emptyVainShelves_18, X8_emptyVainShelves_21, X8_emptyVainShelves_24, X8_emptyVainShelves_25, X8_emptyVainShelves_28, X8_emptyVainShelves_29, X8_emptyVainShelves_30, X8_emptyVainShelves_31, X8_emptyVainShelves_34, X8_emptyVainShelves_37, iOb_some, iClr_i, iClr_r, iClr_n, iClr_u, iClr_l, rf_s, rf_n, iB_0, iSum_nil, if_pos (show (8 : Int32) ≤ nI 8 by decide)]
    refine hQ h sh ?_ frZ.refl rfl
    have : wShs W (vF pc v 8) = W := by
      rw [← hW]
      rfl
    rw [this]
    exact hR
  | succ k ih =>
    intro i hi h sh W hW hp hR hQ
    have h8 : ¬ (8 : Int32) ≤ nI i := nI_ge (b := 8) (by omega) (by decide)
    have e1 : sh i = (v i).2 := by rw [hR.shv (show i < 8 by omega), hW, vF_i]
    have hS := hR.2.2.1
    rw [X8_emptyVainShelves_2]
    by_cases c : nI pc ≤ (v i).2
    · have en : (v i).1 = none := by
        cases z : (v i).1 with
        | none => rfl
        | some y =>
          rw [hv i y (by omega) z] at c
          exact absurd (Int32.le_trans (nI_pos' (show pc < 2 ^ 31 by omega)) c) (by decide)
      have hvs : vS pc (v i) = (none, -1) := by
        unfold vS
        rw [en]
        exact if_pos c
      have hRn : R i = none := hR.rN (by omega) (by rw [hW, vF_i]; exact en)
      have eR : va_up R i none = R := by
        rw [← hRn]
        exact up_same
      have hb := hR.2.2.2.2.2.2.1.put (i := i) (by omega) (r := none) (z := (none, -1)) ⟨rfl, trivial⟩ (fun _ _ _ _ _ z => by cases z)
      rw [eR] at hb
      have hR2 := hR.setS1 hb
      simp only [X8_emptyVainShelves_3, X8_emptyVainShelves_5, X8_emptyVainShelves_8, X8_emptyVainShelves_9, X8_emptyVainShelves_12, X8_emptyVainShelves_13, X8_emptyVainShelves_14, X8_emptyVainShelves_15, X8_emptyVainShelves_18, X8_emptyVainShelves_21, X8_emptyVainShelves_24, X8_emptyVainShelves_25, X8_emptyVainShelves_28, X8_emptyVainShelves_29, X8_emptyVainShelves_30, X8_emptyVainShelves_31, X8_emptyVainShelves_34, iOb_some, iClr_i, iClr_r, iClr_n, iClr_u, iClr_l, rf_s, rf_n, iB_0, iSum_nil, if_neg h8, hR.g1, hR.lS (show i < 8 by omega), e1, hR.g4, hS.g3, hp, if_neg (Int32.not_lt.mpr c), hR.stS1 (show i < 8 by omega), nI_1]
      refine ih (i + 1) (by omega) _ _ (wShs W (va_up W.2.2.1 i (none, -1))) ?_ hp hR2 (fun h' sh' g1 g2 g3 => hQ h' sh' g1 ((frZ.set (Or.inl ⟨by omega, by omega⟩)).trans g2) (g3.trans rfl))
      show va_up W.2.2.1 i (none, -1) = _
      rw [hW, ← hvs, vF_s]
    · have hvs : vS pc (v i) = v i := by
        unfold vS
        cases z : (v i).1 with
        | none => exact if_neg c
        | some y => rfl
      simp only [X8_emptyVainShelves_3, X8_emptyVainShelves_5, X8_emptyVainShelves_8, X8_emptyVainShelves_9, X8_emptyVainShelves_12, X8_emptyVainShelves_13, X8_emptyVainShelves_14, X8_emptyVainShelves_15, X8_emptyVainShelves_18, X8_emptyVainShelves_21, X8_emptyVainShelves_24, X8_emptyVainShelves_25, X8_emptyVainShelves_28, X8_emptyVainShelves_29, X8_emptyVainShelves_30, X8_emptyVainShelves_31, X8_emptyVainShelves_34, iOb_some, iClr_i, iClr_r, iClr_n, iClr_u, iClr_l, rf_s, rf_n, iB_0, iSum_nil, if_neg h8, hR.g1, hR.lS (show i < 8 by omega), e1, hR.g4, hS.g3, hp, if_pos (Int32.not_le.mp c), nI_1]
      refine ih (i + 1) (by omega) h sh W ?_ hp hR hQ
      rw [hW, ← vF_s, hvs, ← vF_i (pc := pc) (v := v) (i := i)]
      exact up_same.symm
theorem ev8_vain (hp : W.1.2.2.1 = pc) {v : Nat → hS} (hv : ∀ j z, j < 8 → (v j).1 = some z → (v j).2 = -1) (hpc : pc ≤ 16) (hu : W.2.2.1 = v) (hR : cRe h o sN im R sh rf n m E C T P W) : ∃ h1 sh', iEv mX8_emptyVainShelves [.ref o] h none h1 ∧ cRe h1 o sN im R sh' rf n m E C T P (wShs W (vF pc v 8)) ∧ frZ h h1 o ∧ h1.2 = h.2 := by
  have z : iWp 1 mX8_emptyVainShelves 0 [.ref o, iU] [] h (fun r h1 => r = none ∧ ∃ sh', cRe h1 o sN im R sh' rf n m E C T P (wShs W (vF pc v 8)) ∧ frZ h h1 o ∧ h1.2 = h.2) := by
    simp only [X8_emptyVainShelves_0, X8_emptyVainShelves_1, iOb_some, iClr_i, iClr_r, iClr_n, iClr_u, iClr_l, rf_s, rf_n, iB_0, iSum_nil]
    exact vain_loop hv hpc 8 0 (by omega) h sh W (by rw [vF_0]; exact hu) hp hR (fun h' sh' g1 g2 g3 => ⟨rfl, sh', g1, g2, g3⟩)
  obtain ⟨r, h1, e, rfl, sh', g⟩ := I8_emptyVainShelves z
  exact ⟨h1, sh', e, g⟩
-- forget
def aForget (W : wW) : Int32 × wW := if W.1.2.2.1 = 0 then (-6, wRef W 6) else (nI (W.1.2.2.1 - 1), wShs (wNow W (W.1.1, W.1.2.1, W.1.2.2.1 - 1, W.1.2.2.2)) (vF (W.1.2.2.1 - 1) W.2.2.1 8))
theorem c8_forget (hR : cRep h o W) (hW : wOk W) : ∃ r h1, iEv mX8_forget [.ref o] h r h1 ∧ c8P h o (aForget W) r h1 := by
  obtain ⟨sN, im, R, sh, rf, n, k, E, C, T, P, hR⟩ := hR
  refine I8_forget ?_
  unfold aForget
  have hS := hR.2.2.1
  have p16 := hW.1.2.1
  by_cases c : W.1.2.2.1 = 0
  · rw [if_pos c]
    simp only [X8_forget_0, X8_forget_1, X8_forget_4, X8_forget_7, X8_forget_10, X8_forget_11, X8_forget_13 (ev8_refuse hR (v := -6) (r := 6) (by decide) (by decide) rfl) hR.ob, X8_forget_16, iOb_some, iClr_i, iClr_r, iClr_n, iClr_u, iClr_l, rf_s, rf_n, iB_0, iSum_nil, hR.g4, hS.g3, c, show nI 0 = (0 : Int32) from rfl, if_true]
    exact c8_end hR (by decide)
  · rw [if_neg c]
    obtain ⟨q, hq⟩ : ∃ q, W.1.2.2.1 = q + 1 := ⟨W.1.2.2.1 - 1, by omega⟩
    have ef := ev_sforget (b := h) (s := sN) (tc := W.1.1) (pc := q) (se := W.1.2.2.2.2) (T := T) (P := P) hW.1.1 (by omega)
    rw [← hq, hR.steq] at ef
    have hb : bSt h o sN T (va_up P q none) (W.1.1, W.1.2.1, q, W.1.2.2.2) := by
      obtain ⟨b1, b2, b3, b4⟩ := hR.2.2.2.2.1
      refine ⟨b1, fun j hj => ?_, b3, fun j y hy => ?_⟩
      · have hj : j < q := hj
        obtain ⟨t, t1, t2⟩ := b2 j (by omega)
        exact ⟨t, (if_neg (by omega)).trans t1, t2⟩
      · unfold va_up at hy
        split at hy
        · cases hy
        · exact b4 j y hy
    have hR2 := hR.setS (w := (W.1.1, W.1.2.1, q, W.1.2.2.2)) hW.1.1 (show q ≤ 16 by omega) hb
    obtain ⟨h1, sh', ev, g1, g2, g3⟩ := ev8_vain (v := W.2.2.1) (pc := q) (W := wNow W (W.1.1, W.1.2.1, q, W.1.2.2.2)) rfl (fun j z hj hz => by
      have := hW.2.2 j hj
      unfold shOk at this
      rw [hz] at this
      exact this.2.2) (by omega) rfl hR2
    rw [show W.1.2.2.1 - 1 = q by omega]
    have c0 : ¬ nI W.1.2.2.1 = 0 := nI_ne0 (by omega) (by omega)
    simp only [X8_forget_0, X8_forget_1, X8_forget_4, X8_forget_7, X8_forget_10, X8_forget_11, X8_forget_16, X8_forget_17, X8_forget_18, X8_forget_21 ef hS.o, X8_forget_24, X8_forget_25 ev hR2.ob, X8_forget_28, X8_forget_29, X8_forget_32, X8_forget_35, iOb_some, iClr_i, iClr_r, iClr_n, iClr_u, iClr_l, rf_s, rf_n, iB_0, iSum_nil, hR.g4, hS.g3, if_neg c0, g1.g4, g1.2.2.1.g3]
    have gs := congrArg Prod.fst g3
    have gt := congrArg Prod.snd g3
    refine ⟨rfl, ⟨sN, im, R, sh', rf, n, k, E, C, T, _, g1⟩, (frZ.st hR.sNl).trans g2, ?_, ?_, ?_, ?_⟩
    · exact Nat.le_of_eq gs.symm
    · exact Nat.le_trans (Nat.le_of_eq gs) (Nat.le_add_right _ _)
    · exact Nat.le_of_eq gt.symm
    · exact Nat.le_trans (Nat.le_of_eq gt) (Nat.le_add_right _ _)
-- restore
def aRestore (W : wW) : Int32 × wW := match W.2.1 with
  | none => (-6, wRef W 6)
  | some w => (nI w.1, wShs (wNow W w) (vF w.2.2.1 W.2.2.1 8))
theorem cRe.newNow (hR : cRe h o sN im R sh rf n k E C T P W) (hb : bSt h o sN T2 P2 w) (h1 : w.1 ≤ 16) (h2 : w.2.2.1 ≤ 16) (g1 : ∀ q, q < h.2.1 → h'.1 q = h.1 q) (g2 : h'.2.1 = h.2.1 + 3) (g3 : stAt h' h.2.1 w.1 w.2.2.1 w.2.2.2.2 (tkE T2 16) (tkE P2 16)) : cRe (iSet h' o (cOb o h.2.1 im W.2.2.2.2.1 W.2.2.2.2.2)) o h.2.1 im R sh rf n k E C (tkE T2 16) (tkE P2 16) (wNow W w) := by
  have hlo := hR.lo
  obtain ⟨⟨a1, a2, a3, a4⟩, hd, hs, hl, hb0, hi, hw, hf⟩ := hR
  have cell : ∀ q, q ≠ o → q < h.2.1 → (iSet h' o (cOb o h.2.1 im W.2.2.2.2.1 W.2.2.2.2.2)).1 q = h.1 q := fun q z1 z2 => (if_neg z1).trans (g1 q z2)
  have ag : agt h (iSet h' o (cOb o h.2.1 im W.2.2.2.2.1 W.2.2.2.2.2)) o sN h.2.1 := fun q hq => ⟨⟨hq.1, by show q < h'.2.1; have := hq.2.1; omega, Or.inl hq.2.1⟩, cell q (by have := hq.1; omega) hq.2.1⟩
  refine ⟨⟨if_pos rfl, (cell _ (by omega) (by omega)).trans a2, (cell _ (by omega) (by omega)).trans a3, (cell _ (by omega) (by omega)).trans a4⟩, ⟨(cell _ (by omega) (by omega)).trans hd.1, (cell _ (by omega) (by omega)).trans hd.2.1, (cell _ (by omega) (by omega)).trans hd.2.2.1, hd.2.2.2⟩, g3.off (by omega), ⟨by show o + 38 ≤ h'.2.1; omega, Or.inr ⟨hlo, by show h.2.1 + 3 ≤ h'.2.1; omega⟩⟩, ag.agr.st (hb.tk h1 h2), ag.agr.img hi, ag.rw hw, hf⟩
theorem c8_restore (hR : cRep h o W) (hW : wOk W) : ∃ r h1, iEv mX8_restore [.ref o] h r h1 ∧ c8P h o (aRestore W) r h1 := by
  obtain ⟨sN, im, R, sh, rf, n, k, E, C, T, P, hR⟩ := hR
  refine I8_restore ?_
  unfold aRestore
  have hI := hR.2.2.2.2.2.1
  cases im with
  | none =>
    cases e : W.2.1 with
    | some w => rw [e] at hI; exact hI.elim
    | none =>
      simp only [X8_restore_0, X8_restore_1, X8_restore_4, X8_restore_4n, X8_restore_7, X8_restore_8, X8_restore_10 (ev8_refuse hR (v := -6) (r := 6) (by decide) (by decide) rfl) hR.ob, X8_restore_13, iOb_some, iClr_i, iClr_r, iClr_n, iClr_u, iClr_l, rf_s, rf_n, iB_0, iSum_nil, hR.g5]
      exact c8_end hR (by decide)
  | some a =>
    cases e : W.2.1 with
    | none => rw [e] at hI; exact hI.elim
    | some w =>
      rw [e] at hI
      obtain ⟨T2, P2, s1, s2, s3⟩ := hI
      have ow := hW.2.1 w e
      have ha := s3 0 (by decide)
      have ha2 := s3 2 (by decide)
      obtain ⟨h1, ev, g1, g2, g3, g4⟩ := cp_state hR s1 s2 (by have := ha2.2.1; omega)
      have n1 : h1.2.1 = h.2.1 + 3 := congrArg Prod.fst g2
      have n2 : h1.2.2 = h.2.2 + 37 := congrArg Prod.snd g2
      have hR2 := hR.newNow s2 ow.1 ow.2.1 g1 n1 g3
      have hR1 := hR.grow g1 (by omega)
      have hlo := hR.lo
      have gN : iGet (iNewO h 6) o 8 5 = some (.ref a) := (iGet_of (h := iNewO h 6) (a := o) (k := 5) ((iNew_off (by omega)).trans hR.1.1)).trans rfl
      obtain ⟨h2, sh', ev2, f1, f2, f3⟩ := ev8_vain (v := W.2.2.1) (pc := w.2.2.1) (W := wNow W w) rfl (fun j z hj hz => by
        have := hW.2.2 j hj
        unfold shOk at this
        rw [hz] at this
        exact this.2.2) ow.2.1 rfl hR2
      simp only [X8_restore_0, X8_restore_1, X8_restore_4, X8_restore_4n, X8_restore_7, X8_restore_8, X8_restore_13, X8_restore_14, X8_restore_15, X8_restore_18, X8_restore_19, X8_restore_20, X8_restore_23 ev (cat_r a), X8_restore_26, X8_restore_26n, X8_restore_29, X8_restore_30 ev2 hR2.ob, X8_restore_33, X8_restore_34, X8_restore_37, X8_restore_40, iOb_some, iClr_i, iClr_r, iClr_n, iClr_u, iClr_l, rf_s, rf_n, iB_0, iSum_nil, hR.g5, gN, hR1.pNow, f1.g4, f1.2.2.1.g2]
      have gs : h2.2.1 = h1.2.1 := congrArg Prod.fst f3
      have gt : h2.2.2 = h1.2.2 := congrArg Prod.snd f3
      exact ⟨rfl, ⟨_, _, R, sh', rf, n, k, E, C, _, _, f1⟩, (g4.trans (frZ.set (Or.inl ⟨Nat.le_refl _, by omega⟩))).trans f2, by omega, by omega, by omega, by omega⟩
end RESTORE

/-! difference: the class's Differ -/
def dO (f ta tu o : Nat) : iPC := .inr (0, [.ref ta, .ref tu, .ref (f + 4), .ref (o + 4), .ref (f + 1), .ref (f + 2), .ref (f + 3)])
def dF (h h1 : iHp) (o ta tu : Nat) (R L Sg : Nat → Int32) (X : dfX) (V : tT) (E : Nat → Option Nat) (C : Nat → Int32) : Prop := (h1.1 h.2.1 = some (dO h.2.1 ta tu o) ∧ h1.1 (h.2.1 + 1) = some (.inl (0, 80, .inl R)) ∧ h1.1 (h.2.1 + 2) = some (.inl (0, 80, .inl L)) ∧ h1.1 (h.2.1 + 3) = some (.inl (2, 80, .inl Sg))) ∧ (trAt h1 (h.2.1 + 4) V.1 V.2.1 V.2.2.1 V.2.2.2 ∧ tEq V X.1) ∧ drAt h1 (o + 4) X.2.1 0 E C ∧ (∀ j, j < X.2.1 → ∃ x, E j = some x ∧ edAt h1 x (X.2.2 j) ∧ h.2.1 + 8 ≤ x ∧ x < h1.2.1) ∧ (∀ q, q < h.2.1 → (q < o + 4 ∨ o + 7 ≤ q) → h1.1 q = h.1 q) ∧ h1.2.1 = h.2.1 + 8 + X.2.1 ∧ h1.2.2 = h.2.2 + 491 + 7 * X.2.1
def dG (h h1 : iHp) (o ta tu : Nat) (R L Sg : Nat → Int32) (X : dfX) : Prop := ∃ V E C, dF h h1 o ta tu R L Sg X V E C
def dfW (h : iHp) (o ta tu : Nat) (T U : tT) : Prop := o + 38 ≤ h.2.1 ∧ (tA h ta T ∧ o + 38 ≤ ta ∧ ta + 4 ≤ h.2.1) ∧ (tA h tu U ∧ o + 38 ≤ tu ∧ tu + 4 ≤ h.2.1) ∧ tOk T ∧ tOk U ∧ T.2.1 0 = U.2.1 0
section DIFFCL
variable {h h1 h2 : iHp} {o ta tu i j k p c q a n m A : Nat} {R L Sg : Nat → Int32} {X : dfX} {T U : tT} {e : Nat → Int32} {ah : Option Nat} {Q : Option Value → iHp → Prop}
theorem iLdB_of {f : Nat → Int32} (e : h.1 a = some (.inl (2, n, .inl f))) (hj : j < n) (hn : n < 2 ^ 31) : iLdB h a (nI j) = some (f j) := by
  unfold iLdB
  rw [e]
  dsimp only
  rw [if_pos ⟨rfl, nI_in hj hn⟩, nI_clamp (by omega)]
theorem iStB_of {f : Nat → Int32} {v : Int32} (e : h.1 a = some (.inl (2, n, .inl f))) (hj : j < n) (hn : n < 2 ^ 31) : iStB h a (nI j) v = some (iSet h a (.inl (2, n, .inl (upd f j (vp_nar .boolean v))))) := by
  unfold iStB
  rw [e]
  dsimp only
  rw [if_pos ⟨rfl, nI_in hj hn⟩, nI_clamp (by omega)]
theorem dG.ob (hG : dG h h1 o ta tu R L Sg X) : iObj h1 h.2.1 0 = true := by
  obtain ⟨V, E, C, hF⟩ := hG
  exact iObj_of hF.1.1
theorem dG.g0 (hG : dG h h1 o ta tu R L Sg X) : iGet h1 h.2.1 0 0 = some (.ref ta) := by
  obtain ⟨V, E, C, hF⟩ := hG
  exact iGet_of hF.1.1
theorem dG.g1 (hG : dG h h1 o ta tu R L Sg X) : iGet h1 h.2.1 0 1 = some (.ref tu) := by
  obtain ⟨V, E, C, hF⟩ := hG
  exact iGet_of hF.1.1
theorem dG.g2 (hG : dG h h1 o ta tu R L Sg X) : iGet h1 h.2.1 0 2 = some (.ref (h.2.1 + 4)) := by
  obtain ⟨V, E, C, hF⟩ := hG
  exact iGet_of hF.1.1
theorem dG.g3 (hG : dG h h1 o ta tu R L Sg X) : iGet h1 h.2.1 0 3 = some (.ref (o + 4)) := by
  obtain ⟨V, E, C, hF⟩ := hG
  exact iGet_of hF.1.1
theorem dG.g4 (hG : dG h h1 o ta tu R L Sg X) : iGet h1 h.2.1 0 4 = some (.ref (h.2.1 + 1)) := by
  obtain ⟨V, E, C, hF⟩ := hG
  exact iGet_of hF.1.1
theorem dG.g5 (hG : dG h h1 o ta tu R L Sg X) : iGet h1 h.2.1 0 5 = some (.ref (h.2.1 + 2)) := by
  obtain ⟨V, E, C, hF⟩ := hG
  exact iGet_of hF.1.1
theorem dG.g6 (hG : dG h h1 o ta tu R L Sg X) : iGet h1 h.2.1 0 6 = some (.ref (h.2.1 + 3)) := by
  obtain ⟨V, E, C, hF⟩ := hG
  exact iGet_of hF.1.1
theorem dG.lR (hG : dG h h1 o ta tu R L Sg X) (hj : j < 80) : iLdI h1 (h.2.1 + 1) (nI j) = some (R j) := by
  obtain ⟨V, E, C, hF⟩ := hG
  exact iLdI_of hF.1.2.1 hj (by decide)
theorem dG.lL (hG : dG h h1 o ta tu R L Sg X) (hj : j < 80) : iLdI h1 (h.2.1 + 2) (nI j) = some (L j) := by
  obtain ⟨V, E, C, hF⟩ := hG
  exact iLdI_of hF.1.2.2.1 hj (by decide)
theorem dG.lS (hG : dG h h1 o ta tu R L Sg X) (hj : j < 80) : iLdB h1 (h.2.1 + 3) (nI j) = some (Sg j) := by
  obtain ⟨V, E, C, hF⟩ := hG
  exact iLdB_of hF.1.2.2.2 hj (by decide)
theorem dG.w (hG : dG h h1 o ta tu R L Sg X) : tA h1 (h.2.1 + 4) X.1 := by
  obtain ⟨V, E, C, hF⟩ := hG
  exact tA_of (n := V.1) hF.2.1.1 hF.2.1.2
theorem dG.from (hG : dG h h1 o ta tu R L Sg X) (hW : dfW h o ta tu T U) : tA h1 ta T := by
  obtain ⟨V, E, C, hF⟩ := hG
  obtain ⟨w1, ⟨w2, w3, w4⟩, -⟩ := hW
  exact w2.same (fun j hj => hF.2.2.2.2.1 _ (by omega) (by omega))
theorem dG.to (hG : dG h h1 o ta tu R L Sg X) (hW : dfW h o ta tu T U) : tA h1 tu U := by
  obtain ⟨V, E, C, hF⟩ := hG
  obtain ⟨w1, -, ⟨w2, w3, w4⟩, -⟩ := hW
  exact w2.same (fun j hj => hF.2.2.2.2.1 _ (by omega) (by omega))
/-- a write in one of the three arrays -/
theorem dG.sR (hG : dG h h1 o ta tu R L Sg X) (ho : o + 38 ≤ h.2.1) (hj : j < 80) (v : Int32) : ∃ h2, iStI h1 (h.2.1 + 1) (nI j) v = some h2 ∧ dG h h2 o ta tu (upd R j v) L Sg X := by
  obtain ⟨V, E, C, ⟨f1, f2, f3, f4⟩, ⟨t1, t2⟩, f5, f6, f7, f8, f9⟩ := hG
  refine ⟨_, iStI_of f2 hj (by decide), V, E, C, ⟨(if_neg (by omega)).trans f1, if_pos rfl, (if_neg (by omega)).trans f3, (if_neg (by omega)).trans f4⟩, ⟨⟨(if_neg (by omega)).trans t1.1, (if_neg (by omega)).trans t1.2.1, (if_neg (by omega)).trans t1.2.2.1, (if_neg (by omega)).trans t1.2.2.2.1, t1.2.2.2.2⟩, t2⟩, f5.off (by omega), fun j hj => ?_, fun q h1 h2 => (if_neg (by omega)).trans (f7 q h1 h2), f8, f9⟩
  obtain ⟨x, x1, x2, x3, x4⟩ := f6 j hj
  exact ⟨x, x1, (if_neg (by omega)).trans x2, x3, x4⟩
theorem dG.sL (hG : dG h h1 o ta tu R L Sg X) (ho : o + 38 ≤ h.2.1) (hj : j < 80) (v : Int32) : ∃ h2, iStI h1 (h.2.1 + 2) (nI j) v = some h2 ∧ dG h h2 o ta tu R (upd L j v) Sg X := by
  obtain ⟨V, E, C, ⟨f1, f2, f3, f4⟩, ⟨t1, t2⟩, f5, f6, f7, f8, f9⟩ := hG
  refine ⟨_, iStI_of f3 hj (by decide), V, E, C, ⟨(if_neg (by omega)).trans f1, (if_neg (by omega)).trans f2, if_pos rfl, (if_neg (by omega)).trans f4⟩, ⟨⟨(if_neg (by omega)).trans t1.1, (if_neg (by omega)).trans t1.2.1, (if_neg (by omega)).trans t1.2.2.1, (if_neg (by omega)).trans t1.2.2.2.1, t1.2.2.2.2⟩, t2⟩, f5.off (by omega), fun j hj => ?_, fun q h1 h2 => (if_neg (by omega)).trans (f7 q h1 h2), f8, f9⟩
  obtain ⟨x, x1, x2, x3, x4⟩ := f6 j hj
  exact ⟨x, x1, (if_neg (by omega)).trans x2, x3, x4⟩
theorem dG.sS (hG : dG h h1 o ta tu R L Sg X) (ho : o + 38 ≤ h.2.1) (hj : j < 80) : ∃ h2, iStB h1 (h.2.1 + 3) (nI j) 1 = some h2 ∧ dG h h2 o ta tu R L (upd Sg j 1) X := by
  obtain ⟨V, E, C, ⟨f1, f2, f3, f4⟩, ⟨t1, t2⟩, f5, f6, f7, f8, f9⟩ := hG
  have e := iStB_of (v := 1) f4 hj (by decide)
  rw [show vp_nar .boolean 1 = (1 : Int32) from by decide] at e
  refine ⟨_, e, V, E, C, ⟨(if_neg (by omega)).trans f1, (if_neg (by omega)).trans f2, (if_neg (by omega)).trans f3, if_pos rfl⟩, ⟨⟨(if_neg (by omega)).trans t1.1, (if_neg (by omega)).trans t1.2.1, (if_neg (by omega)).trans t1.2.2.1, (if_neg (by omega)).trans t1.2.2.2.1, t1.2.2.2.2⟩, t2⟩, f5.off (by omega), fun j hj => ?_, fun q h1 h2 => (if_neg (by omega)).trans (f7 q h1 h2), f8, f9⟩
  obtain ⟨x, x1, x2, x3, x4⟩ := f6 j hj
  exact ⟨x, x1, (if_neg (by omega)).trans x2, x3, x4⟩
/-- one edit comes -/
theorem dG.chg (hG : dG h h1 o ta tu R L Sg X) (ho : o + 38 ≤ h.2.1) (hX : tOk X.1) (hn : X.2.1 < 120) (hf : fitT e X.1 = true) : ∃ h2, iEv mX0_change [.ref h.2.1, .ref h1.2.1] (eNew h1 e) none h2 ∧ dG h h2 o ta tu R L Sg (dfE e X) := by
  have h60 := hX.1.le
  have g2 := hG.g2
  have g3 := hG.g3
  obtain ⟨V, E, C, ⟨f1, f2, f3, f4⟩, ⟨t1, t2⟩, f5, f6, f7, f8, f9⟩ := hG
  have hV := t2.symm.ok hX
  have v60 := hV.1.le
  have hfV : fitT e V = true := (fitT_congr t2 hV).trans hf
  have n1 : (eNew h1 e).2.1 = h1.2.1 + 1 := rfl
  have n2 : (eNew h1 e).2.2 = h1.2.2 + 7 := rfl
  have hx : edAt (eNew h1 e) h1.2.1 e := eNew_at
  have off : ∀ q, q ≠ h1.2.1 → (eNew h1 e).1 q = h1.1 q := fun q hq => iNew_off hq
  generalize eNew h1 e = hb at n1 n2 hx off
  have d1 : drAt hb (o + 4) X.2.1 0 E C := ⟨(off _ (by omega)).trans f5.1, (off _ (by omega)).trans f5.2.1, (off _ (by omega)).trans f5.2.2.1, f5.2.2.2⟩
  have ea := ev_dadd (b := hb) (d := o + 4) (n := X.2.1) (c := 0) (E := E) (C := C) (x := h1.2.1) hn (by omega) (by rw [d1.eq]; exact hx.o)
  rw [d1.eq] at ea
  have off2 : ∀ q, (q < o + 4 ∨ o + 7 ≤ q) → (drH hb (o + 4) (X.2.1 + 1) 0 (va_up E X.2.1 (some h1.2.1)) C).1 q = hb.1 q := fun q hq => drH_off (by omega)
  have n3 : (drH hb (o + 4) (X.2.1 + 1) 0 (va_up E X.2.1 (some h1.2.1)) C).2 = hb.2 := rfl
  have d2 : drAt (drH hb (o + 4) (X.2.1 + 1) 0 (va_up E X.2.1 (some h1.2.1)) C) (o + 4) (X.2.1 + 1) 0 (va_up E X.2.1 (some h1.2.1)) C := drH_dr (by omega) (by omega)
  generalize drH hb (o + 4) (X.2.1 + 1) 0 (va_up E X.2.1 (some h1.2.1)) C = hc at ea off2 n3 d2
  have cell : ∀ q, o + 7 ≤ q → q ≠ h1.2.1 → hc.1 q = h1.1 q := fun q q1 q2 => (off2 q (Or.inr q1)).trans (off q q2)
  have t3 : trAt hc (h.2.1 + 4) V.1 V.2.1 V.2.2.1 V.2.2.2 := ⟨(cell _ (by omega) (by omega)).trans t1.1, (cell _ (by omega) (by omega)).trans t1.2.1, (cell _ (by omega) (by omega)).trans t1.2.2.1, (cell _ (by omega) (by omega)).trans t1.2.2.2.1, t1.2.2.2.2⟩
  have x3 : edAt hc h1.2.1 e := (off2 _ (by omega)).trans hx
  have et := t3.eq
  obtain ⟨ep, ep2⟩ := ev_perf (b := hc) (t := h.2.1 + 4) (T := V) (p := h1.2.1) (e := e) (by show edAt (trH hc (h.2.1 + 4) V.1 V.2.1 V.2.2.1 V.2.2.2) h1.2.1 e; rw [et]; exact x3) (by omega) hfV
  have ep : iEv mX2_perform [.ref h1.2.1, .ref (h.2.1 + 4)] (trH hc (h.2.1 + 4) V.1 V.2.1 V.2.2.1 V.2.2.2) none (trT hc (h.2.1 + 4) (ePerf e V)) := ep
  rw [et] at ep
  have g2b : iGet hc h.2.1 0 2 = some (.ref (h.2.1 + 4)) := iGet_of ((cell _ (by omega) (by omega)).trans f1)
  have g3b : iGet hb h.2.1 0 3 = some (.ref (o + 4)) := iGet_of ((off _ (by omega)).trans f1)
  refine ⟨trT hc (h.2.1 + 4) (ePerf e V), ?_, ePerf e V, va_up E X.2.1 (some h1.2.1), C, ⟨?_, ?_, ?_, ?_⟩, ⟨trH_tr ep2, perf_congr t2 hV hfV⟩, ?_, fun j hj => ?_, fun q q1 q2 => ?_, ?_, ?_⟩
  · refine J0_change (cat_r h1.2.1) ?_
    simp only [X0_change_0, X0_change_1, X0_change_4, X0_change_4n, X0_change_5 ea d1.o (cat_r h1.2.1), X0_change_8, X0_change_8n, X0_change_9, X0_change_10, X0_change_13 ep x3.o (cat_r (h.2.1 + 4)), X0_change_16, iOb_some, iClr_i, iClr_r, iClr_n, iClr_u, iClr_l, rf_s, rf_n, iB_0, iSum_nil, g2b, g3b, and_self]
  · exact (trH_off (by omega)).trans ((cell _ (by omega) (by omega)).trans f1)
  · exact (trH_off (by omega)).trans ((cell _ (by omega) (by omega)).trans f2)
  · exact (trH_off (by omega)).trans ((cell _ (by omega) (by omega)).trans f3)
  · exact (trH_off (by omega)).trans ((cell _ (by omega) (by omega)).trans f4)
  · exact ⟨(trH_off (by omega)).trans d2.1, (trH_off (by omega)).trans d2.2.1, (trH_off (by omega)).trans d2.2.2.1, d2.2.2.2⟩
  · show ∃ x, va_up E X.2.1 (some h1.2.1) j = some x ∧ edAt (trT hc (h.2.1 + 4) (ePerf e V)) x (va_up X.2.2 X.2.1 e j) ∧ _ ∧ x < hc.2.1
    have n4 : hc.2.1 = hb.2.1 := congrArg Prod.fst n3
    unfold va_up
    by_cases cj : j = X.2.1
    · rw [if_pos cj, if_pos cj]
      exact ⟨_, rfl, (trH_off (by omega)).trans x3, by omega, by omega⟩
    · rw [if_neg cj, if_neg cj]
      have hj : j < X.2.1 + 1 := hj
      obtain ⟨x, x1, x2, x3, x4⟩ := f6 j (by omega)
      exact ⟨x, x1, (trH_off (by omega)).trans ((cell _ (by omega) (by omega)).trans x2), x3, by omega⟩
  · exact (trH_off (by omega)).trans ((off2 q q2).trans ((off q (by omega)).trans (f7 q q1 q2)))
  · have n4 : hc.2.1 = hb.2.1 := congrArg Prod.fst n3
    show hc.2.1 = h.2.1 + 8 + (X.2.1 + 1)
    omega
  · have n4 : hc.2.2 = hb.2.2 := congrArg Prod.snd n3
    show hc.2.2 = h.2.2 + 491 + 7 * (X.2.1 + 1)
    omega
/-- reads where an edit has just been made -/
theorem dG.new (hG : dG h h1 o ta tu R L Sg X) (hW : dfW h o ta tu T U) : iObj (eNew h1 e) h.2.1 0 = true := by
  obtain ⟨V, E, C, ⟨f1, f2, f3, f4⟩, ⟨t1, t2⟩, f5, f6, f7, f8, f9⟩ := hG
  exact iObj_of ((iNew_off (by omega)).trans f1)
-- NAMEs
theorem names_loop (hW : dfW h o ta tu T U) : ∀ k i h1 X a2 a3, i + k = T.1 → dN T U i X → dG h h1 o ta tu R L Sg X → (∀ h2, dG h h2 o ta tu R L Sg (dfN T U k i X) → Q none h2) → iWp 6 mX0_nameOthers 2 [.ref h.2.1, .int (nI i), a2, a3] [] h1 Q := by
  have hT := hW.2.2.2.1
  have t60 := hT.1.le
  have u60 := hW.2.2.2.2.1.1.le
  intro k
  induction k with
  | zero =>
    intro i h1 X a2 a3 hi hN hG hQ
    obtain rfl : i = T.1 := by omega
    rw [X0_nameOthers_2]
    simp only [X0_nameOthers_3, X0_nameOthers_4, X0_nameOthers_7, X0_nameOthers_10, X0_nameOthers_13, X0_nameOthers_14, X0_nameOthers_17, X0_nameOthers_21, X0_nameOthers_22, X0_nameOthers_23, X0_nameOthers_26, X0_nameOthers_30, X0_nameOthers_31, X0_nameOthers_32, X0_nameOthers_33, X0_nameOthers_36, X0_nameOthers_37, X0_nameOthers_40, X0_nameOthers_44, X0_nameOthers_45, X0_nameOthers_48, X0_nameOthers_52, X0_nameOthers_55, X0_nameOthers_56, X0_nameOthers_57, X0_nameOthers_58, X0_nameOthers_61, X0_nameOthers_65, X0_nameOthers_66, X0_nameOthers_69, X0_nameOthers_79, X0_nameOthers_82, X0_nameOthers_85, iOb_some, iClr_i, iClr_r, iClr_n, iClr_u, iClr_l, rf_s, rf_n, iB_0, iSum_nil, hG.g0, (hG.from hW).s, if_pos (Int32.le_refl (nI T.1))]
    exact hQ h1 hG
  | succ k ih =>
    intro i h1 X a2 a3 hi hN hG hQ
    have hi' : i < T.1 := by omega
    have A := hG.from hW
    have B := hG.to hW
    have hs := dN_step hT hN hi'
    have hfit := fun v => dN_fit hT hN hi' v
    have hle := dN_le hT hN (by omega)
    rw [X0_nameOthers_2]
    unfold dfN at hQ
    unfold dfN1 at hQ hs
    have e2 := B.whereOf (T.2.1 i)
    cases w : tWhere U.2.1 U.1 (T.2.1 i) with
    | none =>
      rw [w] at hQ hs e2
      simp only [X0_nameOthers_3, X0_nameOthers_4, X0_nameOthers_7, X0_nameOthers_10, X0_nameOthers_13, X0_nameOthers_14, X0_nameOthers_17, X0_nameOthers_18 (A.keyAt hi') A.o, X0_nameOthers_21, X0_nameOthers_22, X0_nameOthers_23, X0_nameOthers_26, X0_nameOthers_27 e2 B.o, X0_nameOthers_30, X0_nameOthers_31, X0_nameOthers_32, X0_nameOthers_33, X0_nameOthers_36, X0_nameOthers_37, X0_nameOthers_40, X0_nameOthers_44, X0_nameOthers_45, X0_nameOthers_48, X0_nameOthers_52, X0_nameOthers_55, X0_nameOthers_56, X0_nameOthers_57, X0_nameOthers_58, X0_nameOthers_61, X0_nameOthers_65, X0_nameOthers_66, X0_nameOthers_69, X0_nameOthers_79, X0_nameOthers_82, iOb_some, iClr_i, iClr_r, iClr_n, iClr_u, iClr_l, rf_s, rf_n, iB_0, iSum_nil, hG.g0, hG.g1, A.s, if_neg (nI_ge hi' (show T.1 < 2 ^ 31 by omega)), oI_n, if_true, nI_1]
      exact ih (i + 1) h1 X _ _ (by omega) hs hG hQ
    | some j =>
      rw [w] at hQ hs e2
      dsimp only at hQ hs
      have hj := (tWhere_lt w).1
      by_cases c : U.2.2.1 j = T.2.2.1 i
      · rw [if_pos c] at hQ hs
        simp only [X0_nameOthers_3, X0_nameOthers_4, X0_nameOthers_7, X0_nameOthers_10, X0_nameOthers_13, X0_nameOthers_14, X0_nameOthers_17, X0_nameOthers_18 (A.keyAt hi') A.o, X0_nameOthers_21, X0_nameOthers_22, X0_nameOthers_23, X0_nameOthers_26, X0_nameOthers_27 e2 B.o, X0_nameOthers_30, X0_nameOthers_31, X0_nameOthers_32, X0_nameOthers_33, X0_nameOthers_36, X0_nameOthers_37, X0_nameOthers_40, X0_nameOthers_41 (B.labelAt hj) B.o, X0_nameOthers_44, X0_nameOthers_45, X0_nameOthers_48, X0_nameOthers_49 (A.labelAt hi') A.o, X0_nameOthers_52, X0_nameOthers_55, X0_nameOthers_56, X0_nameOthers_57, X0_nameOthers_58, X0_nameOthers_61, X0_nameOthers_65, X0_nameOthers_66, X0_nameOthers_69, X0_nameOthers_79, X0_nameOthers_82, iOb_some, iClr_i, iClr_r, iClr_n, iClr_u, iClr_l, rf_s, rf_n, iB_0, iSum_nil, hG.g0, hG.g1, A.s, if_neg (nI_ge hi' (show T.1 < 2 ^ 31 by omega)), oI_s, if_neg (oI_ne (show j < 2 ^ 31 by omega)), if_pos c, nI_1]
        exact ih (i + 1) h1 X _ _ (by omega) hs hG hQ
      · rw [if_neg c] at hQ hs
        obtain ⟨h2, c1, c2⟩ := hG.chg hW.1 hN.1.1 (by omega) (hfit (U.2.2.1 j)).2
        simp only [X0_nameOthers_3, X0_nameOthers_4, X0_nameOthers_7, X0_nameOthers_10, X0_nameOthers_13, X0_nameOthers_14, X0_nameOthers_17, X0_nameOthers_18 (A.keyAt hi') A.o, X0_nameOthers_21, X0_nameOthers_22, X0_nameOthers_23, X0_nameOthers_26, X0_nameOthers_27 e2 B.o, X0_nameOthers_30, X0_nameOthers_31, X0_nameOthers_32, X0_nameOthers_33, X0_nameOthers_36, X0_nameOthers_37, X0_nameOthers_40, X0_nameOthers_41 (B.labelAt hj) B.o, X0_nameOthers_44, X0_nameOthers_45, X0_nameOthers_48, X0_nameOthers_49 (A.labelAt hi') A.o, X0_nameOthers_52, X0_nameOthers_55, X0_nameOthers_56, X0_nameOthers_57, X0_nameOthers_58, X0_nameOthers_61, X0_nameOthers_62 (A.labelAt hi') A.o, X0_nameOthers_65, X0_nameOthers_66, X0_nameOthers_69, X0_nameOthers_70 (B.labelAt hj) B.o, X0_nameOthers_73 (ev_name _ _ _), X0_nameOthers_76 c1 (hG.new hW) (cat_r h1.2.1), X0_nameOthers_79, X0_nameOthers_82, iOb_some, iClr_i, iClr_r, iClr_n, iClr_u, iClr_l, rf_s, rf_n, iB_0, iSum_nil, hG.g0, hG.g1, A.s, if_neg (nI_ge hi' (show T.1 < 2 ^ 31 by omega)), oI_s, if_neg (oI_ne (show j < 2 ^ 31 by omega)), if_neg c, nI_1]
        exact ih (i + 1) h2 _ _ _ (by omega) hs c2 hQ
theorem ev_nameOthers (hW : dfW h o ta tu T U) (hN : dN T U 0 X) (hG : dG h h1 o ta tu R L Sg X) : ∃ h2, iEv mX0_nameOthers [.ref h.2.1] h1 none h2 ∧ dG h h2 o ta tu R L Sg (dfN T U T.1 0 X) := by
  have z : iWp 6 mX0_nameOthers 0 [.ref h.2.1, iU, iU, iU] [] h1 (fun r h2 => r = none ∧ dG h h2 o ta tu R L Sg (dfN T U T.1 0 X)) := by
    simp only [X0_nameOthers_0, X0_nameOthers_1, iOb_some, iClr_i, iClr_r, iClr_n, iClr_u, iClr_l, rf_s, rf_n, iB_0, iSum_nil]
    exact names_loop hW T.1 0 h1 X _ _ (Nat.zero_add _) hN hG (fun h2 g => ⟨rfl, g⟩)
  obtain ⟨r, h2, ev, rfl, g⟩ := I0_nameOthers z
  exact ⟨h2, ev, g⟩
-- TAKEs
theorem takes_loop (hW : dfW h o ta tu T U) : ∀ k h1 X a2 a3, k ≤ T.1 → dK T U k (dfA1 T U) X → dG h h1 o ta tu R L Sg X → (∀ h2, dG h h2 o ta tu R L Sg (dfK T U k X) → Q none h2) → iWp 6 mX0_takeOthers 10 [.ref h.2.1, .int (dI k), a2, a3] [] h1 Q := by
  have hT := hW.2.2.2.1
  have hU := hW.2.2.2.2.1
  have t60 := hT.1.le
  have u60 := hU.1.le
  intro k
  induction k with
  | zero =>
    intro h1 X a2 a3 hk hN hG hQ
    rw [X0_takeOthers_10]
    simp only [X0_takeOthers_11, X0_takeOthers_14, X0_takeOthers_15, X0_takeOthers_18, X0_takeOthers_22, X0_takeOthers_23, X0_takeOthers_24, X0_takeOthers_27, X0_takeOthers_31, X0_takeOthers_32, X0_takeOthers_35, X0_takeOthers_36, X0_takeOthers_39, X0_takeOthers_43, X0_takeOthers_44, X0_takeOthers_45, X0_takeOthers_46, X0_takeOthers_47, X0_takeOthers_50, X0_takeOthers_54, X0_takeOthers_55, X0_takeOthers_58, X0_takeOthers_62, X0_takeOthers_63, X0_takeOthers_66, X0_takeOthers_76, X0_takeOthers_79, X0_takeOthers_82, iOb_some, iClr_i, iClr_r, iClr_n, iClr_u, iClr_l, rf_s, rf_n, iB_0, iSum_nil, dI_0, if_pos (by decide : (-1 : Int32) < 0)]
    exact hQ h1 hG
  | succ k ih =>
    intro h1 X a2 a3 hk hN hG hQ
    have hi' : k < T.1 := by omega
    have A := hG.from hW
    have B := hG.to hW
    have Z := hG.w
    have hX := hN.1.1
    have hs := dK_step hT hU hN hi'
    have hfit := fun hn j hj => dK_fit hT hU hN hi' hn (j := j) hj
    have hat := fun hn => dK_at hT hN hi' hn
    rw [X0_takeOthers_10]
    unfold dfK at hQ
    unfold dfK1 at hQ hs
    have e2 := B.whereOf (T.2.1 k)
    cases w : tWhere U.2.1 U.1 (T.2.1 k) with
    | some a =>
      rw [w] at hQ hs e2
      have ha := (tWhere_lt w).1
      simp only [X0_takeOthers_11, X0_takeOthers_14, X0_takeOthers_15, X0_takeOthers_18, X0_takeOthers_19 (A.keyAt hi') A.o, X0_takeOthers_22, X0_takeOthers_23, X0_takeOthers_24, X0_takeOthers_27, X0_takeOthers_28 e2 B.o, X0_takeOthers_31, X0_takeOthers_32, X0_takeOthers_35, X0_takeOthers_36, X0_takeOthers_39, X0_takeOthers_43, X0_takeOthers_44, X0_takeOthers_45, X0_takeOthers_46, X0_takeOthers_47, X0_takeOthers_50, X0_takeOthers_54, X0_takeOthers_55, X0_takeOthers_58, X0_takeOthers_62, X0_takeOthers_63, X0_takeOthers_66, X0_takeOthers_76, X0_takeOthers_79, iOb_some, iClr_i, iClr_r, iClr_n, iClr_u, iClr_l, rf_s, rf_n, iB_0, iSum_nil, hG.g0, hG.g1, dI_c, if_neg (nI_pos (show k < 2 ^ 31 by omega)), oI_s, if_neg (oI_ne (show a < 2 ^ 31 by omega)), dI_m]
      exact ih h1 X _ _ (by omega) hs hG hQ
    | none =>
      rw [w] at hQ hs e2
      dsimp only at hQ hs
      have hn : ¬ inT U (T.2.1 k) := by
        rintro ⟨a, a1, a2⟩
        exact tWhere_none w a1 a2
      obtain ⟨j, hj⟩ := hat hn
      have e3 := Z.whereOf (T.2.1 k)
      rw [hj] at hQ hs e3
      dsimp only at hQ hs
      have hjl := (tWhere_lt hj).1
      have hle := dK_le hT hU hs (by omega)
      have hle : X.2.1 + 1 ≤ 120 := hle
      obtain ⟨h2, c1, c2⟩ := hG.chg (e := dfT T X.1 k j) hW.1 hX (by omega) (hfit hn j hj).2.1
      have ek := ev_take (h := h1) (T.2.1 k) (X.1.2.2.1 j) (tPK X.1.2.1 X.1.2.2.2 j) (nI (tPlace X.1.2.2.2 j))
      have c1 : iEv mX0_change [.ref h.2.1, .ref h1.2.1] (eNew h1 (e7 1 (T.2.1 k) (X.1.2.2.1 j) (tPK X.1.2.1 X.1.2.2.2 j) (nI (tPlace X.1.2.2.2 j)) 0 0)) none h2 := c1
      simp only [X0_takeOthers_11, X0_takeOthers_14, X0_takeOthers_15, X0_takeOthers_18, X0_takeOthers_19 (A.keyAt hi') A.o, X0_takeOthers_22, X0_takeOthers_23, X0_takeOthers_24, X0_takeOthers_27, X0_takeOthers_28 e2 B.o, X0_takeOthers_31, X0_takeOthers_32, X0_takeOthers_35, X0_takeOthers_36, X0_takeOthers_39, X0_takeOthers_40 e3 Z.o, X0_takeOthers_43, X0_takeOthers_44, X0_takeOthers_45, X0_takeOthers_46, X0_takeOthers_47, X0_takeOthers_50, X0_takeOthers_51 (Z.labelAt hjl) Z.o, X0_takeOthers_54, X0_takeOthers_55, X0_takeOthers_58, X0_takeOthers_59 (Z.parentKeyAt hX hjl) Z.o, X0_takeOthers_62, X0_takeOthers_63, X0_takeOthers_66, X0_takeOthers_67 (Z.placeAt hX hjl) Z.o, X0_takeOthers_70 ek, X0_takeOthers_73 c1 (hG.new hW) (cat_r h1.2.1), X0_takeOthers_76, X0_takeOthers_79, iOb_some, iClr_i, iClr_r, iClr_n, iClr_u, iClr_l, rf_s, rf_n, iB_0, iSum_nil, hG.g0, hG.g1, hG.g2, dI_c, if_neg (nI_pos (show k < 2 ^ 31 by omega)), oI_n, oI_s, if_true, dI_m]
      exact ih h2 _ _ _ (by omega) hs c2 hQ
theorem ev_takeOthers (hW : dfW h o ta tu T U) (hN : dK T U T.1 (dfA1 T U) X) (hG : dG h h1 o ta tu R L Sg X) : ∃ h2, iEv mX0_takeOthers [.ref h.2.1] h1 none h2 ∧ dG h h2 o ta tu R L Sg (dfK T U T.1 X) := by
  have z : iWp 6 mX0_takeOthers 0 [.ref h.2.1, iU, iU, iU] [] h1 (fun r h2 => r = none ∧ dG h h2 o ta tu R L Sg (dfK T U T.1 X)) := by
    simp only [X0_takeOthers_0, X0_takeOthers_1, X0_takeOthers_4, X0_takeOthers_7, X0_takeOthers_8, X0_takeOthers_9, iOb_some, iClr_i, iClr_r, iClr_n, iClr_u, iClr_l, rf_s, rf_n, iB_0, iSum_nil, hG.g0, (hG.from hW).s, dI_s]
    exact takes_loop hW T.1 h1 X _ _ (Nat.le_refl _) hN hG (fun h2 g => ⟨rfl, g⟩)
  obtain ⟨r, h2, ev, rfl, g⟩ := I0_takeOthers z
  exact ⟨h2, ev, g⟩
end DIFFCL

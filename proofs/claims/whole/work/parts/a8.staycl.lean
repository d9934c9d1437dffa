/-! difference: the class marks those that stay -/
/-- ranks as far as i: r the ranks, by place in W -/
def rkI (U W : tT) (p i n : Nat) (R : Nat → Int32) (r : Nat → Nat) : Prop := n ≤ i ∧ (∀ j, j < n → R j = nI (r j) ∧ dfO U W p (r j) ∧ dfY U W (r j) < i) ∧ (∀ j j', j < j' → j' < n → dfY U W (r j) < dfY U W (r j')) ∧ ∀ c, dfO U W p c → dfY U W c < i → ∃ j, j < n ∧ r j = c
/-- lengths from k on -/
def msP (n : Nat) (r F : Nat → Nat) (q : Nat) : Prop := 1 ≤ F q ∧ F q + q ≤ n ∧ (∀ q', q < q' → q' < n → r q < r q' → F q' < F q) ∧ (F q = 1 ∨ ∃ q', q < q' ∧ q' < n ∧ r q < r q' ∧ F q = F q' + 1)
def msI (n k : Nat) (r F : Nat → Nat) (L : Nat → Int32) (lg : Nat) : Prop := (∀ q, k ≤ q → q < n → L q = nI (F q) ∧ msP n r F q ∧ F q ≤ lg) ∧ (lg = 0 ∨ ∃ q, k ≤ q ∧ q < n ∧ F q = lg)
section STAYCL
variable {h h1 h2 : iHp} {o ta tu i j k p c q a n m g lg : Nat} {R L Sg : Nat → Int32} {X : dfX} {T U W : tT} {r F : Nat → Nat} {Q : Option Value → iHp → Prop}
theorem oI_eq {o' : Option Nat} {q : Nat} (ho : ∀ x, o' = some x → x < 2 ^ 31) (hq : q < 2 ^ 31) : oI o' = nI q ↔ o' = some q := by
  cases o' with
  | none => exact ⟨fun z => absurd z.symm (oI_ne hq), fun z => (by cases z)⟩
  | some x => exact ⟨fun z => by rw [(nI_eq (ho x rfl) hq).mp z], fun z => by cases z; rfl⟩
theorem dfY_of (hw : tWhere W.2.1 W.1 (U.2.1 c) = some i) : dfY U W c = i := by
  unfold dfY
  rw [hw]
theorem rank_loop (hW : dfW h o ta tu T U) (hX : tOk X.1) (hp : p < U.1) (hg : tWhere X.1.2.1 X.1.1 (U.2.1 p) = some g) : ∀ k i n R r h1 a6, i + k = tEnd X.1.2.2.2 X.1.1 g → g < i → rkI U X.1 p i n R r → dG h h1 o ta tu R L Sg X → (∀ h2 n R r, rkI U X.1 p (tEnd X.1.2.2.2 X.1.1 g) n R r → dG h h2 o ta tu R L Sg X → Q (some (.int (nI n))) h2) → iWp 3 mX0_rankChildren 33 [.ref h.2.1, .int (nI p), .int (nI g), .int (nI (tEnd X.1.2.2.2 X.1.1 g)), .int (nI n), .int (nI i), a6] [] h1 Q := by
  have hgn := (tWhere_lt hg).1
  have kg := (tWhere_lt hg).2
  have w60 := hX.1.le
  have hU := hW.2.2.2.2.1
  have u60 := hU.1.le
  have hE := tEnd_gt (D := X.1.2.2.2) hgn
  intro k
  induction k with
  | zero =>
    intro i n R r h1 a6 hi hgi hI hG hQ
    rw [X0_rankChildren_33]
    simp only [X0_rankChildren_35, X0_rankChildren_36, X0_rankChildren_39, X0_rankChildren_41, X0_rankChildren_43, X0_rankChildren_46, X0_rankChildren_47, X0_rankChildren_50, X0_rankChildren_55, X0_rankChildren_56, X0_rankChildren_59, X0_rankChildren_63, X0_rankChildren_64, X0_rankChildren_65, X0_rankChildren_68, X0_rankChildren_69, X0_rankChildren_72, X0_rankChildren_73, X0_rankChildren_76, X0_rankChildren_84, X0_rankChildren_86, X0_rankChildren_88, X0_rankChildren_89, X0_rankChildren_92, X0_rankChildren_93, X0_rankChildren_96, X0_rankChildren_101, X0_rankChildren_102, X0_rankChildren_105, X0_rankChildren_106, X0_rankChildren_109, X0_rankChildren_111, X0_rankChildren_113, X0_rankChildren_114, X0_rankChildren_117, X0_rankChildren_120, X0_rankChildren_123, X0_rankChildren_125, iOb_some, iClr_i, iClr_r, iClr_n, iClr_u, iClr_l, rf_s, rf_n, iB_0, iSum_nil, if_pos (nI_le (show tEnd X.1.2.2.2 X.1.1 g ≤ i by omega) (show i < 2 ^ 31 by omega))]
    have e : i = tEnd X.1.2.2.2 X.1.1 g := by omega
    rw [e] at hI
    exact hQ h1 n R r hI hG
  | succ k ih =>
    intro i n R r h1 a6 hi hgi hI hG hQ
    have A := hG.w
    have B := hG.to hW
    have hin : i < X.1.1 := by omega
    have hch := child_iff hX hgn hgi (show i < tEnd X.1.2.2.2 X.1.1 g by omega)
    obtain ⟨i1, i2, i3, i4⟩ := id hI
    have c1 : ¬ nI (tEnd X.1.2.2.2 X.1.1 g) ≤ nI i := nI_ge (by omega) (by omega)
    have c2 : ¬ (80 : Int32) ≤ nI n := nI_ge (a := n) (b := 80) (by omega) (by decide)
    -- those of i alone
    have only : ∀ c, dfO U X.1 p c → dfY U X.1 c = i → tPar X.1.2.2.2 i = some g ∧ X.1.2.1 i = U.2.1 c := by
      rintro c ⟨o1, o2, i', g', o3, o4, o5⟩ hy
      rw [hg] at o4
      cases o4
      rw [dfY_of o3] at hy
      subst hy
      exact ⟨o5, (tWhere_lt o3).2⟩
    have keep : (∀ c, dfO U X.1 p c → dfY U X.1 c ≠ i) → rkI U X.1 p (i + 1) n R r := fun hno => ⟨by omega, fun j hj => ⟨(i2 j hj).1, (i2 j hj).2.1, by have := (i2 j hj).2.2; omega⟩, i3, fun c hc hy => i4 c hc (by have := hno c hc; omega)⟩
    rw [X0_rankChildren_33]
    by_cases z : X.1.2.2.2 i = X.1.2.2.2 g + 1
    · have hpi := hch.mp z
      have e3 := B.whereOf (X.1.2.1 i)
      cases w : tWhere U.2.1 U.1 (X.1.2.1 i) with
      | none =>
        rw [w] at e3
        simp only [X0_rankChildren_35, X0_rankChildren_36, X0_rankChildren_39, X0_rankChildren_41, X0_rankChildren_43, X0_rankChildren_46, X0_rankChildren_47, X0_rankChildren_50, X0_rankChildren_52 (A.depthAt hin) A.o, X0_rankChildren_55, X0_rankChildren_56, X0_rankChildren_59, X0_rankChildren_60 (A.depthAt hgn) A.o, X0_rankChildren_63, X0_rankChildren_64, X0_rankChildren_65, X0_rankChildren_68, X0_rankChildren_69, X0_rankChildren_72, X0_rankChildren_73, X0_rankChildren_76, X0_rankChildren_78 (A.keyAt hin) A.o, X0_rankChildren_81 e3 B.o, X0_rankChildren_84, X0_rankChildren_86, X0_rankChildren_88, X0_rankChildren_89, X0_rankChildren_92, X0_rankChildren_93, X0_rankChildren_96, X0_rankChildren_101, X0_rankChildren_102, X0_rankChildren_105, X0_rankChildren_106, X0_rankChildren_109, X0_rankChildren_111, X0_rankChildren_113, X0_rankChildren_114, X0_rankChildren_117, X0_rankChildren_120, iOb_some, iClr_i, iClr_r, iClr_n, iClr_u, iClr_l, rf_s, rf_n, iB_0, iSum_nil, if_neg c1, if_neg c2, hG.g1, hG.g2, if_pos z, oI_n, if_true, nI_1]
        refine ih (i + 1) n R r h1 _ (by omega) (by omega) (keep (fun c hc hy => ?_)) hG hQ
        exact tWhere_none w hc.1 (only c hc hy).2.symm
      | some c =>
        rw [w] at e3
        have hc := tWhere_lt w
        have e4 := B.parentAt hU hc.1
        have eq := oI_eq (o' := tPar U.2.2.2 c) (q := p) (fun x hx => by have := tPar_lt hU hc.1 hx; omega) (by omega)
        have w2 : tWhere X.1.2.1 X.1.1 (U.2.1 c) = some i := tWhere_at hX.1 hin hc.2.symm
        by_cases y : tPar U.2.2.2 c = some p
        · obtain ⟨h2, s1, s2⟩ := hG.sR hW.1 (show n < 80 by omega) (nI c)
          simp only [X0_rankChildren_35, X0_rankChildren_36, X0_rankChildren_39, X0_rankChildren_41, X0_rankChildren_43, X0_rankChildren_46, X0_rankChildren_47, X0_rankChildren_50, X0_rankChildren_52 (A.depthAt hin) A.o, X0_rankChildren_55, X0_rankChildren_56, X0_rankChildren_59, X0_rankChildren_60 (A.depthAt hgn) A.o, X0_rankChildren_63, X0_rankChildren_64, X0_rankChildren_65, X0_rankChildren_68, X0_rankChildren_69, X0_rankChildren_72, X0_rankChildren_73, X0_rankChildren_76, X0_rankChildren_78 (A.keyAt hin) A.o, X0_rankChildren_81 e3 B.o, X0_rankChildren_84, X0_rankChildren_86, X0_rankChildren_88, X0_rankChildren_89, X0_rankChildren_92, X0_rankChildren_93, X0_rankChildren_96, X0_rankChildren_98 e4 B.o, X0_rankChildren_101, X0_rankChildren_102, X0_rankChildren_105, X0_rankChildren_106, X0_rankChildren_109, X0_rankChildren_111, X0_rankChildren_113, X0_rankChildren_114, X0_rankChildren_117, X0_rankChildren_120, iOb_some, iClr_i, iClr_r, iClr_n, iClr_u, iClr_l, rf_s, rf_n, iB_0, iSum_nil, if_neg c1, if_neg c2, hG.g1, hG.g2, hG.g4, if_pos z, oI_s, if_neg (oI_ne (show c < 2 ^ 31 by omega)), if_pos (eq.mpr y), s1, nI_1]
          refine ih (i + 1) (n + 1) (upd R n (nI c)) (va_up r n c) h2 _ (by omega) (by omega) ⟨by omega, fun j hj => ?_, fun j j' hj hj' => ?_, fun c' hc' hy' => ?_⟩ s2 hQ
          · unfold upd va_up
            by_cases cj : j = n
            · rw [if_pos cj, if_pos cj]
              exact ⟨rfl, ⟨hc.1, y, i, g, w2, hg, hpi⟩, by rw [dfY_of w2]; omega⟩
            · rw [if_neg cj, if_neg cj]
              have := i2 j (by omega)
              exact ⟨this.1, this.2.1, by omega⟩
          · unfold va_up
            rw [if_neg (show j ≠ n by omega)]
            by_cases cj : j' = n
            · rw [if_pos cj, dfY_of w2]
              exact (i2 j (by omega)).2.2
            · rw [if_neg cj]
              exact i3 j j' hj (by omega)
          · unfold va_up
            rcases Nat.lt_or_ge (dfY U X.1 c') i with v | v
            · obtain ⟨j, j1, j2⟩ := i4 c' hc' v
              exact ⟨j, by omega, by rw [if_neg (by omega)]; exact j2⟩
            · refine ⟨n, by omega, ?_⟩
              rw [if_pos rfl]
              have := (only c' hc' (by omega)).2
              exact hU.1.inj hc.1 hc'.1 (hc.2.trans this)
        · simp only [X0_rankChildren_35, X0_rankChildren_36, X0_rankChildren_39, X0_rankChildren_41, X0_rankChildren_43, X0_rankChildren_46, X0_rankChildren_47, X0_rankChildren_50, X0_rankChildren_52 (A.depthAt hin) A.o, X0_rankChildren_55, X0_rankChildren_56, X0_rankChildren_59, X0_rankChildren_60 (A.depthAt hgn) A.o, X0_rankChildren_63, X0_rankChildren_64, X0_rankChildren_65, X0_rankChildren_68, X0_rankChildren_69, X0_rankChildren_72, X0_rankChildren_73, X0_rankChildren_76, X0_rankChildren_78 (A.keyAt hin) A.o, X0_rankChildren_81 e3 B.o, X0_rankChildren_84, X0_rankChildren_86, X0_rankChildren_88, X0_rankChildren_89, X0_rankChildren_92, X0_rankChildren_93, X0_rankChildren_96, X0_rankChildren_98 e4 B.o, X0_rankChildren_101, X0_rankChildren_102, X0_rankChildren_105, X0_rankChildren_106, X0_rankChildren_109, X0_rankChildren_111, X0_rankChildren_113, X0_rankChildren_114, X0_rankChildren_117, X0_rankChildren_120, iOb_some, iClr_i, iClr_r, iClr_n, iClr_u, iClr_l, rf_s, rf_n, iB_0, iSum_nil, if_neg c1, if_neg c2, hG.g1, hG.g2, hG.g4, if_pos z, oI_s, if_neg (oI_ne (show c < 2 ^ 31 by omega)), if_neg (fun v => y (eq.mp v)), nI_1]
          refine ih (i + 1) n R r h1 _ (by omega) (by omega) (keep (fun c' hc' hy => ?_)) hG hQ
          have := (only c' hc' hy).2
          have : c = c' := hU.1.inj hc.1 hc'.1 (hc.2.trans this)
          rw [← this] at hc'
          exact y hc'.2.1
    · simp only [X0_rankChildren_35, X0_rankChildren_36, X0_rankChildren_39, X0_rankChildren_41, X0_rankChildren_43, X0_rankChildren_46, X0_rankChildren_47, X0_rankChildren_50, X0_rankChildren_52 (A.depthAt hin) A.o, X0_rankChildren_55, X0_rankChildren_56, X0_rankChildren_59, X0_rankChildren_60 (A.depthAt hgn) A.o, X0_rankChildren_63, X0_rankChildren_64, X0_rankChildren_65, X0_rankChildren_68, X0_rankChildren_69, X0_rankChildren_72, X0_rankChildren_73, X0_rankChildren_76, X0_rankChildren_84, X0_rankChildren_86, X0_rankChildren_88, X0_rankChildren_89, X0_rankChildren_92, X0_rankChildren_93, X0_rankChildren_96, X0_rankChildren_101, X0_rankChildren_102, X0_rankChildren_105, X0_rankChildren_106, X0_rankChildren_109, X0_rankChildren_111, X0_rankChildren_113, X0_rankChildren_114, X0_rankChildren_117, X0_rankChildren_120, iOb_some, iClr_i, iClr_r, iClr_n, iClr_u, iClr_l, rf_s, rf_n, iB_0, iSum_nil, if_neg c1, if_neg c2, hG.g1, hG.g2, if_neg z, nI_1]
      refine ih (i + 1) n R r h1 _ (by omega) (by omega) (keep (fun c hc hy => z (hch.mpr (only c hc hy).1))) hG hQ
/-- all that may stay, by place in W -/
def rkZ (U W : tT) (p n : Nat) (R : Nat → Int32) (r : Nat → Nat) : Prop := n ≤ 60 ∧ (∀ j, j < n → R j = nI (r j) ∧ dfO U W p (r j)) ∧ (∀ j j', j < j' → j' < n → dfY U W (r j) < dfY U W (r j')) ∧ ∀ c, dfO U W p c → ∃ j, j < n ∧ r j = c
theorem ev_rankChildren (hW : dfW h o ta tu T U) (hX : tOk X.1) (hp : p < U.1) (hg : tWhere X.1.2.1 X.1.1 (U.2.1 p) = some g) (hG : dG h h1 o ta tu R L Sg X) : ∃ h2 n R r, iEv mX0_rankChildren [.ref h.2.1, .int (nI p)] h1 (some (.int (nI n))) h2 ∧ rkZ U X.1 p n R r ∧ dG h h2 o ta tu R L Sg X := by
  have hgn := (tWhere_lt hg).1
  have w60 := hX.1.le
  have hE := tEnd_gt (D := X.1.2.2.2) hgn
  have A := hG.w
  have B := hG.to hW
  have z : iWp 3 mX0_rankChildren 0 [.ref h.2.1, .int (nI p), iU, iU, iU, iU, iU] [] h1 (fun v h2 => ∃ n R r, v = some (.int (nI n)) ∧ rkZ U X.1 p n R r ∧ dG h h2 o ta tu R L Sg X) := by
    have e1 := A.whereOf (U.2.1 p)
    rw [hg] at e1
    simp only [X0_rankChildren_0, X0_rankChildren_1, X0_rankChildren_4, X0_rankChildren_5, X0_rankChildren_8, X0_rankChildren_9 (B.keyAt hp) B.o, X0_rankChildren_12 e1 A.o, X0_rankChildren_15, X0_rankChildren_16, X0_rankChildren_17, X0_rankChildren_20, X0_rankChildren_21 (A.endOf hX hgn) A.o, X0_rankChildren_24, X0_rankChildren_25, X0_rankChildren_26, X0_rankChildren_28, X0_rankChildren_29, X0_rankChildren_30, X0_rankChildren_31, iOb_some, iClr_i, iClr_r, iClr_n, iClr_u, iClr_l, rf_s, rf_n, iB_0, iSum_nil, hG.g1, hG.g2, oI_s, nI_1]
    refine rank_loop hW hX hp hg (tEnd X.1.2.2.2 X.1.1 g - (g + 1)) (g + 1) 0 R (fun _ => 0) h1 _ (by omega) (by omega) ⟨Nat.zero_le _, fun j hj => absurd hj (Nat.not_lt_zero j), fun j j' _ hj => absurd hj (Nat.not_lt_zero j'), fun c hc hy => ?_⟩ hG (fun h2 n R r hI g2 => ⟨n, R, r, rfl, ⟨?_, fun j hj => ⟨(hI.2.1 j hj).1, (hI.2.1 j hj).2.1⟩, hI.2.2.1, fun c hc => hI.2.2.2 c hc ?_⟩, g2⟩)
    · obtain ⟨o1, o2, i, g', o3, o4, o5⟩ := hc
      rw [hg] at o4
      cases o4
      rw [dfY_of o3] at hy
      have := tPar_lt hX (tWhere_lt o3).1 o5
      omega
    · have := hI.1
      omega
    · obtain ⟨o1, o2, i, g', o3, o4, o5⟩ := hc
      rw [hg] at o4
      cases o4
      rw [dfY_of o3]
      exact tPar_end hX (tWhere_lt o3).1 o5
  obtain ⟨v, h2, ev, n, R, r, rfl, g1, g2⟩ := I0_rankChildren z
  exact ⟨h2, n, R, r, ev, g1, g2⟩
-- the lengths
theorem meas_in (hW : dfW h o ta tu T U) (hn : n ≤ 60) (hR : ∀ j, j < n → R j = nI (r j) ∧ r j < 80) (hi : i < n) (hF : ∀ q, i < q → q < n → 1 ≤ F q ∧ F q + q ≤ n) {a2 : Value} : ∀ k j v h1 L, j + k = n → i < j → v + i ≤ n → L i = nI v → (∀ q, i < q → q < n → L q = nI (F q)) → dG h h1 o ta tu R L Sg X → (∀ h2 L', L' i = nI (lnJ r F i k j v) → (∀ q, q ≠ i → L' q = L q) → dG h h2 o ta tu R L' Sg X → ∀ a4, iWp 1 mX0_measureRisingRows 81 [.ref h.2.1, .int (nI n), a2, .int (nI i), a4] [] h2 Q) → iWp 1 mX0_measureRisingRows 22 [.ref h.2.1, .int (nI n), a2, .int (nI i), .int (nI j)] [] h1 Q := by
  intro k
  induction k with
  | zero =>
    intro j v h1 L hj hij hv hL hL2 hG hQ
    rw [X0_measureRisingRows_22]
    simp only [X0_measureRisingRows_24, X0_measureRisingRows_25, X0_measureRisingRows_28, X0_measureRisingRows_29, X0_measureRisingRows_32, X0_measureRisingRows_34, X0_measureRisingRows_35, X0_measureRisingRows_36, X0_measureRisingRows_39, X0_measureRisingRows_40, X0_measureRisingRows_41, X0_measureRisingRows_44, X0_measureRisingRows_45, X0_measureRisingRows_48, X0_measureRisingRows_50, X0_measureRisingRows_51, X0_measureRisingRows_52, X0_measureRisingRows_55, X0_measureRisingRows_56, X0_measureRisingRows_57, X0_measureRisingRows_60, X0_measureRisingRows_61, X0_measureRisingRows_64, X0_measureRisingRows_65, X0_measureRisingRows_66, X0_measureRisingRows_69, X0_measureRisingRows_71, X0_measureRisingRows_72, X0_measureRisingRows_73, X0_measureRisingRows_74, X0_measureRisingRows_75, X0_measureRisingRows_78, iOb_some, iClr_i, iClr_r, iClr_n, iClr_u, iClr_l, rf_s, rf_n, iB_0, iSum_nil, if_pos (nI_le (show n ≤ j by omega) (show j < 2 ^ 31 by omega))]
    exact hQ h1 L hL (fun q _ => rfl) hG _
  | succ k ih =>
    intro j v h1 L hj hij hv hL hL2 hG hQ
    have hjn : j < n := by omega
    have hRi := hR i hi
    have hRj := hR j hjn
    have hFj := hF j hij hjn
    have hLj := hL2 j hij hjn
    unfold lnJ at hQ
    rw [X0_measureRisingRows_22]
    by_cases c1 : r i < r j
    · by_cases c2 : v ≤ F j
      · obtain ⟨h2, s1, s2⟩ := hG.sL hW.1 (show i < 80 by omega) (nI (F j + 1))
        rw [if_pos ⟨c1, c2⟩] at hQ
        simp only [X0_measureRisingRows_24, X0_measureRisingRows_25, X0_measureRisingRows_28, X0_measureRisingRows_29, X0_measureRisingRows_32, X0_measureRisingRows_34, X0_measureRisingRows_35, X0_measureRisingRows_36, X0_measureRisingRows_39, X0_measureRisingRows_40, X0_measureRisingRows_41, X0_measureRisingRows_44, X0_measureRisingRows_45, X0_measureRisingRows_48, X0_measureRisingRows_50, X0_measureRisingRows_51, X0_measureRisingRows_52, X0_measureRisingRows_55, X0_measureRisingRows_56, X0_measureRisingRows_57, X0_measureRisingRows_60, X0_measureRisingRows_61, X0_measureRisingRows_64, X0_measureRisingRows_65, X0_measureRisingRows_66, X0_measureRisingRows_69, X0_measureRisingRows_71, X0_measureRisingRows_72, X0_measureRisingRows_73, X0_measureRisingRows_74, X0_measureRisingRows_75, X0_measureRisingRows_78, iOb_some, iClr_i, iClr_r, iClr_n, iClr_u, iClr_l, rf_s, rf_n, iB_0, iSum_nil, if_neg (nI_ge hjn (show n < 2 ^ 31 by omega)), hG.g4, hG.g5, hG.lR (show i < 80 by omega), hG.lR (show j < 80 by omega), hRi.1, hRj.1, if_neg (nI_ge c1 (show r j < 2 ^ 31 by omega)), hG.lL (show i < 80 by omega), hG.lL (show j < 80 by omega), hL, hLj, if_neg (nI_nlt c2 (show F j < 2 ^ 31 by omega)), nI_1, s1]
        refine ih (j + 1) (F j + 1) h2 _ (by omega) (by omega) (by omega) (if_pos rfl) (fun q q1 q2 => (if_neg (by omega)).trans (hL2 q q1 q2)) s2 (fun h3 L' l1 l2 g3 a4 => hQ h3 L' l1 (fun q hq => (l2 q hq).trans (if_neg hq)) g3 a4)
      · rw [if_neg (fun z => c2 z.2)] at hQ
        simp only [X0_measureRisingRows_24, X0_measureRisingRows_25, X0_measureRisingRows_28, X0_measureRisingRows_29, X0_measureRisingRows_32, X0_measureRisingRows_34, X0_measureRisingRows_35, X0_measureRisingRows_36, X0_measureRisingRows_39, X0_measureRisingRows_40, X0_measureRisingRows_41, X0_measureRisingRows_44, X0_measureRisingRows_45, X0_measureRisingRows_48, X0_measureRisingRows_50, X0_measureRisingRows_51, X0_measureRisingRows_52, X0_measureRisingRows_55, X0_measureRisingRows_56, X0_measureRisingRows_57, X0_measureRisingRows_60, X0_measureRisingRows_61, X0_measureRisingRows_64, X0_measureRisingRows_65, X0_measureRisingRows_66, X0_measureRisingRows_69, X0_measureRisingRows_71, X0_measureRisingRows_72, X0_measureRisingRows_73, X0_measureRisingRows_74, X0_measureRisingRows_75, X0_measureRisingRows_78, iOb_some, iClr_i, iClr_r, iClr_n, iClr_u, iClr_l, rf_s, rf_n, iB_0, iSum_nil, if_neg (nI_ge hjn (show n < 2 ^ 31 by omega)), hG.g4, hG.g5, hG.lR (show i < 80 by omega), hG.lR (show j < 80 by omega), hRi.1, hRj.1, if_neg (nI_ge c1 (show r j < 2 ^ 31 by omega)), hG.lL (show i < 80 by omega), hG.lL (show j < 80 by omega), hL, hLj, if_pos (nI_lt (show F j < v by omega) (show v < 2 ^ 31 by omega)), nI_1]
        exact ih (j + 1) v h1 L (by omega) (by omega) hv hL hL2 hG hQ
    · rw [if_neg (fun z => c1 z.1)] at hQ
      simp only [X0_measureRisingRows_24, X0_measureRisingRows_25, X0_measureRisingRows_28, X0_measureRisingRows_29, X0_measureRisingRows_32, X0_measureRisingRows_34, X0_measureRisingRows_35, X0_measureRisingRows_36, X0_measureRisingRows_39, X0_measureRisingRows_40, X0_measureRisingRows_41, X0_measureRisingRows_44, X0_measureRisingRows_45, X0_measureRisingRows_48, X0_measureRisingRows_50, X0_measureRisingRows_51, X0_measureRisingRows_52, X0_measureRisingRows_55, X0_measureRisingRows_56, X0_measureRisingRows_57, X0_measureRisingRows_60, X0_measureRisingRows_61, X0_measureRisingRows_64, X0_measureRisingRows_65, X0_measureRisingRows_66, X0_measureRisingRows_69, X0_measureRisingRows_71, X0_measureRisingRows_72, X0_measureRisingRows_73, X0_measureRisingRows_74, X0_measureRisingRows_75, X0_measureRisingRows_78, iOb_some, iClr_i, iClr_r, iClr_n, iClr_u, iClr_l, rf_s, rf_n, iB_0, iSum_nil, if_neg (nI_ge hjn (show n < 2 ^ 31 by omega)), hG.g4, hG.g5, hG.lR (show i < 80 by omega), hG.lR (show j < 80 by omega), hRi.1, hRj.1, if_pos (nI_le (show r j ≤ r i by omega) (show r i < 2 ^ 31 by omega)), nI_1]
      exact ih (j + 1) v h1 L (by omega) (by omega) hv hL hL2 hG hQ
theorem msI_step (hk : k < n) (hI : msI n (k + 1) r F L lg) : msI n k r (va_up F k (lnJ r F k (n - (k + 1)) (k + 1) 1)) (upd L k (nI (lnJ r F k (n - (k + 1)) (k + 1) 1))) (if lg < lnJ r F k (n - (k + 1)) (k + 1) 1 then lnJ r F k (n - (k + 1)) (k + 1) 1 else lg) := by
  obtain ⟨i1, i2⟩ := hI
  obtain ⟨s1, s2, s3⟩ := lnJ_spec (R := r) (A := F) (i := k) (n - (k + 1)) (k + 1) 1
  generalize lnJ r F k (n - (k + 1)) (k + 1) 1 = v at s1 s2 s3 ⊢
  have vk : va_up F k v k = v := if_pos rfl
  have vq : ∀ q, q ≠ k → va_up F k v q = F q := fun q hq => if_neg hq
  refine ⟨fun q h1 h2 => ?_, ?_⟩
  · by_cases cq : q = k
    · subst cq
      rw [vk]
      refine ⟨if_pos rfl, ⟨by omega, ?_, fun q' q1 q2 q3 => ?_, ?_⟩, by split <;> omega⟩
      · rcases s3 with z | ⟨q', z1, z2, z3, z4⟩
        · omega
        · have := (i1 q' z1 (by omega)).2.1.2.1
          omega
      · rw [vq q' (by omega), vk]
        exact s2 q' (by omega) (by omega) q3
      · rw [vk]
        rcases s3 with z | ⟨q', z1, z2, z3, z4⟩
        · exact Or.inl z
        · exact Or.inr ⟨q', by omega, by omega, z3, by rw [vq q' (by omega)]; exact z4⟩
    · have := i1 q (by omega) h2
      rw [vq q cq]
      refine ⟨(if_neg cq).trans this.1, ⟨by rw [vq q cq]; exact this.2.1.1, by rw [vq q cq]; exact this.2.1.2.1, fun q' q1 q2 q3 => ?_, ?_⟩, by have := this.2.2; split <;> omega⟩
      · rw [vq q' (by omega), vq q cq]
        exact this.2.1.2.2.1 q' q1 q2 q3
      · rw [vq q cq]
        rcases this.2.1.2.2.2 with z | ⟨q', z1, z2, z3, z4⟩
        · exact Or.inl z
        · exact Or.inr ⟨q', z1, z2, z3, by rw [vq q' (by omega)]; exact z4⟩
  · by_cases c : lg < v
    · rw [if_pos c]
      exact Or.inr ⟨k, Nat.le_refl k, hk, vk⟩
    · rw [if_neg c]
      rcases i2 with z | ⟨q, z1, z2, z3⟩
      · exact Or.inl z
      · exact Or.inr ⟨q, by omega, z2, by rw [vq q (by omega)]; exact z3⟩
theorem i_maxN {a b : Nat} (hb : b < 2 ^ 31) (ha : a < 2 ^ 31) : (if nI a < nI b then nI b else nI a) = nI (if a < b then b else a) := by
  by_cases c : a < b
  · rw [if_pos c, if_pos (nI_lt c hb)]
  · rw [if_neg c, if_neg (nI_nlt (by omega) ha)]
end STAYCL

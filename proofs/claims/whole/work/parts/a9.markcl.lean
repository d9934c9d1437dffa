/-! difference: the class marks, brings, drafts -/
section MARKCL
variable {h h1 h2 : iHp} {o ta tu i j k p c q a n m g lg w A : Nat} {R L Sg : Nat → Int32} {X : dfX} {T U W : tT} {r F : Nat → Nat} {l ah : Option Nat} {Q : Option Value → iHp → Prop} {S : Nat → Bool}
theorem meas_loop (hW : dfW h o ta tu T U) (hn : n ≤ 60) (hR : ∀ j, j < n → R j = nI (r j) ∧ r j < 80) : ∀ k F L lg h1 a4, k ≤ n → lg ≤ 60 → msI n k r F L lg → dG h h1 o ta tu R L Sg X → (∀ h2 F L lg, msI n 0 r F L lg → dG h h2 o ta tu R L Sg X → Q (some (.int (nI lg))) h2) → iWp 1 mX0_measureRisingRows 6 [.ref h.2.1, .int (nI n), .int (nI lg), .int (dI k), a4] [] h1 Q := by
  intro k
  induction k with
  | zero =>
    intro F L lg h1 a4 hk hl hI hG hQ
    rw [X0_measureRisingRows_6]
    simp only [X0_measureRisingRows_7, X0_measureRisingRows_10, X0_measureRisingRows_11, X0_measureRisingRows_14, X0_measureRisingRows_15, X0_measureRisingRows_16, X0_measureRisingRows_17, X0_measureRisingRows_18, X0_measureRisingRows_19, X0_measureRisingRows_20, iOb_some, iClr_i, iClr_r, iClr_n, iClr_u, iClr_l, rf_s, rf_n, iB_0, iSum_nil, dI_0, if_pos (by decide : (-1 : Int32) < 0)]
    simp only [X0_measureRisingRows_98, X0_measureRisingRows_99, iOb_some, iClr_i, iClr_r, iClr_n, iClr_u, iClr_l, rf_s, rf_n, iB_0, iSum_nil]
    exact hQ h1 F L lg hI hG
  | succ k ih =>
    intro F L lg h1 a4 hk hl hI hG hQ
    obtain ⟨h2, s1, s2⟩ := hG.sL hW.1 (show k < 80 by omega) 1
    rw [X0_measureRisingRows_6]
    simp only [X0_measureRisingRows_7, X0_measureRisingRows_10, X0_measureRisingRows_11, X0_measureRisingRows_14, X0_measureRisingRows_15, X0_measureRisingRows_16, X0_measureRisingRows_17, X0_measureRisingRows_18, X0_measureRisingRows_19, X0_measureRisingRows_20, iOb_some, iClr_i, iClr_r, iClr_n, iClr_u, iClr_l, rf_s, rf_n, iB_0, iSum_nil, hG.g5, dI_c, if_neg (nI_pos (show k < 2 ^ 31 by omega)), s1, nI_1]
    refine meas_in hW hn hR (show k < n by omega) (fun q q1 q2 => ⟨(hI.1 q (by omega) q2).2.1.1, (hI.1 q (by omega) q2).2.1.2.1⟩) (n - (k + 1)) (k + 1) 1 h2 _ (by omega) (by omega) (by omega) (if_pos rfl) (fun q q1 q2 => (if_neg (by omega)).trans (hI.1 q (by omega) q2).1) s2 (fun h3 L' l1 l2 g3 a4 => ?_)
    have hs := msI_step (n := n) (k := k) (by omega) hI
    have eL : L' = upd L k (nI (lnJ r F k (n - (k + 1)) (k + 1) 1)) := by
      funext q
      unfold upd
      by_cases cq : q = k
      · rw [if_pos cq, cq]
        exact l1
      · rw [if_neg cq, l2 q cq]
        exact if_neg cq
    rw [← eL] at hs
    have hvk : lnJ r F k (n - (k + 1)) (k + 1) 1 ≤ 60 := by
      have := (hs.1 k (Nat.le_refl k) (by omega)).2.1.2.1
      rw [show va_up F k (lnJ r F k (n - (k + 1)) (k + 1) 1) k = lnJ r F k (n - (k + 1)) (k + 1) 1 from if_pos rfl] at this
      omega
    generalize lnJ r F k (n - (k + 1)) (k + 1) 1 = v at hs l1 hvk
    simp only [X0_measureRisingRows_81, X0_measureRisingRows_82, X0_measureRisingRows_83, X0_measureRisingRows_86, X0_measureRisingRows_87, X0_measureRisingRows_88, X0_measureRisingRows_91, X0_measureRisingRows_92, X0_measureRisingRows_95, iOb_some, iClr_i, iClr_r, iClr_n, iClr_u, iClr_l, rf_s, rf_n, iB_0, iSum_nil, g3.g5, g3.lL (show k < 80 by omega), l1, iSum_nil, i_maxN (show v < 2 ^ 31 by omega) (show lg < 2 ^ 31 by omega), dI_m]
    exact ih _ L' _ h3 _ (by omega) (by split <;> omega) hs g3 hQ
theorem ev_measure (hW : dfW h o ta tu T U) (hn : n ≤ 60) (hR : ∀ j, j < n → R j = nI (r j) ∧ r j < 80) (hG : dG h h1 o ta tu R L Sg X) : ∃ h2 F L lg, iEv mX0_measureRisingRows [.ref h.2.1, .int (nI n)] h1 (some (.int (nI lg))) h2 ∧ msI n 0 r F L lg ∧ dG h h2 o ta tu R L Sg X := by
  have z : iWp 1 mX0_measureRisingRows 0 [.ref h.2.1, .int (nI n), iU, iU, iU] [] h1 (fun v h2 => ∃ F L lg, v = some (.int (nI lg)) ∧ msI n 0 r F L lg ∧ dG h h2 o ta tu R L Sg X) := by
    simp only [X0_measureRisingRows_0, X0_measureRisingRows_1, X0_measureRisingRows_2, X0_measureRisingRows_3, X0_measureRisingRows_4, X0_measureRisingRows_5, iOb_some, iClr_i, iClr_r, iClr_n, iClr_u, iClr_l, rf_s, rf_n, iB_0, iSum_nil, dI_s]
    exact meas_loop hW hn hR n (fun _ => 0) L 0 h1 _ (Nat.le_refl n) (by omega) ⟨fun q q1 q2 => by omega, Or.inl rfl⟩ hG (fun h2 F L lg hI g2 => ⟨F, L, lg, rfl, hI, g2⟩)
  obtain ⟨v, h2, ev, F, L, lg, rfl, g1, g2⟩ := I0_measureRisingRows z
  exact ⟨h2, F, L, lg, ev, g1, g2⟩
-- picking
abbrev iN0 (n : Nat) : Nat → Prop := fun j => j < n
abbrev iId : Nat → Nat := fun j => j
theorem msI_lnF (hI : msI n 0 r F L lg) : lnF (iN0 n) r iId F ∧ pkM (iN0 n) F lg := by
  refine ⟨fun p hp => ?_, fun q hq => (hI.1 q (Nat.zero_le _) hq).2.2, ?_⟩
  · obtain ⟨a1, a2, a3, a4⟩ := (hI.1 p (Nat.zero_le _) hp).2.1
    refine ⟨a1, fun q hq hx hy => a3 q hy hq hx, ?_⟩
    rcases a4 with z | ⟨q, z1, z2, z3, z4⟩
    · exact Or.inl z
    · exact Or.inr ⟨q, z2, z3, z1, z4⟩
  · rcases hI.2 with z | ⟨q, z1, z2, z3⟩
    · exact Or.inl z
    · exact Or.inr ⟨q, z2, z3⟩
theorem mark_loop (hW : dfW h o ta tu T U) (hn : n ≤ 60) (hR : ∀ j, j < n → R j = nI (r j) ∧ r j < 80) (hL : ∀ j, j < n → L j = nI (F j)) (hF : lnF (iN0 n) r iId F) (hF60 : ∀ j, j < n → F j ≤ 60) : ∀ k i w l Sg h1, i + k = n → w ≤ 60 → (∀ a, l = some a → a < i) → (w = 0 ∨ ∃ j, i ≤ j ∧ j < n ∧ F j = w ∧ pkA r iId l j) → (∀ j, j < i → F j = w → 0 < w → ¬ pkA r iId l j) → dG h h1 o ta tu R L Sg X → (∀ h2 Sg' S, pkN (iN0 n) r iId F w l S → (∀ c, (∃ j, j < n ∧ S j ∧ r j = c) → Sg' c = 1) → (∀ c, ¬ (∃ j, j < n ∧ S j ∧ r j = c) → Sg' c = Sg c) → dG h h2 o ta tu R L Sg' X → Q none h2) → iWp 4 mX0_markStaying 18 [.ref h.2.1, .int (nI p), .int (nI n), .int (nI w), .int (oI (l.map r)), .int (nI i)] [] h1 Q := by
  intro k
  induction k with
  | zero =>
    intro i w l Sg h1 hi hw hl hex hno hG hQ
    obtain rfl : i = n := by omega
    have w0 : w = 0 := by
      rcases hex with z | ⟨j, z1, z2, -⟩
      · exact z
      · omega
    subst w0
    rw [X0_markStaying_18]
    simp only [X0_markStaying_20, X0_markStaying_21, X0_markStaying_24, X0_markStaying_25, X0_markStaying_28, X0_markStaying_30, X0_markStaying_31, X0_markStaying_32, X0_markStaying_35, X0_markStaying_36, X0_markStaying_39, X0_markStaying_41, X0_markStaying_42, X0_markStaying_44, X0_markStaying_47, X0_markStaying_48, X0_markStaying_51, X0_markStaying_53, X0_markStaying_54, X0_markStaying_56, X0_markStaying_57, X0_markStaying_60, X0_markStaying_62, X0_markStaying_63, X0_markStaying_64, X0_markStaying_67, X0_markStaying_70, X0_markStaying_73, iOb_some, iClr_i, iClr_r, iClr_n, iClr_u, iClr_l, rf_s, rf_n, iB_0, iSum_nil, if_pos (Int32.le_refl (nI i))]
    exact hQ h1 Sg (fun _ => False) (fun c hc => hc) (fun c ⟨j, _, z, _⟩ => z.elim) (fun c _ => rfl) hG
  | succ k ih =>
    intro i w l Sg h1 hi hw hl hex hno hG hQ
    have hin : i < n := by omega
    have hRi := hR i hin
    have hLi := hL i hin
    have hFi := (hF i hin).1
    have hFi60 := hF60 i hin
    have eqF : nI (F i) = nI w ↔ F i = w := nI_eq (by omega) (by omega)
    have skip : ¬ (F i = w ∧ pkA r iId l i) → (w = 0 ∨ ∃ j, i + 1 ≤ j ∧ j < n ∧ F j = w ∧ pkA r iId l j) ∧ (∀ j, j < i + 1 → F j = w → 0 < w → ¬ pkA r iId l j) := by
      intro hm
      refine ⟨?_, fun j hj h1 h2 h3 => ?_⟩
      · rcases hex with z | ⟨j, z1, z2, z3, z4⟩
        · exact Or.inl z
        · refine Or.inr ⟨j, ?_, z2, z3, z4⟩
          rcases Nat.lt_or_ge i j with v | v
          · exact v
          · obtain rfl : j = i := by omega
            exact absurd ⟨z3, z4⟩ hm
      · by_cases ji : j = i
        · rw [ji] at h1 h3
          exact hm ⟨h1, h3⟩
        · exact hno j (by omega) h1 h2 h3
    rw [X0_markStaying_18]
    by_cases c1 : F i = w
    · by_cases c2 : pkA r iId l i
      · have hlast : ¬ nI (r i) ≤ oI (l.map r) := by
          cases l with
          | none => exact Int32.not_le.mpr (Int32.lt_of_lt_of_le (by decide : (-1 : Int32) < 0) (nI_pos' (show r i < 2 ^ 31 by omega)))
          | some a => exact nI_ge (c2 a rfl).1 (by omega)
        obtain ⟨h2, s1, s2⟩ := hG.sS hW.1 hRi.2
        obtain ⟨v, rfl⟩ : ∃ v, w = v + 1 := ⟨w - 1, by omega⟩
        simp only [X0_markStaying_20, X0_markStaying_21, X0_markStaying_24, X0_markStaying_25, X0_markStaying_28, X0_markStaying_30, X0_markStaying_31, X0_markStaying_32, X0_markStaying_35, X0_markStaying_36, X0_markStaying_39, X0_markStaying_41, X0_markStaying_42, X0_markStaying_44, X0_markStaying_47, X0_markStaying_48, X0_markStaying_51, X0_markStaying_53, X0_markStaying_54, X0_markStaying_56, X0_markStaying_57, X0_markStaying_60, X0_markStaying_62, X0_markStaying_63, X0_markStaying_64, X0_markStaying_67, X0_markStaying_70, iOb_some, iClr_i, iClr_r, iClr_n, iClr_u, iClr_l, rf_s, rf_n, iB_0, iSum_nil, if_neg (nI_ge hin (show n < 2 ^ 31 by omega)), hG.g4, hG.g5, hG.g6, hG.lL (show i < 80 by omega), hG.lR (show i < 80 by omega), hLi, hRi.1, if_pos (eqF.mpr c1), if_neg hlast, s1, pk_m1, nI_1]
        refine ih (i + 1) v (some i) (upd Sg (r i) 1) h2 (by omega) (by omega) (fun a e => by cases e; exact Nat.lt_succ_self i) ?_ (fun j hj _ _ hp => by have : i < j := (hp i rfl).2; omega) s2 (fun h3 Sg' S' q1 q2 q3 g3 => ?_)
        · rcases Nat.eq_zero_or_pos v with z | z
          · exact Or.inl z
          · obtain ⟨q, n1, n2, n3⟩ := pk_next hF hin c1 z
            have : i < q := (n3 i rfl).2
            exact Or.inr ⟨q, this, n1, n2, n3⟩
        · refine hQ h3 Sg' (fun j => j = i ∨ S' j) ⟨i, ⟨hin, c1, c2, fun j j1 j2 j3 => ?_⟩, S', q1, fun c => Iff.rfl⟩ (fun c hc => ?_) (fun c hc => ?_) g3
          · show i ≤ j
            rcases Nat.lt_or_ge j i with v' | v'
            · exact absurd j3 (hno j v' j2 (by omega))
            · exact v'
          · by_cases cz : ∃ j, j < n ∧ S' j ∧ r j = c
            · exact q2 c cz
            · rw [q3 c cz]
              obtain ⟨j, j1, j2, j3⟩ := hc
              rcases j2 with z | z
              · rw [z] at j3
                exact if_pos j3.symm
              · exact absurd ⟨j, j1, z, j3⟩ cz
          · rw [q3 c (fun ⟨j, j1, j2, j3⟩ => hc ⟨j, j1, Or.inr j2, j3⟩)]
            exact if_neg (fun z => hc ⟨i, hin, Or.inl rfl, z.symm⟩)
      · have hlast : nI (r i) ≤ oI (l.map r) := by
          cases l with
          | none => exact absurd (fun a e => by cases e) c2
          | some a =>
            have ha := hl a rfl
            refine nI_le ?_ (by have := (hR a (by omega)).2; show r a < 2 ^ 31; omega)
            rcases Nat.lt_or_ge (r a) (r i) with z | z
            · exact absurd (fun b e => by cases e; exact ⟨z, ha⟩) c2
            · exact z
        obtain ⟨k1, k2⟩ := skip (fun z => c2 z.2)
        simp only [X0_markStaying_20, X0_markStaying_21, X0_markStaying_24, X0_markStaying_25, X0_markStaying_28, X0_markStaying_30, X0_markStaying_31, X0_markStaying_32, X0_markStaying_35, X0_markStaying_36, X0_markStaying_39, X0_markStaying_41, X0_markStaying_42, X0_markStaying_44, X0_markStaying_47, X0_markStaying_48, X0_markStaying_51, X0_markStaying_53, X0_markStaying_54, X0_markStaying_56, X0_markStaying_57, X0_markStaying_60, X0_markStaying_62, X0_markStaying_63, X0_markStaying_64, X0_markStaying_67, X0_markStaying_70, iOb_some, iClr_i, iClr_r, iClr_n, iClr_u, iClr_l, rf_s, rf_n, iB_0, iSum_nil, if_neg (nI_ge hin (show n < 2 ^ 31 by omega)), hG.g4, hG.g5, hG.g6, hG.lL (show i < 80 by omega), hG.lR (show i < 80 by omega), hLi, hRi.1, if_pos (eqF.mpr c1), if_pos hlast, nI_1]
        exact ih (i + 1) w l Sg h1 (by omega) hw (fun a e => by have := hl a e; omega) k1 k2 hG hQ
    · obtain ⟨k1, k2⟩ := skip (fun z => c1 z.1)
      simp only [X0_markStaying_20, X0_markStaying_21, X0_markStaying_24, X0_markStaying_25, X0_markStaying_28, X0_markStaying_30, X0_markStaying_31, X0_markStaying_32, X0_markStaying_35, X0_markStaying_36, X0_markStaying_39, X0_markStaying_41, X0_markStaying_42, X0_markStaying_44, X0_markStaying_47, X0_markStaying_48, X0_markStaying_51, X0_markStaying_53, X0_markStaying_54, X0_markStaying_56, X0_markStaying_57, X0_markStaying_60, X0_markStaying_62, X0_markStaying_63, X0_markStaying_64, X0_markStaying_67, X0_markStaying_70, iOb_some, iClr_i, iClr_r, iClr_n, iClr_u, iClr_l, rf_s, rf_n, iB_0, iSum_nil, if_neg (nI_ge hin (show n < 2 ^ 31 by omega)), hG.g5, hG.lL (show i < 80 by omega), hLi, if_neg (fun z => c1 (eqF.mp z)), nI_1]
      exact ih (i + 1) w l Sg h1 (by omega) hw (fun a e => by have := hl a e; omega) k1 k2 hG hQ
/-- what is picked is what stays -/
theorem dfS_iff {Z : Nat → Prop} (hU : tOk U) (h : pkS (dfO U W p) (fun q => q) (dfY U W) Z) : dfS U W p c = true ↔ Z c := by
  have un := fun Y (hY : pkS (dfO U W p) (fun q => q) (dfY U W) Y) => pkS_uniq (b := U.1) (fun q hq => hq.1) (fun q r hq hr e => by
    obtain ⟨q1, q2, i, g, q3, q4, q5⟩ := hq
    obtain ⟨r1, r2, i', g', r3, r4, r5⟩ := hr
    rw [dfY_of q3, dfY_of r3] at e
    subst e
    exact hU.1.inj q1 r1 ((tWhere_lt q3).2.symm.trans (tWhere_lt r3).2)) hY h c
  constructor
  · intro z
    obtain ⟨Y, y1, y2⟩ := @of_decide_eq_true _ (Classical.propDecidable _) z
    exact (un Y y1).mp y2
  · intro z
    exact @decide_eq_true _ (Classical.propDecidable _) ⟨Z, h, z⟩
theorem ev_markStaying (hW : dfW h o ta tu T U) (hX : tOk X.1) (hp : p < U.1) (hg : tWhere X.1.2.1 X.1.1 (U.2.1 p) = some g) (hG : dG h h1 o ta tu R L Sg X) : ∃ h2 R L Sg', iEv mX0_markStaying [.ref h.2.1, .int (nI p)] h1 none h2 ∧ dG h h2 o ta tu R L Sg' X ∧ ∀ c, Sg' c = if dfS U X.1 p c = true then 1 else Sg c := by
  have hU := hW.2.2.2.2.1
  have u60 := hU.1.le
  obtain ⟨h2, n, R2, r, e2, z2, g2⟩ := ev_rankChildren hW hX hp hg hG
  have hR : ∀ j, j < n → R2 j = nI (r j) ∧ r j < 80 := fun j hj => ⟨(z2.2.1 j hj).1, by have := (z2.2.1 j hj).2.1; omega⟩
  obtain ⟨h3, F, L3, lg, e3, z3, g3⟩ := ev_measure hW z2.1 hR g2
  obtain ⟨l1, l2⟩ := msI_lnF z3
  have hF60 : ∀ j, j < n → F j ≤ 60 := fun j hj => by have := (z3.1 j (Nat.zero_le _) hj).2.1.2.1; have := z2.1; omega
  have lg60 : lg ≤ 60 := by
    rcases z3.2 with z | ⟨q, q1, q2, q3⟩
    · omega
    · have := hF60 q q2
      omega
  have z : iWp 4 mX0_markStaying 0 [.ref h.2.1, .int (nI p), iU, iU, iU, iU] [] h1 (fun v h4 => v = none ∧ ∃ Sg', dG h h4 o ta tu R2 L3 Sg' X ∧ ∀ c, Sg' c = if dfS U X.1 p c = true then 1 else Sg c) := by
    simp only [X0_markStaying_0, X0_markStaying_1, X0_markStaying_2 e2 hG.ob, X0_markStaying_5, X0_markStaying_6, X0_markStaying_7, X0_markStaying_8 e3 g2.ob, X0_markStaying_11, X0_markStaying_12, X0_markStaying_13, X0_markStaying_15, X0_markStaying_16, iOb_some, iClr_i, iClr_r, iClr_n, iClr_u, iClr_l, rf_s, rf_n, iB_0, iSum_nil]
    refine mark_loop hW z2.1 hR (fun j hj => (z3.1 j (Nat.zero_le _) hj).1) l1 hF60 n 0 lg none Sg h3 (Nat.zero_add n) lg60 (fun a e => by cases e) ?_ (fun j hj => absurd hj (Nat.not_lt_zero j)) g3 (fun h4 Sg' S q1 q2 q3 g4 => ⟨rfl, Sg', g4, fun c => ?_⟩)
    · rcases l2.2 with z | ⟨q, z1, z2⟩
      · exact Or.inl z
      · exact Or.inr ⟨q, Nat.zero_le q, z1, z2, fun a e => by cases e⟩
    · have hs : pkS (iN0 n) r iId S := ⟨F, lg, l1, l2, q1⟩
      have hm := pkS_map (M := dfO U X.1 p) (u := fun q => q) (z := dfY U X.1) (r := r) (fun j hj => (z2.2.1 j hj).2) (fun c hc => z2.2.2.2 c hc) (fun i j _ _ => Iff.rfl) (fun i j hi hj => ⟨fun v => z2.2.2.1 i j v hj, fun v => by
        rcases Nat.lt_trichotomy i j with y | y | y
        · exact y
        · rw [y] at v
          exact absurd v (Nat.lt_irrefl _)
        · have := z2.2.2.1 j i y hi
          omega⟩) (fun i j hi hj e => by
        rcases Nat.lt_trichotomy i j with y | y | y
        · have := z2.2.2.1 i j y hj
          rw [e] at this
          exact absurd this (Nat.lt_irrefl _)
        · exact y
        · have := z2.2.2.1 j i y hi
          rw [e] at this
          exact absurd this (Nat.lt_irrefl _)) hs
      have hi := dfS_iff (c := c) hU hm
      by_cases y : dfS U X.1 p c = true
      · rw [if_pos y]
        exact q2 c (hi.mp y)
      · rw [if_neg y]
        exact q3 c (fun v => y (hi.mpr v))
  obtain ⟨v, h4, ev, rfl, Sg', g4, g5⟩ := I0_markStaying z
  exact ⟨h4, R2, L3, Sg', ev, g4, g5⟩
-- bringing
theorem ev_brought (hW : dfW h o ta tu T U) (hC : dC T U p c A X) (hah : dH U p c ah) (hc : c < U.1) (hpc : tPar U.2.2.2 c = some p) (hG : dG h h1 o ta tu R L Sg X) : iEv mX0_brought [.ref h.2.1, .int (nI c), .int (U.2.1 p), .int (oI ah)] h1 (some (.ref h1.2.1)) (eNew h1 (dfB U X.1 p c ah)) := by
  have hU := hW.2.2.2.2.1
  have u60 := hU.1.le
  have hX := hC.1.1
  have w60 := hX.1.le
  have hplt := tPar_lt hU hc hpc
  have hp : p < U.1 := by omega
  obtain ⟨g, g1, g2, g3⟩ := dC_par hU hC hp
  have hA := fun a ha => dC_ah hU hC hp (by omega) hah g1 (a := a) ha
  have Z := hG.w
  have B := hG.to hW
  have ec := Z.whereOf (U.2.1 c)
  -- the one ahead, and the place
  have pre : ∀ Q : Option Value → iHp → Prop, iWp 4 mX0_brought 0 [.ref h.2.1, .int (nI c), .int (U.2.1 p), .int (oI ah), iU, iU, iU, iU] [] h1 Q = iWp 4 mX0_brought 70 [.ref h.2.1, .int (nI c), .int (U.2.1 p), .int (oI ah), .int (U.2.1 c), .int (oI (tWhere X.1.2.1 X.1.1 (U.2.1 c))), .int (oI (dfA U X.1 ah)), .int (nI (bAt X.1.2.2.2 (dfA U X.1 ah)))] [] h1 Q := by
    intro Q
    cases ah with
    | none =>
      show _ = iWp 4 mX0_brought 70 [.ref h.2.1, .int (nI c), .int (U.2.1 p), .int (-1), .int (U.2.1 c), .int (oI (tWhere X.1.2.1 X.1.1 (U.2.1 c))), .int (-1), .int 0] [] h1 Q
      simp only [X0_brought_0, X0_brought_1, X0_brought_4, X0_brought_5 (B.keyAt hc) B.o, X0_brought_8, X0_brought_10, X0_brought_11, X0_brought_14, X0_brought_16 ec Z.o, X0_brought_19, X0_brought_21, X0_brought_22, X0_brought_23, X0_brought_26, X0_brought_27, X0_brought_30, X0_brought_31, X0_brought_34, X0_brought_35, X0_brought_38, X0_brought_45, X0_brought_47, X0_brought_49, X0_brought_50, X0_brought_53, X0_brought_54, X0_brought_57, X0_brought_58, X0_brought_61, X0_brought_66, X0_brought_67, X0_brought_68, iOb_some, iClr_i, iClr_r, iClr_n, iClr_u, iClr_l, rf_s, rf_n, iB_0, iSum_nil, hG.g1, hG.g2, oI_n, if_true]
    | some x =>
      have hx := hah x rfl
      have hv := hC.2.2.2.1 x p (by omega) hx.2 (Or.inr ⟨rfl, hx.1⟩)
      obtain ⟨a, a1, a2, a3, a4⟩ := vP_some hv
      have ea := Z.whereOf (U.2.1 x)
      rw [a1] at ea
      have e : dfA U X.1 (some x) = some a := a1
      rw [e]
      show _ = iWp 4 mX0_brought 70 [.ref h.2.1, .int (nI c), .int (U.2.1 p), .int (nI x), .int (U.2.1 c), .int (oI (tWhere X.1.2.1 X.1.1 (U.2.1 c))), .int (nI a), .int (nI (tPlace X.1.2.2.2 a + 1))] [] h1 Q
      simp only [X0_brought_0, X0_brought_1, X0_brought_4, X0_brought_5 (B.keyAt hc) B.o, X0_brought_8, X0_brought_10, X0_brought_11, X0_brought_14, X0_brought_16 ec Z.o, X0_brought_19, X0_brought_21, X0_brought_22, X0_brought_23, X0_brought_26, X0_brought_27, X0_brought_30, X0_brought_31, X0_brought_34, X0_brought_35, X0_brought_38, X0_brought_39 (B.keyAt (show x < U.1 by omega)) B.o, X0_brought_42 ea Z.o, X0_brought_45, X0_brought_47, X0_brought_49, X0_brought_50, X0_brought_53, X0_brought_54, X0_brought_57, X0_brought_58, X0_brought_61, X0_brought_63 (Z.placeAt hX a2) Z.o, X0_brought_66, X0_brought_67, X0_brought_68, iOb_some, iClr_i, iClr_r, iClr_n, iClr_u, iClr_l, rf_s, rf_n, iB_0, iSum_nil, hG.g1, hG.g2, oI_s, if_neg (oI_ne (show x < 2 ^ 31 by omega)), if_neg (oI_ne (show a < 2 ^ 31 by omega)), nI_1]
  refine J0_brought ?_
  rw [pre]
  have hb := bAt_le hX (o := dfA U X.1 ah) (fun a ha => (hA a ha).1)
  unfold dfB
  cases hw : tWhere X.1.2.1 X.1.1 (U.2.1 c) with
  | none =>
    simp only [X0_brought_70, X0_brought_72, X0_brought_73, X0_brought_76, X0_brought_78, X0_brought_79, X0_brought_82, X0_brought_83 (B.labelAt hc) B.o, X0_brought_86, X0_brought_87, X0_brought_89 (ev_give _ _ _ _), X0_brought_92, X0_brought_92n, iOb_some, iClr_i, iClr_r, iClr_n, iClr_u, iClr_l, rf_s, rf_n, iB_0, iSum_nil, hG.g1, oI_n, if_true, and_self]
  | some i =>
    have hi := tWhere_lt hw
    dsimp only
    rw [g1]
    have ni : ¬ nI i = -1 := oI_ne (show i < 2 ^ 31 by omega)
    cases ha : dfA U X.1 ah with
    | none =>
      have c1 : (-1 : Int32) ≤ nI i := Int32.le_of_lt (Int32.lt_of_lt_of_le (by decide : (-1 : Int32) < 0) (nI_pos' (show i < 2 ^ 31 by omega)))
      show iWp 4 mX0_brought 70 [.ref h.2.1, .int (nI c), .int (U.2.1 p), .int (oI ah), .int (U.2.1 c), .int (nI i), .int (-1), .int 0] [] h1 (fun r' h' => r' = some (.ref h1.2.1) ∧ h' = eNew h1 (e7 3 (U.2.1 c) 0 (tPK X.1.2.1 X.1.2.2.2 i) (nI (tPlace X.1.2.2.2 i)) (U.2.1 p) 0))
      simp only [X0_brought_70, X0_brought_72, X0_brought_73, X0_brought_76, X0_brought_78, X0_brought_79, X0_brought_82, X0_brought_86, X0_brought_87, X0_brought_92, X0_brought_92n, X0_brought_93, X0_brought_95, X0_brought_97, X0_brought_100, X0_brought_101, X0_brought_104, X0_brought_109, X0_brought_110, X0_brought_113, X0_brought_118, X0_brought_121, X0_brought_124, X0_brought_126, X0_brought_127, X0_brought_130, X0_brought_132 (Z.parentKeyAt hX hi.1) Z.o, X0_brought_135, X0_brought_136, X0_brought_139, X0_brought_141 (Z.placeAt hX hi.1) Z.o, X0_brought_144, X0_brought_145, X0_brought_147 (ev_move _ _ _ _ _), X0_brought_150, X0_brought_150n, iOb_some, iClr_i, iClr_r, iClr_n, iClr_u, iClr_l, rf_s, rf_n, iB_0, iSum_nil, hG.g2, if_neg ni, if_pos c1, and_self]
    | some a =>
      obtain ⟨a1, a2, a3⟩ := hA a ha
      have ea := Z.parentAt hX a1
      rw [a2] at ea
      have ei := Z.parentAt hX hi.1
      have eq := oI_eq (o' := tPar X.1.2.2.2 i) (q := g) (fun x hx => by have := tPar_lt hX hi.1 hx; omega) (by omega)
      show iWp 4 mX0_brought 70 [.ref h.2.1, .int (nI c), .int (U.2.1 p), .int (oI ah), .int (U.2.1 c), .int (nI i), .int (nI a), .int (nI (tPlace X.1.2.2.2 a + 1))] [] h1 (fun r' h' => r' = some (.ref h1.2.1) ∧ h' = eNew h1 (e7 3 (U.2.1 c) 0 (tPK X.1.2.1 X.1.2.2.2 i) (nI (tPlace X.1.2.2.2 i)) (U.2.1 p) (nI (tPlace X.1.2.2.2 a + 1 - if i < a ∧ tPar X.1.2.2.2 i = some g then 1 else 0))))
      by_cases c1 : i < a
      · by_cases c2 : tPar X.1.2.2.2 i = some g
        · rw [if_pos ⟨c1, c2⟩, Nat.add_sub_cancel]
          simp only [X0_brought_70, X0_brought_72, X0_brought_73, X0_brought_76, X0_brought_78, X0_brought_79, X0_brought_82, X0_brought_86, X0_brought_87, X0_brought_92, X0_brought_92n, X0_brought_93, X0_brought_95, X0_brought_97, X0_brought_100, X0_brought_101, X0_brought_104, X0_brought_106 ei Z.o, X0_brought_109, X0_brought_110, X0_brought_113, X0_brought_115 ea Z.o, X0_brought_118, X0_brought_121, X0_brought_124, X0_brought_126, X0_brought_127, X0_brought_130, X0_brought_132 (Z.parentKeyAt hX hi.1) Z.o, X0_brought_135, X0_brought_136, X0_brought_139, X0_brought_141 (Z.placeAt hX hi.1) Z.o, X0_brought_144, X0_brought_145, X0_brought_147 (ev_move _ _ _ _ _), X0_brought_150, X0_brought_150n, iOb_some, iClr_i, iClr_r, iClr_n, iClr_u, iClr_l, rf_s, rf_n, iB_0, iSum_nil, hG.g2, if_neg ni, if_neg (nI_ge c1 (show a < 2 ^ 31 by omega)), oI_s, if_pos (eq.mpr c2), pk_m1, and_self]
        · rw [if_neg (fun z => c2 z.2), Nat.sub_zero]
          simp only [X0_brought_70, X0_brought_72, X0_brought_73, X0_brought_76, X0_brought_78, X0_brought_79, X0_brought_82, X0_brought_86, X0_brought_87, X0_brought_92, X0_brought_92n, X0_brought_93, X0_brought_95, X0_brought_97, X0_brought_100, X0_brought_101, X0_brought_104, X0_brought_106 ei Z.o, X0_brought_109, X0_brought_110, X0_brought_113, X0_brought_115 ea Z.o, X0_brought_118, X0_brought_121, X0_brought_124, X0_brought_126, X0_brought_127, X0_brought_130, X0_brought_132 (Z.parentKeyAt hX hi.1) Z.o, X0_brought_135, X0_brought_136, X0_brought_139, X0_brought_141 (Z.placeAt hX hi.1) Z.o, X0_brought_144, X0_brought_145, X0_brought_147 (ev_move _ _ _ _ _), X0_brought_150, X0_brought_150n, iOb_some, iClr_i, iClr_r, iClr_n, iClr_u, iClr_l, rf_s, rf_n, iB_0, iSum_nil, hG.g2, if_neg ni, if_neg (nI_ge c1 (show a < 2 ^ 31 by omega)), oI_s, if_neg (fun z => c2 (eq.mp z)), and_self]
      · rw [if_neg (fun z => c1 z.1), Nat.sub_zero]
        simp only [X0_brought_70, X0_brought_72, X0_brought_73, X0_brought_76, X0_brought_78, X0_brought_79, X0_brought_82, X0_brought_86, X0_brought_87, X0_brought_92, X0_brought_92n, X0_brought_93, X0_brought_95, X0_brought_97, X0_brought_100, X0_brought_101, X0_brought_104, X0_brought_109, X0_brought_110, X0_brought_113, X0_brought_118, X0_brought_121, X0_brought_124, X0_brought_126, X0_brought_127, X0_brought_130, X0_brought_132 (Z.parentKeyAt hX hi.1) Z.o, X0_brought_135, X0_brought_136, X0_brought_139, X0_brought_141 (Z.placeAt hX hi.1) Z.o, X0_brought_144, X0_brought_145, X0_brought_147 (ev_move _ _ _ _ _), X0_brought_150, X0_brought_150n, iOb_some, iClr_i, iClr_r, iClr_n, iClr_u, iClr_l, rf_s, rf_n, iB_0, iSum_nil, hG.g2, if_neg ni, if_pos (nI_le (show a ≤ i by omega) (show i < 2 ^ 31 by omega)), and_self]
theorem bring_loop (hW : dfW h o ta tu T U) (hp : p < U.1) (hS : ∀ c, c < U.1 → tPar U.2.2.2 c = some p → Sg c = if S c = true then 1 else 0) : ∀ k c ah X h1, c + k = tEnd U.2.2.2 U.1 p → p < c → dC T U p c (dfA0 T U) X → dH U p c ah → dV U S p c X → dG h h1 o ta tu R L Sg X → (∀ h2, dG h h2 o ta tu R L Sg (dfC U S p k c ah X) → Q none h2) → iWp 6 mX0_bringOthers 26 [.ref h.2.1, .int (nI p), .int (U.2.1 p), .int (nI (tEnd U.2.2.2 U.1 p)), .int (oI ah), .int (nI c)] [] h1 Q := by
  have hT := hW.2.2.2.1
  have hU := hW.2.2.2.2.1
  have u60 := hU.1.le
  have hE := (tEnd_gt (D := U.2.2.2) hp).2
  intro k
  induction k with
  | zero =>
    intro c ah X h1 hc hpc hC hah hV hG hQ
    rw [X0_bringOthers_26]
    simp only [X0_bringOthers_28, X0_bringOthers_29, X0_bringOthers_32, X0_bringOthers_33, X0_bringOthers_36, X0_bringOthers_41, X0_bringOthers_42, X0_bringOthers_45, X0_bringOthers_49, X0_bringOthers_50, X0_bringOthers_51, X0_bringOthers_54, X0_bringOthers_55, X0_bringOthers_58, X0_bringOthers_60, X0_bringOthers_61, X0_bringOthers_64, X0_bringOthers_65, X0_bringOthers_66, X0_bringOthers_68, X0_bringOthers_69, X0_bringOthers_77, X0_bringOthers_79, X0_bringOthers_81, X0_bringOthers_84, X0_bringOthers_87, iOb_some, iClr_i, iClr_r, iClr_n, iClr_u, iClr_l, rf_s, rf_n, iB_0, iSum_nil, if_pos (nI_le (show tEnd U.2.2.2 U.1 p ≤ c by omega) (show c < 2 ^ 31 by omega))]
    exact hQ h1 hG
  | succ k ih =>
    intro c ah X h1 hc hpc hC hah hV hG hQ
    have hcn : c < U.1 := by omega
    have B := hG.to hW
    have hi := child_iff hU hp hpc (show c < tEnd U.2.2.2 U.1 p by omega)
    unfold dfC at hQ
    rw [X0_bringOthers_26]
    by_cases z : U.2.2.2 c = U.2.2.2 p + 1
    · rw [if_pos z] at hQ
      have hpar := hi.mp z
      obtain ⟨g1, g2, g3⟩ := dC_child hU hC hah hcn hpar hV
      have hs := hS c hcn hpar
      unfold dfC1 at hQ g1 g2
      by_cases s : S c = true
      · rw [if_pos s] at hQ g1 g2 hs
        simp only [X0_bringOthers_28, X0_bringOthers_29, X0_bringOthers_32, X0_bringOthers_33, X0_bringOthers_36, X0_bringOthers_38 (B.depthAt hcn) B.o, X0_bringOthers_41, X0_bringOthers_42, X0_bringOthers_45, X0_bringOthers_46 (B.depthAt hp) B.o, X0_bringOthers_49, X0_bringOthers_50, X0_bringOthers_51, X0_bringOthers_54, X0_bringOthers_55, X0_bringOthers_58, X0_bringOthers_60, X0_bringOthers_61, X0_bringOthers_64, X0_bringOthers_65, X0_bringOthers_66, X0_bringOthers_68, X0_bringOthers_69, X0_bringOthers_77, X0_bringOthers_79, X0_bringOthers_81, X0_bringOthers_84, iOb_some, iClr_i, iClr_r, iClr_n, iClr_u, iClr_l, rf_s, rf_n, iB_0, iSum_nil, if_neg (nI_ge (show c < tEnd U.2.2.2 U.1 p by omega) (show tEnd U.2.2.2 U.1 p < 2 ^ 31 by omega)), hG.g1, hG.g6, hG.lS (show c < 80 by omega), hs, if_pos z, if_neg (by decide : ¬ (1 : Int32) = 0), nI_1]
        exact ih (c + 1) (some c) X h1 (by omega) (by omega) g1 g3 g2 hG hQ
      · rw [if_neg s] at hQ g1 g2 hs
        have le := dC_le hT hU g1
        have le : X.2.1 + 1 ≤ 120 := le
        obtain ⟨f1, f2, -⟩ := dC_fit hU hC hah hcn hpar
        obtain ⟨h2, c1, c2⟩ := hG.chg (e := dfB U X.1 p c ah) hW.1 hC.1.1 (by omega) f2
        have eb := ev_brought hW hC hah hcn hpar hG
        simp only [X0_bringOthers_28, X0_bringOthers_29, X0_bringOthers_32, X0_bringOthers_33, X0_bringOthers_36, X0_bringOthers_38 (B.depthAt hcn) B.o, X0_bringOthers_41, X0_bringOthers_42, X0_bringOthers_45, X0_bringOthers_46 (B.depthAt hp) B.o, X0_bringOthers_49, X0_bringOthers_50, X0_bringOthers_51, X0_bringOthers_54, X0_bringOthers_55, X0_bringOthers_58, X0_bringOthers_60, X0_bringOthers_61, X0_bringOthers_64, X0_bringOthers_65, X0_bringOthers_66, X0_bringOthers_68, X0_bringOthers_69, X0_bringOthers_71 eb hG.ob, X0_bringOthers_74 c1 (hG.new hW) (cat_r h1.2.1), X0_bringOthers_77, X0_bringOthers_79, X0_bringOthers_81, X0_bringOthers_84, iOb_some, iClr_i, iClr_r, iClr_n, iClr_u, iClr_l, rf_s, rf_n, iB_0, iSum_nil, if_neg (nI_ge (show c < tEnd U.2.2.2 U.1 p by omega) (show tEnd U.2.2.2 U.1 p < 2 ^ 31 by omega)), hG.g1, hG.g6, hG.lS (show c < 80 by omega), hs, if_pos z, if_true, nI_1]
        exact ih (c + 1) (some c) _ h2 (by omega) (by omega) g1 g3 g2 c2 hQ
    · rw [if_neg z] at hQ
      simp only [X0_bringOthers_28, X0_bringOthers_29, X0_bringOthers_32, X0_bringOthers_33, X0_bringOthers_36, X0_bringOthers_38 (B.depthAt hcn) B.o, X0_bringOthers_41, X0_bringOthers_42, X0_bringOthers_45, X0_bringOthers_46 (B.depthAt hp) B.o, X0_bringOthers_49, X0_bringOthers_50, X0_bringOthers_51, X0_bringOthers_54, X0_bringOthers_55, X0_bringOthers_58, X0_bringOthers_60, X0_bringOthers_61, X0_bringOthers_64, X0_bringOthers_65, X0_bringOthers_66, X0_bringOthers_68, X0_bringOthers_69, X0_bringOthers_77, X0_bringOthers_79, X0_bringOthers_81, X0_bringOthers_84, iOb_some, iClr_i, iClr_r, iClr_n, iClr_u, iClr_l, rf_s, rf_n, iB_0, iSum_nil, if_neg (nI_ge (show c < tEnd U.2.2.2 U.1 p by omega) (show tEnd U.2.2.2 U.1 p < 2 ^ 31 by omega)), hG.g1, if_neg z, nI_1]
      exact ih (c + 1) ah X h1 (by omega) (by omega) (dC_skip hU hC (fun w => z (hi.mpr w))) (dH_s hah) (dV_s hV) hG hQ
theorem ev_bringOthers (hW : dfW h o ta tu T U) (hp : p < U.1) (hS : ∀ c, c < U.1 → tPar U.2.2.2 c = some p → Sg c = if dfS U X.1 p c = true then 1 else 0) (hC : dC T U p (p + 1) (dfA0 T U) X) (hG : dG h h1 o ta tu R L Sg X) : ∃ h2, iEv mX0_bringOthers [.ref h.2.1, .int (nI p)] h1 none h2 ∧ dG h h2 o ta tu R L Sg (dfP1 U p X) := by
  have hU := hW.2.2.2.2.1
  have hE := tEnd_gt (D := U.2.2.2) hp
  have B := hG.to hW
  have z : iWp 6 mX0_bringOthers 0 [.ref h.2.1, .int (nI p), iU, iU, iU, iU] [] h1 (fun v h2 => v = none ∧ dG h h2 o ta tu R L Sg (dfP1 U p X)) := by
    simp only [X0_bringOthers_0, X0_bringOthers_1, X0_bringOthers_4, X0_bringOthers_5 (B.keyAt hp) B.o, X0_bringOthers_8, X0_bringOthers_9, X0_bringOthers_10, X0_bringOthers_13, X0_bringOthers_14 (B.endOf hU hp) B.o, X0_bringOthers_17, X0_bringOthers_18, X0_bringOthers_19, X0_bringOthers_21, X0_bringOthers_22, X0_bringOthers_23, X0_bringOthers_24, iOb_some, iClr_i, iClr_r, iClr_n, iClr_u, iClr_l, rf_s, rf_n, iB_0, iSum_nil, hG.g1, nI_1]
    exact bring_loop hW hp hS (tEnd U.2.2.2 U.1 p - (p + 1)) (p + 1) none X h1 (by omega) (by omega) hC (fun x hx => by cases hx) (dV_0 hC.1.1) hG (fun h2 g2 => ⟨rfl, g2⟩)
  obtain ⟨v, h2, ev, rfl, g2⟩ := I0_bringOthers z
  exact ⟨h2, ev, g2⟩
end MARKCL

/-! the class's Patch changes a Tree until one edit doesn't FIT -/
section UNTIL
variable {h b : iHp} {d n c p q x a t m j : Nat} {E F : Nat → Option Nat} {C : Nat → Int32} {st so sr : Int32} {G : Nat → Nat → Int32} {e : Nat → Int32}
/-- a tree: how many, keys, labels, depths -/
abbrev tT : Type := Nat × (Nat → Int32) × (Nat → Int32) × (Nat → Int32)
abbrev trT (b : iHp) (t : Nat) (T : tT) : iHp := trH b t T.1 T.2.1 T.2.2.1 T.2.2.2
abbrev fitT (e : Nat → Int32) (T : tT) : Bool := eFits e T.1 T.2.1 T.2.2.1 T.2.2.2
/-- an edit that FITS, performed -/
def ePerf (e : Nat → Int32) (T : tT) : tT := if e 0 = 0 then (match tWhere T.2.1 T.1 (e 1) with
    | some i => (T.1, T.2.1, upd T.2.2.1 i (e 3), T.2.2.2)
    | none => T) else if e 0 = 1 then (match tWhere T.2.1 T.1 (e 1) with
    | some i => (T.1 - 1, tO1 T.2.1 T.1 i, tO1 T.2.2.1 T.1 i, tO1 T.2.2.2 T.1 i)
    | none => T) else if e 0 = 2 then (match tWhere T.2.1 T.1 (e 3) with
    | some g => (T.1 + 1, tI1 T.2.1 T.1 (tSpot T.2.2.2 T.1 g (e 4) (-1)) (e 1), tI1 T.2.2.1 T.1 (tSpot T.2.2.2 T.1 g (e 4) (-1)) (e 2), tI1 T.2.2.2 T.1 (tSpot T.2.2.2 T.1 g (e 4) (-1)) (T.2.2.2 g + 1))
    | none => T) else (match tWhere T.2.1 T.1 (e 1), tWhere T.2.1 T.1 (e 5) with
    | some i, some g => (T.1, tCarry T.2.1 (tSpot T.2.2.2 T.1 g (e 6) (nI i)) i (tEnd T.2.2.2 T.1 i), tCarry T.2.2.1 (tSpot T.2.2.2 T.1 g (e 6) (nI i)) i (tEnd T.2.2.2 T.1 i), tCarry (tAdd T.2.2.2 i (tEnd T.2.2.2 T.1 i) (T.2.2.2 g + 1 - T.2.2.2 i)) (tSpot T.2.2.2 T.1 g (e 6) (nI i)) i (tEnd T.2.2.2 T.1 i))
    | _, _ => T)
theorem ev_perf {T : tT} (hE : edAt (trT b t T) p e) (hn : T.1 ≤ 80) (hf : fitT e T = true) : iEv mX2_perform [.ref p, .ref t] (trT b t T) none (trT b t (ePerf e T)) ∧ (ePerf e T).1 ≤ 80 := by
  obtain ⟨n, K, B, D⟩ := T
  dsimp only at hE hn hf ⊢
  unfold fitT eFits at hf
  dsimp only at hf
  unfold ePerf
  dsimp only
  by_cases c0 : e 0 = 0
  · rw [if_pos c0] at hf ⊢
    cases hw : tWhere K n (e 1) with
    | none =>
      rw [hw] at hf
      exact absurd hf Bool.false_ne_true
    | some i => exact ⟨ev_performN hE hn c0 hw, hn⟩
  · rw [if_neg c0] at hf ⊢
    by_cases c1 : e 0 = 1
    · rw [if_pos c1] at hf ⊢
      cases hw : tWhere K n (e 1) with
      | none =>
        rw [hw] at hf
        exact absurd hf Bool.false_ne_true
      | some i => exact ⟨ev_performT hE hn c1 hw, Nat.le_trans (Nat.sub_le n 1) hn⟩
    · rw [if_neg c1] at hf ⊢
      by_cases c2 : e 0 = 2
      · rw [if_pos c2] at hf ⊢
        cases hg : tWhere K n (e 3) with
        | none =>
          rw [hg] at hf
          exact absurd hf Bool.false_ne_true
        | some g =>
          rw [hg] at hf
          have h4 := (of_decide_eq_true hf).2.2.2
          exact ⟨ev_performG hE h4 c2 hg, h4⟩
      · rw [if_neg c2] at hf ⊢
        cases hw : tWhere K n (e 1) with
        | none =>
          rw [hw] at hf
          exact absurd hf Bool.false_ne_true
        | some i =>
          cases hg : tWhere K n (e 5) with
          | none =>
            rw [hw, hg] at hf
            exact absurd hf Bool.false_ne_true
          | some g => exact ⟨ev_performM hE hn c0 c1 c2 hw hg, hn⟩
/-- a row of edits performed until one doesn't FIT -/
def untT (G : Nat → Nat → Int32) : Nat → Nat → tT → tT × Option Nat
  | 0, _, T => (T, none)
  | k + 1, i, T => if fitT (G i) T = true then untT G k (i + 1) (ePerf (G i) T) else (T, some i)
theorem ptAt.tr (hP : ptAt b p n c st so sr E C) (hp : p + 3 ≤ t) {T : tT} : ptAt (trT b t T) p n c st so sr E C := ⟨(trH_off (Or.inl (by omega))).trans hP.1, (trH_off (Or.inl (by omega))).trans hP.2.1, (trH_off (Or.inl (by omega))).trans hP.2.2.1, hP.2.2.2⟩
def pEdB (h : iHp) (t n : Nat) (E : Nat → Option Nat) (G : Nat → Nat → Int32) : Prop := ∀ j, j < n → ∃ x, E j = some x ∧ edAt h x (G j) ∧ x < t
theorem until_loop (hP : ptAt b p n c st so sr E C) (hG : pEdB b t n E G) (hp : p + 3 ≤ t) {Q : Option Value → iHp → Prop} : ∀ k i, i + k = n → ∀ (T : tT) z, T.1 ≤ 80 → (iWp 6 mX3_changeUntilMisfit 2 [.ref p, .ref t, .int (nI i), z] [] (trT b t T) Q = Q (some (.int (oI (untT G k i T).2))) (trT b t (untT G k i T).1)) := by
  have hn := hP.2.2.2.1
  intro k
  induction k with
  | zero =>
    intro i hi T z hT
    obtain rfl : i = n := by omega
    have hP' := hP.tr hp (T := T)
    rw [X3_changeUntilMisfit_2]
    simp only [X3_changeUntilMisfit_0, X3_changeUntilMisfit_1, X3_changeUntilMisfit_3, X3_changeUntilMisfit_4, X3_changeUntilMisfit_7, X3_changeUntilMisfit_8, X3_changeUntilMisfit_11, X3_changeUntilMisfit_12, X3_changeUntilMisfit_15, X3_changeUntilMisfit_16, X3_changeUntilMisfit_17, X3_changeUntilMisfit_17n, X3_changeUntilMisfit_18, X3_changeUntilMisfit_18n, X3_changeUntilMisfit_19, X3_changeUntilMisfit_19n, X3_changeUntilMisfit_22, X3_changeUntilMisfit_22n, X3_changeUntilMisfit_23, X3_changeUntilMisfit_23n, X3_changeUntilMisfit_27, X3_changeUntilMisfit_30, X3_changeUntilMisfit_31, X3_changeUntilMisfit_32, X3_changeUntilMisfit_32n, X3_changeUntilMisfit_33, X3_changeUntilMisfit_33n, X3_changeUntilMisfit_37, X3_changeUntilMisfit_40, X3_changeUntilMisfit_43, X3_changeUntilMisfit_44, iOb_some, iClr_i, iClr_r, iClr_n, iClr_u, iClr_l, rf_s, rf_n, iB_0, iSum_nil, hP'.g1, hP'.ln, if_pos (Int32.le_refl (nI i))]
    rfl
  | succ k ih =>
    intro i hi T z hT
    obtain ⟨x, e1, e2, e3⟩ := hG i (by omega)
    have hP' := hP.tr hp (T := T)
    have hE : edAt (trT b t T) x (G i) := (trH_off (Or.inl e3)).trans e2
    have ef : iEv mX2_fits [.ref x, .ref t] (trT b t T) (some (.int (iB (fitT (G i) T)))) (trT b t T) := ev_fits hE (trH_tr hT)
    rw [X3_changeUntilMisfit_2]
    by_cases hf : fitT (G i) T = true
    · obtain ⟨ep, en⟩ := ev_perf hE hT hf
      have r := ih (i + 1) (by omega) (ePerf (G i) T) (.ref x) en
      rw [nI_succ] at r
      rw [show untT G (k + 1) i T = untT G k (i + 1) (ePerf (G i) T) from if_pos hf]
      rw [hf] at ef
      simp only [X3_changeUntilMisfit_0, X3_changeUntilMisfit_1, X3_changeUntilMisfit_3, X3_changeUntilMisfit_4, X3_changeUntilMisfit_7, X3_changeUntilMisfit_8, X3_changeUntilMisfit_11, X3_changeUntilMisfit_12, X3_changeUntilMisfit_15, X3_changeUntilMisfit_16, X3_changeUntilMisfit_17, X3_changeUntilMisfit_17n, X3_changeUntilMisfit_18, X3_changeUntilMisfit_18n, X3_changeUntilMisfit_19, X3_changeUntilMisfit_19n, X3_changeUntilMisfit_22, X3_changeUntilMisfit_22n, X3_changeUntilMisfit_23, X3_changeUntilMisfit_23n, X3_changeUntilMisfit_24 ef hE.o (cat_r t), X3_changeUntilMisfit_27, X3_changeUntilMisfit_30, X3_changeUntilMisfit_31, X3_changeUntilMisfit_32, X3_changeUntilMisfit_32n, X3_changeUntilMisfit_33, X3_changeUntilMisfit_33n, X3_changeUntilMisfit_34 ep hE.o (cat_r t), X3_changeUntilMisfit_37, X3_changeUntilMisfit_40, X3_changeUntilMisfit_43, X3_changeUntilMisfit_44, iOb_some, iClr_i, iClr_r, iClr_n, iClr_u, iClr_l, rf_s, rf_n, iB_0, iSum_nil, hP'.g1, hP'.ln, hP'.le (show i < n by omega), e1, if_neg (nI_ge (show i < n by omega) (by omega)), Bool.true_eq_false, if_false, r]
    · rw [show untT G (k + 1) i T = (T, some i) from if_neg hf]
      rw [Bool.eq_false_iff.mpr hf] at ef
      simp only [X3_changeUntilMisfit_0, X3_changeUntilMisfit_1, X3_changeUntilMisfit_3, X3_changeUntilMisfit_4, X3_changeUntilMisfit_7, X3_changeUntilMisfit_8, X3_changeUntilMisfit_11, X3_changeUntilMisfit_12, X3_changeUntilMisfit_15, X3_changeUntilMisfit_16, X3_changeUntilMisfit_17, X3_changeUntilMisfit_17n, X3_changeUntilMisfit_18, X3_changeUntilMisfit_18n, X3_changeUntilMisfit_19, X3_changeUntilMisfit_19n, X3_changeUntilMisfit_22, X3_changeUntilMisfit_22n, X3_changeUntilMisfit_23, X3_changeUntilMisfit_23n, X3_changeUntilMisfit_24 ef hE.o (cat_r t), X3_changeUntilMisfit_27, X3_changeUntilMisfit_30, X3_changeUntilMisfit_31, X3_changeUntilMisfit_32, X3_changeUntilMisfit_32n, X3_changeUntilMisfit_33, X3_changeUntilMisfit_33n, X3_changeUntilMisfit_37, X3_changeUntilMisfit_40, X3_changeUntilMisfit_43, X3_changeUntilMisfit_44, iOb_some, iClr_i, iClr_r, iClr_n, iClr_u, iClr_l, rf_s, rf_n, iB_0, iSum_nil, hP'.g1, hP'.ln, hP'.le (show i < n by omega), e1, if_neg (nI_ge (show i < n by omega) (by omega)), if_true]
      rfl
theorem ev_puntil (hP : ptAt b p n c st so sr E C) (hG : pEdB b t n E G) (hp : p + 3 ≤ t) {T : tT} (hT : T.1 ≤ 80) : iEv mX3_changeUntilMisfit [.ref p, .ref t] (trT b t T) (some (.int (oI (untT G n 0 T).2))) (trT b t (untT G n 0 T).1) := by
  refine J3_changeUntilMisfit (cat_r t) ?_
  simp only [X3_changeUntilMisfit_0, X3_changeUntilMisfit_1, iOb_some, iClr_i, iClr_r, iClr_n, iClr_u, iClr_l, rf_s, rf_n, iB_0, iSum_nil]
  exact (until_loop hP hG hp (Q := fun r' h' => r' = some (.int (oI (untT G n 0 T).2)) ∧ h' = trT b t (untT G n 0 T).1) n 0 (by omega) T _ hT).mpr ⟨rfl, rfl⟩
end UNTIL

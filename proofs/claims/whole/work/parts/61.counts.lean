/-! counts: of nodes, of edits; runs in a row -/
section COUNT
variable {h : iHp} {s tc pc d n c p a : Nat} {se : Int32} {T P E : Nat → Option Nat} {C : Nat → Int32} {Z : Nat → Nat} {G : Nat → Nat → Int32} {so : Int32} {f : Nat → Int64}
def zS (Z : Nat → Nat) : Nat → Nat
  | 0 => 0
  | j + 1 => zS Z j + Z j
theorem nodes_loop (hS : stAt h s tc pc se T P) (hZ : ∀ j, j < tc → ∃ x, T j = some x ∧ iGet h x 7 3 = some (.int (nI (Z j)))) {Q : Option Value → iHp → Prop} : ∀ k i, i + k = tc → ∀ z, (iWp 2 mX6_nodeCount 4 [.ref s, .int (nI (zS Z i)), .int (nI i), z] [] h Q = Q (some (.int (nI (zS Z tc)))) h) := by
  have ht := hS.2.2.2.1
  intro k
  induction k with
  | zero =>
    intro i hi z
    obtain rfl : i = tc := by omega
    rw [X6_nodeCount_4]
    simp only [X6_nodeCount_0, X6_nodeCount_1, X6_nodeCount_2, X6_nodeCount_3, X6_nodeCount_5, X6_nodeCount_6, X6_nodeCount_9, X6_nodeCount_12, X6_nodeCount_13, X6_nodeCount_17, X6_nodeCount_17n, X6_nodeCount_18, X6_nodeCount_19, X6_nodeCount_19n, X6_nodeCount_20, X6_nodeCount_20n, X6_nodeCount_23, X6_nodeCount_24, X6_nodeCount_27, X6_nodeCount_27n, X6_nodeCount_28, X6_nodeCount_31, X6_nodeCount_32, X6_nodeCount_33, X6_nodeCount_36, X6_nodeCount_39, X6_nodeCount_40, iOb_some, iClr_i, iClr_r, iClr_n, iClr_u, iClr_l, rf_s, rf_n, iB_0, iSum_nil, hS.g2, if_pos (Int32.le_refl (nI i))]
  | succ k ih =>
    intro i hi z
    obtain ⟨x, e1, e2⟩ := hZ i (by omega)
    have r := ih (i + 1) (by omega) (.ref x)
    rw [show zS Z (i + 1) = zS Z i + Z i from rfl, ← nI_add, nI_succ] at r
    rw [X6_nodeCount_4]
    simp only [X6_nodeCount_0, X6_nodeCount_1, X6_nodeCount_2, X6_nodeCount_3, X6_nodeCount_5, X6_nodeCount_6, X6_nodeCount_9, X6_nodeCount_12, X6_nodeCount_13, X6_nodeCount_14 (ev_stree hS (show i < tc by omega) e1) hS.o, X6_nodeCount_17, X6_nodeCount_17n, X6_nodeCount_18, X6_nodeCount_19, X6_nodeCount_19n, X6_nodeCount_20, X6_nodeCount_20n, X6_nodeCount_23, X6_nodeCount_24, X6_nodeCount_27, X6_nodeCount_27n, X6_nodeCount_28, X6_nodeCount_31, X6_nodeCount_32, X6_nodeCount_33, X6_nodeCount_36, X6_nodeCount_39, X6_nodeCount_40, iOb_some, iClr_i, iClr_r, iClr_n, iClr_u, iClr_l, rf_s, rf_n, iB_0, iSum_nil, hS.g2, e2, if_neg (nI_ge (show i < tc by omega) (by omega)), r]
theorem ev_nodeCount (hS : stAt h s tc pc se T P) (hZ : ∀ j, j < tc → ∃ x, T j = some x ∧ iGet h x 7 3 = some (.int (nI (Z j)))) : iEv mX6_nodeCount [.ref s] h (some (.int (nI (zS Z tc)))) h := by
  refine J6_nodeCount ?_
  simp only [X6_nodeCount_0, X6_nodeCount_1, X6_nodeCount_2, X6_nodeCount_3, iOb_some, iClr_i, iClr_r, iClr_n, iClr_u, iClr_l, rf_s, rf_n, iB_0, iSum_nil]
  exact (nodes_loop hS hZ (Q := fun r' h' => r' = some (.int (nI (zS Z tc))) ∧ h' = h) tc 0 (by omega) _).mpr ⟨rfl, rfl⟩
theorem edits_loop (hS : stAt h s tc pc se T P) (hZ : ∀ j, j < pc → ∃ x, P j = some x ∧ iObj h x 3 = true ∧ iEv mX3_size [.ref x] h (some (.int (nI (Z j)))) h) {Q : Option Value → iHp → Prop} : ∀ k i, i + k = pc → ∀ z, (iWp 2 mX6_editCount 4 [.ref s, .int (nI (zS Z i)), .int (nI i), z] [] h Q = Q (some (.int (nI (zS Z pc)))) h) := by
  have ht := hS.2.2.2.2
  intro k
  induction k with
  | zero =>
    intro i hi z
    obtain rfl : i = pc := by omega
    rw [X6_editCount_4]
    simp only [X6_editCount_0, X6_editCount_1, X6_editCount_2, X6_editCount_3, X6_editCount_5, X6_editCount_6, X6_editCount_9, X6_editCount_12, X6_editCount_13, X6_editCount_17, X6_editCount_17n, X6_editCount_18, X6_editCount_19, X6_editCount_19n, X6_editCount_20, X6_editCount_20n, X6_editCount_23, X6_editCount_24, X6_editCount_27, X6_editCount_27n, X6_editCount_31, X6_editCount_32, X6_editCount_33, X6_editCount_36, X6_editCount_39, X6_editCount_40, iOb_some, iClr_i, iClr_r, iClr_n, iClr_u, iClr_l, rf_s, rf_n, iB_0, iSum_nil, hS.g3, if_pos (Int32.le_refl (nI i))]
  | succ k ih =>
    intro i hi z
    obtain ⟨x, e1, e2, e3⟩ := hZ i (by omega)
    have r := ih (i + 1) (by omega) (.ref x)
    rw [show zS Z (i + 1) = zS Z i + Z i from rfl, ← nI_add, nI_succ] at r
    rw [X6_editCount_4]
    simp only [X6_editCount_0, X6_editCount_1, X6_editCount_2, X6_editCount_3, X6_editCount_5, X6_editCount_6, X6_editCount_9, X6_editCount_12, X6_editCount_13, X6_editCount_14 (ev_spatch hS (show i < pc by omega) e1) hS.o, X6_editCount_17, X6_editCount_17n, X6_editCount_18, X6_editCount_19, X6_editCount_19n, X6_editCount_20, X6_editCount_20n, X6_editCount_23, X6_editCount_24, X6_editCount_27, X6_editCount_27n, X6_editCount_28 e3 e2, X6_editCount_31, X6_editCount_32, X6_editCount_33, X6_editCount_36, X6_editCount_39, X6_editCount_40, iOb_some, iClr_i, iClr_r, iClr_n, iClr_u, iClr_l, rf_s, rf_n, iB_0, iSum_nil, hS.g3, if_neg (nI_ge (show i < pc by omega) (by omega)), r]
theorem ev_editCount (hS : stAt h s tc pc se T P) (hZ : ∀ j, j < pc → ∃ x, P j = some x ∧ iObj h x 3 = true ∧ iEv mX3_size [.ref x] h (some (.int (nI (Z j)))) h) : iEv mX6_editCount [.ref s] h (some (.int (nI (zS Z pc)))) h := by
  refine J6_editCount ?_
  simp only [X6_editCount_0, X6_editCount_1, X6_editCount_2, X6_editCount_3, iOb_some, iClr_i, iClr_r, iClr_n, iClr_u, iClr_l, rf_s, rf_n, iB_0, iSum_nil]
  exact (edits_loop hS hZ (Q := fun r' h' => r' = some (.int (nI (zS Z pc))) ∧ h' = h) pc 0 (by omega) _).mpr ⟨rfl, rfl⟩
theorem dcount_loop (hP : drAt h d n c E C) (hn : n ≤ 120) (hG : pEd h n E G) (w : Int32) {Q : Option Value → iHp → Prop} : ∀ k i, i + k = n → ∀ z, (iWp 2 mX1_countOf 4 [.ref d, .int w, .int (nI (cntE G w i)), .int (nI i), z] [] h Q = Q (some (.int (nI (cntE G w n)))) h) := by
  intro k
  induction k with
  | zero =>
    intro i hi z
    obtain rfl : i = n := by omega
    rw [X1_countOf_4]
    simp only [X1_countOf_0, X1_countOf_1, X1_countOf_2, X1_countOf_3, X1_countOf_5, X1_countOf_6, X1_countOf_9, X1_countOf_12, X1_countOf_13, X1_countOf_17, X1_countOf_17n, X1_countOf_19, X1_countOf_19n, X1_countOf_21, X1_countOf_21n, X1_countOf_24, X1_countOf_24n, X1_countOf_26, X1_countOf_29, X1_countOf_30, X1_countOf_33, X1_countOf_36, X1_countOf_39, X1_countOf_42, X1_countOf_43, iOb_some, iClr_i, iClr_r, iClr_n, iClr_u, iClr_l, rf_s, rf_n, iB_0, iSum_nil, hP.g2, if_pos (Int32.le_refl (nI i))]
  | succ k ih =>
    intro i hi z
    obtain ⟨x, e1, e2⟩ := hG i (by omega)
    rw [X1_countOf_4]
    by_cases e : G i 0 = w
    · have r := ih (i + 1) (by omega) (.ref x)
      rw [show cntE G w (i + 1) = cntE G w i + 1 from if_pos e, nI_succ, nI_succ] at r
      simp only [X1_countOf_0, X1_countOf_1, X1_countOf_2, X1_countOf_3, X1_countOf_5, X1_countOf_6, X1_countOf_9, X1_countOf_12, X1_countOf_13, X1_countOf_14 (ev_dedit hP (show i < n by omega) (show i < 120 by omega) e1) hP.o, X1_countOf_17, X1_countOf_17n, X1_countOf_19, X1_countOf_19n, X1_countOf_21, X1_countOf_21n, X1_countOf_24, X1_countOf_24n, X1_countOf_26, X1_countOf_29, X1_countOf_30, X1_countOf_33, X1_countOf_36, X1_countOf_39, X1_countOf_42, X1_countOf_43, iOb_some, iClr_i, iClr_r, iClr_n, iClr_u, iClr_l, rf_s, rf_n, iB_0, iSum_nil, hP.g2, e2.g0, if_neg (nI_ge (show i < n by omega) (by omega)), if_pos e, r]
    · have r := ih (i + 1) (by omega) (.ref x)
      rw [show cntE G w (i + 1) = cntE G w i from if_neg e, nI_succ] at r
      simp only [X1_countOf_0, X1_countOf_1, X1_countOf_2, X1_countOf_3, X1_countOf_5, X1_countOf_6, X1_countOf_9, X1_countOf_12, X1_countOf_13, X1_countOf_14 (ev_dedit hP (show i < n by omega) (show i < 120 by omega) e1) hP.o, X1_countOf_17, X1_countOf_17n, X1_countOf_19, X1_countOf_19n, X1_countOf_21, X1_countOf_21n, X1_countOf_24, X1_countOf_24n, X1_countOf_26, X1_countOf_29, X1_countOf_30, X1_countOf_33, X1_countOf_36, X1_countOf_39, X1_countOf_42, X1_countOf_43, iOb_some, iClr_i, iClr_r, iClr_n, iClr_u, iClr_l, rf_s, rf_n, iB_0, iSum_nil, hP.g2, e2.g0, if_neg (nI_ge (show i < n by omega) (by omega)), if_neg e, r]
theorem ev_dcount (hP : drAt h d n c E C) (hn : n ≤ 120) (hG : pEd h n E G) (w : Int32) : iEv mX1_countOf [.ref d, .int w] h (some (.int (nI (cntE G w n)))) h := by
  refine J1_countOf ?_
  simp only [X1_countOf_0, X1_countOf_1, X1_countOf_2, X1_countOf_3, iOb_some, iClr_i, iClr_r, iClr_n, iClr_u, iClr_l, rf_s, rf_n, iB_0, iSum_nil]
  exact (dcount_loop hP hn hG w (Q := fun r' h' => r' = some (.int (nI (cntE G w n))) ∧ h' = h) n 0 (by omega) _).mpr ⟨rfl, rfl⟩
/-- a run of a row -/
def rwRun (n : Nat) (i l : Int32) : Bool := !decide (i < 0) && !decide (l < 0) && !decide (nI n - l < i)
theorem ev_rrun (hR : rwAt h a so n f) (i l : Int32) : iEv mX5_hasRun [.ref a, .int i, .int l] h (some (.int (iB (rwRun n i l)))) h := by
  refine J5_hasRun ?_
  unfold rwRun
  by_cases c0 : i < 0
  · simp only [X5_hasRun_0, X5_hasRun_1, X5_hasRun_4, X5_hasRun_5, X5_hasRun_8, X5_hasRun_9, X5_hasRun_10, X5_hasRun_13, X5_hasRun_14, X5_hasRun_15, X5_hasRun_16, X5_hasRun_19, X5_hasRun_20, X5_hasRun_23, X5_hasRun_24, X5_hasRun_24z, X5_hasRun_24o, iOb_some, iClr_i, iClr_r, iClr_n, iClr_u, iClr_l, rf_s, rf_n, iB_0, iSum_nil, if_pos c0]
    rw [decide_eq_true c0]
    exact ⟨rfl, trivial⟩
  · rw [decide_eq_false c0]
    by_cases c1 : l < 0
    · simp only [X5_hasRun_0, X5_hasRun_1, X5_hasRun_4, X5_hasRun_5, X5_hasRun_8, X5_hasRun_9, X5_hasRun_10, X5_hasRun_13, X5_hasRun_14, X5_hasRun_15, X5_hasRun_16, X5_hasRun_19, X5_hasRun_20, X5_hasRun_23, X5_hasRun_24, X5_hasRun_24z, X5_hasRun_24o, iOb_some, iClr_i, iClr_r, iClr_n, iClr_u, iClr_l, rf_s, rf_n, iB_0, iSum_nil, if_neg c0, if_pos c1]
      rw [decide_eq_true c1]
      exact ⟨rfl, trivial⟩
    · rw [decide_eq_false c1]
      by_cases c2 : nI n - l < i
      · simp only [X5_hasRun_0, X5_hasRun_1, X5_hasRun_4, X5_hasRun_5, X5_hasRun_8, X5_hasRun_9, X5_hasRun_10, X5_hasRun_13, X5_hasRun_14, X5_hasRun_15, X5_hasRun_16, X5_hasRun_19, X5_hasRun_20, X5_hasRun_23, X5_hasRun_24, X5_hasRun_24z, X5_hasRun_24o, iOb_some, iClr_i, iClr_r, iClr_n, iClr_u, iClr_l, rf_s, rf_n, iB_0, iSum_nil, hR.e, hR.l, if_neg c0, if_neg c1, if_pos c2]
        rw [decide_eq_true c2]
        exact ⟨rfl, trivial⟩
      · simp only [X5_hasRun_0, X5_hasRun_1, X5_hasRun_4, X5_hasRun_5, X5_hasRun_8, X5_hasRun_9, X5_hasRun_10, X5_hasRun_13, X5_hasRun_14, X5_hasRun_15, X5_hasRun_16, X5_hasRun_19, X5_hasRun_20, X5_hasRun_23, X5_hasRun_24, X5_hasRun_24z, X5_hasRun_24o, iOb_some, iClr_i, iClr_r, iClr_n, iClr_u, iClr_l, rf_s, rf_n, iB_0, iSum_nil, hR.e, hR.l, if_neg c0, if_neg c1, if_neg c2]
        rw [decide_eq_false c2]
        exact ⟨rfl, trivial⟩
end COUNT

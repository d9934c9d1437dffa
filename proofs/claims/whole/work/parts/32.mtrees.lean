/-! the reference's working tree (fields 18 n, 19 keys, 20 labels, 21 depths): the same words -/
theorem tE_le {D : Nat → Int32} {d : Int32} : ∀ (m e : Nat), e ≤ tE D d e m ∧ tE D d e m ≤ e + m
  | 0, e => ⟨Nat.le_refl _, Nat.le_refl _⟩
  | m + 1, e => by
    unfold tE
    split
    · have := tE_le (D := D) (d := d) m (e + 1)
      omega
    · omega
theorem tEnd_gt {D : Nat → Int32} {n i : Nat} (hi : i < n) : i < tEnd D n i ∧ tEnd D n i ≤ n := by
  have := tE_le (D := D) (d := D i) (n - (i + 1)) (i + 1)
  unfold tEnd
  omega
theorem tW_lt {K : Nat → Int32} {k : Int32} : ∀ (m i p : Nat), tW K k i m = some p → i ≤ p ∧ p < i + m ∧ K p = k
  | 0, i, p, h => by cases h
  | m + 1, i, p, h => by
    unfold tW at h
    split at h
    · cases h
      exact ⟨Nat.le_refl _, by omega, by assumption⟩
    · have := tW_lt m (i + 1) p h
      exact ⟨by omega, by omega, this.2.2⟩
theorem tWhere_lt {K : Nat → Int32} {n p : Nat} {k : Int32} (h : tWhere K n k = some p) : p < n ∧ K p = k := by
  have := tW_lt _ _ _ h
  exact ⟨by omega, this.2.2⟩
def tCh (D : Nat → Int32) (n i : Nat) : Nat → Nat → Nat
  | 0, a => a
  | p + 1, a => if a < tEnd D n i then tCh D n i p (tEnd D n a) else a
def tChild (D : Nat → Int32) (n i p : Nat) : Nat := tCh D n i p (i + 1)
section MTREE
variable {b : iHp} {x n : Nat} {s : mS}
theorem ev9_within (y z w : Int32) {h : iHp} : iEv mX9_within [.int y, .int z, .int w] h (some (.int (iB (decide (z ≤ y) && decide (y ≤ w))))) h := by
  refine J9_within ?_
  simp only [X9_within_0, X9_within_1, X9_within_2, X9_within_5, X9_within_6, X9_within_7, X9_within_10, X9_within_11, X9_within_14, X9_within_15, X9_within_15z, X9_within_15o, iOb_some, iClr_i, iClr_r, iClr_n, iClr_u, iClr_l, rf_s, rf_n, iB_0, iSum_nil]
  by_cases h1 : y < z
  · simp [h1, Int32.not_le.mpr h1]
  · by_cases h2 : w < y
    · simp [h1, h2, Int32.not_le.mpr h2, Int32.not_lt.mp h1]
    · simp [h1, h2, Int32.not_lt.mp h2, Int32.not_lt.mp h1]
theorem find9_loop (hn : s.1 18 = nI n) (h66 : n ≤ 66) (k : Int32) (Q : Option Value → iHp → Prop) : ∀ (m i : Nat), i + m = n → iWp 1 mX9_find 2 [.ref x, .int k, .int (nI i)] [] (mH b x s) Q = Q (some (.int (oI (tW (s.2.1 19) k i m)))) (mH b x s) := by
  intro m
  induction m with
  | zero =>
    intro i hi
    rw [X9_find_2]
    simp only [X9_find_0, X9_find_1, X9_find_3, X9_find_4, X9_find_7, X9_find_10, X9_find_11, X9_find_14, X9_find_15, X9_find_16, X9_find_17, X9_find_20, X9_find_21, X9_find_22, X9_find_25, X9_find_28, X9_find_29, iOb_some, iClr_i, iClr_r, iClr_n, iClr_u, iClr_l, rf_s, rf_n, iB_0, iSum_nil, mg18, hn, if_pos (nI_le (show n ≤ i by omega) (by omega)), tW, oI]
  | succ m ih =>
    intro i hi
    rw [X9_find_2]
    simp only [X9_find_0, X9_find_1, X9_find_3, X9_find_4, X9_find_7, X9_find_10, X9_find_11, X9_find_14, X9_find_15, X9_find_16, X9_find_17, X9_find_20, X9_find_21, X9_find_22, X9_find_25, X9_find_28, X9_find_29, iOb_some, iClr_i, iClr_r, iClr_n, iClr_u, iClr_l, rf_s, rf_n, iB_0, iSum_nil, mg18, hn, if_neg (nI_ge (show i < n by omega) (by omega)), mg19, ml19 (show i < 66 by omega), nI_1]
    rw [ih (i + 1) (by omega)]
    by_cases hk : s.2.1 19 i = k
    · simp [hk, tW, oI]
    · simp [hk, tW]
theorem ev9_find (hn : s.1 18 = nI n) (h66 : n ≤ 66) (k : Int32) : iEv mX9_find [.ref x, .int k] (mH b x s) (some (.int (oI (tWhere (s.2.1 19) n k)))) (mH b x s) := by
  refine J9_find ?_
  simp only [X9_find_0, X9_find_1, X9_find_3, X9_find_4, X9_find_7, X9_find_10, X9_find_11, X9_find_14, X9_find_15, X9_find_16, X9_find_17, X9_find_20, X9_find_21, X9_find_22, X9_find_25, X9_find_28, X9_find_29, iOb_some, iClr_i, iClr_r, iClr_n, iClr_u, iClr_l, rf_s, rf_n, iB_0, iSum_nil]
  exact (find9_loop hn h66 k _ n 0 (by omega)).mpr ⟨rfl, rfl⟩
theorem end9_loop (hn : s.1 18 = nI n) (h66 : n ≤ 66) {i : Nat} (hi : i < n) (Q : Option Value → iHp → Prop) : ∀ m e, e + m = n → iWp 1 mX9_end 4 [.ref x, .int (nI i), .int (nI e)] [] (mH b x s) Q = Q (some (.int (nI (tE (s.2.1 21) (s.2.1 21 i) e m)))) (mH b x s) := by
  intro m
  induction m with
  | zero =>
    intro e he
    rw [X9_end_4]
    simp only [X9_end_0, X9_end_1, X9_end_2, X9_end_3, X9_end_5, X9_end_6, X9_end_9, X9_end_12, X9_end_13, X9_end_16, X9_end_17, X9_end_18, X9_end_19, X9_end_22, X9_end_23, X9_end_24, X9_end_27, X9_end_30, X9_end_33, X9_end_34, iOb_some, iClr_i, iClr_r, iClr_n, iClr_u, iClr_l, rf_s, rf_n, iB_0, iSum_nil, mg18, hn, if_pos (nI_le (show n ≤ e by omega) (by omega)), tE]
  | succ m ih =>
    intro e he
    rw [X9_end_4]
    simp only [X9_end_0, X9_end_1, X9_end_2, X9_end_3, X9_end_5, X9_end_6, X9_end_9, X9_end_12, X9_end_13, X9_end_16, X9_end_17, X9_end_18, X9_end_19, X9_end_22, X9_end_23, X9_end_24, X9_end_27, X9_end_30, X9_end_33, X9_end_34, iOb_some, iClr_i, iClr_r, iClr_n, iClr_u, iClr_l, rf_s, rf_n, iB_0, iSum_nil, mg18, hn, if_neg (nI_ge (show e < n by omega) (by omega)), mg21, ml21 (show e < 66 by omega), ml21 (show i < 66 by omega), nI_1]
    rw [ih (e + 1) (by omega)]
    by_cases hk : s.2.1 21 e ≤ s.2.1 21 i
    · simp [hk, tE, Int32.not_lt.mpr hk]
    · simp [hk, tE, Int32.not_le.mp hk]
theorem ev9_end (hn : s.1 18 = nI n) (h66 : n ≤ 66) {i : Nat} (hi : i < n) : iEv mX9_end [.ref x, .int (nI i)] (mH b x s) (some (.int (nI (tEnd (s.2.1 21) n i)))) (mH b x s) := by
  refine J9_end ?_
  simp only [X9_end_0, X9_end_1, X9_end_2, X9_end_3, X9_end_5, X9_end_6, X9_end_9, X9_end_12, X9_end_13, X9_end_16, X9_end_17, X9_end_18, X9_end_19, X9_end_22, X9_end_23, X9_end_24, X9_end_27, X9_end_30, X9_end_33, X9_end_34, iOb_some, iClr_i, iClr_r, iClr_n, iClr_u, iClr_l, rf_s, rf_n, iB_0, iSum_nil, nI_1]
  rw [end9_loop hn h66 hi _ (n - (i + 1)) (i + 1) (by omega)]
  exact ⟨rfl, rfl⟩
theorem parent9_loop (h66 : n ≤ 66) {i : Nat} (hi : i < n) (Q : Option Value → iHp → Prop) : ∀ j, j ≤ i → iWp 1 mX9_parent 4 [.ref x, .int (nI i), .int (dI j)] [] (mH b x s) Q = Q (some (.int (oI (tP (s.2.1 21) (s.2.1 21 i) j)))) (mH b x s) := by
  intro j
  induction j with
  | zero =>
    intro hj
    rw [X9_parent_4]
    simp only [X9_parent_0, X9_parent_1, X9_parent_2, X9_parent_3, X9_parent_5, X9_parent_8, X9_parent_9, X9_parent_12, X9_parent_13, X9_parent_14, X9_parent_15, X9_parent_18, X9_parent_19, X9_parent_20, X9_parent_23, X9_parent_26, X9_parent_29, X9_parent_30, iOb_some, iClr_i, iClr_r, iClr_n, iClr_u, iClr_l, rf_s, rf_n, iB_0, iSum_nil, dI_0, if_pos (show (-1 : Int32) < 0 by decide), tP, oI]
  | succ j ih =>
    intro hj
    rw [X9_parent_4]
    simp only [X9_parent_0, X9_parent_1, X9_parent_2, X9_parent_3, X9_parent_5, X9_parent_8, X9_parent_9, X9_parent_12, X9_parent_13, X9_parent_14, X9_parent_15, X9_parent_18, X9_parent_19, X9_parent_20, X9_parent_23, X9_parent_26, X9_parent_29, X9_parent_30, iOb_some, iClr_i, iClr_r, iClr_n, iClr_u, iClr_l, rf_s, rf_n, iB_0, iSum_nil, dI_c, if_neg (nI_pos (show j < 2 ^ 31 by omega)), mg21, ml21 (show j < 66 by omega), ml21 (show i < 66 by omega)]
    rw [dI_m, ih (by omega)]
    by_cases hk : s.2.1 21 j < s.2.1 21 i
    · simp [hk, tP, oI]
    · simp [hk, tP]
theorem ev9_parent (h66 : n ≤ 66) {i : Nat} (hi : i < n) : iEv mX9_parent [.ref x, .int (nI i)] (mH b x s) (some (.int (oI (tPar (s.2.1 21) i)))) (mH b x s) := by
  refine J9_parent ?_
  simp only [X9_parent_0, X9_parent_1, X9_parent_2, X9_parent_3, X9_parent_5, X9_parent_8, X9_parent_9, X9_parent_12, X9_parent_13, X9_parent_14, X9_parent_15, X9_parent_18, X9_parent_19, X9_parent_20, X9_parent_23, X9_parent_26, X9_parent_29, X9_parent_30, iOb_some, iClr_i, iClr_r, iClr_n, iClr_u, iClr_l, rf_s, rf_n, iB_0, iSum_nil, dI_s]
  rw [parent9_loop h66 hi _ i (Nat.le_refl _)]
  exact ⟨rfl, rfl⟩
theorem ev9_parentKey (h66 : n ≤ 66) {i : Nat} (hi : i < n) (hp : i ≠ 0 → tPar (s.2.1 21) i ≠ none) : iEv mX9_parentKey [.ref x, .int (nI i)] (mH b x s) (some (.int (tPK (s.2.1 19) (s.2.1 21) i))) (mH b x s) := by
  refine J9_parentKey ?_
  cases i with
  | zero =>
    simp only [X9_parentKey_0, X9_parentKey_1, X9_parentKey_4, X9_parentKey_5, X9_parentKey_8, X9_parentKey_9, X9_parentKey_12, X9_parentKey_13, X9_parentKey_17, X9_parentKey_18, iOb_some, iClr_i, iClr_r, iClr_n, iClr_u, iClr_l, rf_s, rf_n, iB_0, iSum_nil, show ¬ (0 : Int32) < nI 0 by decide, if_false]
    exact ⟨rfl, trivial⟩
  | succ i =>
    have e := ev9_parent (b := b) (x := x) (s := s) h66 hi
    cases hq : tPar (s.2.1 21) (i + 1) with
    | none => exact absurd hq (hp (by omega))
    | some p =>
      rw [hq] at e
      have h1 := (tP_lt hq).1
      simp only [X9_parentKey_0, X9_parentKey_1, X9_parentKey_4, X9_parentKey_5, X9_parentKey_8, X9_parentKey_9, X9_parentKey_12, X9_parentKey_13, X9_parentKey_14 e mH_obj, X9_parentKey_17, X9_parentKey_18, iOb_some, iClr_i, iClr_r, iClr_n, iClr_u, iClr_l, rf_s, rf_n, iB_0, iSum_nil, if_pos (show (0 : Int32) < nI (i + 1) by rw [← nI_0]; exact nI_lt (by omega) (by omega)), mg19, oI, ml19 (show p < 66 by omega), tPK, hq, and_self]
theorem place9_loop (h66 : n ≤ 66) {i : Nat} (hi : i < n) (Q : Option Value → iHp → Prop) : ∀ j c, j ≤ i → iWp 1 mX9_place 6 [.ref x, .int (nI i), .int (nI c), .int (dI j)] [] (mH b x s) Q = Q (some (.int (nI (tL (s.2.1 21) (s.2.1 21 i) j c)))) (mH b x s) := by
  intro j
  induction j with
  | zero =>
    intro c hj
    rw [X9_place_6]
    simp only [X9_place_0, X9_place_1, X9_place_2, X9_place_3, X9_place_4, X9_place_5, X9_place_7, X9_place_10, X9_place_11, X9_place_14, X9_place_15, X9_place_16, X9_place_17, X9_place_20, X9_place_21, X9_place_22, X9_place_25, X9_place_26, X9_place_29, X9_place_30, X9_place_31, X9_place_32, X9_place_35, X9_place_36, X9_place_37, X9_place_40, X9_place_43, X9_place_46, X9_place_49, X9_place_50, iOb_some, iClr_i, iClr_r, iClr_n, iClr_u, iClr_l, rf_s, rf_n, iB_0, iSum_nil, dI_0, if_pos (show (-1 : Int32) < 0 by decide), tL]
  | succ j ih =>
    intro c hj
    rw [X9_place_6]
    simp only [X9_place_0, X9_place_1, X9_place_2, X9_place_3, X9_place_4, X9_place_5, X9_place_7, X9_place_10, X9_place_11, X9_place_14, X9_place_15, X9_place_16, X9_place_17, X9_place_20, X9_place_21, X9_place_22, X9_place_25, X9_place_26, X9_place_29, X9_place_30, X9_place_31, X9_place_32, X9_place_35, X9_place_36, X9_place_37, X9_place_40, X9_place_43, X9_place_46, X9_place_49, X9_place_50, iOb_some, iClr_i, iClr_r, iClr_n, iClr_u, iClr_l, rf_s, rf_n, iB_0, iSum_nil, dI_c, if_neg (nI_pos (show j < 2 ^ 31 by omega)), mg21, ml21 (show j < 66 by omega), ml21 (show i < 66 by omega), dI_m, nI_1]
    rw [ih c (by omega), ih (c + 1) (by omega)]
    by_cases hk : s.2.1 21 j < s.2.1 21 i
    · simp [hk, tL]
    · by_cases h2 : s.2.1 21 j = s.2.1 21 i
      · simp [h2, tL]
      · simp [hk, h2, tL]
theorem ev9_place (h66 : n ≤ 66) {i : Nat} (hi : i < n) : iEv mX9_place [.ref x, .int (nI i)] (mH b x s) (some (.int (nI (tPlace (s.2.1 21) i)))) (mH b x s) := by
  refine J9_place ?_
  simp only [X9_place_0, X9_place_1, X9_place_2, X9_place_3, X9_place_4, X9_place_5, X9_place_7, X9_place_10, X9_place_11, X9_place_14, X9_place_15, X9_place_16, X9_place_17, X9_place_20, X9_place_21, X9_place_22, X9_place_25, X9_place_26, X9_place_29, X9_place_30, X9_place_31, X9_place_32, X9_place_35, X9_place_36, X9_place_37, X9_place_40, X9_place_43, X9_place_46, X9_place_49, X9_place_50, iOb_some, iClr_i, iClr_r, iClr_n, iClr_u, iClr_l, rf_s, rf_n, iB_0, iSum_nil, dI_s]
  exact (place9_loop h66 hi _ i 0 (Nat.le_refl _)).mpr ⟨rfl, rfl⟩
/-- the class stops where the depth falls, the reference at end(i): the same -/
theorem children9_loop (hn : s.1 18 = nI n) (h66 : n ≤ 66) {i : Nat} (hi : i < n) (Q : Option Value → iHp → Prop) : ∀ m e c, e + m = n → i < e → (tE (s.2.1 21) (s.2.1 21 i) e m = tEnd (s.2.1 21) n i ∧ e ≤ tEnd (s.2.1 21) n i) → iWp 2 mX9_children 6 [.ref x, .int (nI i), .int (nI c), .int (nI e)] [] (mH b x s) Q = Q (some (.int (nI (tC (s.2.1 21) (s.2.1 21 i) e m c)))) (mH b x s) := by
  intro m
  have hE := tEnd_gt (D := s.2.1 21) hi
  induction m with
  | zero =>
    intro e c he hie hz
    have e1 : tEnd (s.2.1 21) n i = e := hz.1.symm
    rw [X9_children_6]
    simp only [X9_children_0, X9_children_1, X9_children_2, X9_children_3, X9_children_4, X9_children_5, X9_children_7, X9_children_8, X9_children_9 (ev9_end hn h66 hi) mH_obj, X9_children_12, X9_children_15, X9_children_16, X9_children_19, X9_children_20, X9_children_21, X9_children_22, X9_children_25, X9_children_26, X9_children_27, X9_children_28, X9_children_29, X9_children_32, X9_children_35, X9_children_38, X9_children_41, X9_children_42, iOb_some, iClr_i, iClr_r, iClr_n, iClr_u, iClr_l, rf_s, rf_n, iB_0, iSum_nil, e1, if_pos (nI_le (Nat.le_refl e) (by omega)), tC]
  | succ m ih =>
    intro e c he hie hz
    rw [X9_children_6]
    by_cases hk : s.2.1 21 i < s.2.1 21 e
    · have hz1 : tE (s.2.1 21) (s.2.1 21 i) (e + 1) m = tEnd (s.2.1 21) n i := by
        have := hz.1
        unfold tE at this
        rwa [if_pos hk] at this
      have hge := (tE_le (D := s.2.1 21) (d := s.2.1 21 i) m (e + 1)).1
      simp only [X9_children_0, X9_children_1, X9_children_2, X9_children_3, X9_children_4, X9_children_5, X9_children_7, X9_children_8, X9_children_9 (ev9_end hn h66 hi) mH_obj, X9_children_12, X9_children_15, X9_children_16, X9_children_19, X9_children_20, X9_children_21, X9_children_22, X9_children_25, X9_children_26, X9_children_27, X9_children_28, X9_children_29, X9_children_32, X9_children_35, X9_children_38, X9_children_41, X9_children_42, iOb_some, iClr_i, iClr_r, iClr_n, iClr_u, iClr_l, rf_s, rf_n, iB_0, iSum_nil, if_neg (nI_ge (show e < tEnd (s.2.1 21) n i by omega) (by omega)), mg21, ml21 (show e < 66 by omega), ml21 (show i < 66 by omega), nI_1]
      rw [ih (e + 1) c (by omega) (by omega) ⟨hz1, by omega⟩, ih (e + 1) (c + 1) (by omega) (by omega) ⟨hz1, by omega⟩]
      show _ = Q (some (.int (nI (if s.2.1 21 i < s.2.1 21 e then tC (s.2.1 21) (s.2.1 21 i) (e + 1) m (if s.2.1 21 e = s.2.1 21 i + 1 then c + 1 else c) else c)))) (mH b x s)
      rw [if_pos hk]
      by_cases h2 : s.2.1 21 e = s.2.1 21 i + 1
      · rw [if_pos h2, if_pos h2]
      · rw [if_neg h2, if_neg h2]
    · have e1 : tEnd (s.2.1 21) n i = e := by
        have := hz.1
        unfold tE at this
        rw [if_neg hk] at this
        exact this.symm
      simp only [X9_children_0, X9_children_1, X9_children_2, X9_children_3, X9_children_4, X9_children_5, X9_children_7, X9_children_8, X9_children_9 (ev9_end hn h66 hi) mH_obj, X9_children_12, X9_children_15, X9_children_16, X9_children_19, X9_children_20, X9_children_21, X9_children_22, X9_children_25, X9_children_26, X9_children_27, X9_children_28, X9_children_29, X9_children_32, X9_children_35, X9_children_38, X9_children_41, X9_children_42, iOb_some, iClr_i, iClr_r, iClr_n, iClr_u, iClr_l, rf_s, rf_n, iB_0, iSum_nil, e1, if_pos (nI_le (Nat.le_refl e) (by omega)), tC, if_neg hk]
theorem ev9_children (hn : s.1 18 = nI n) (h66 : n ≤ 66) {i : Nat} (hi : i < n) : iEv mX9_children [.ref x, .int (nI i)] (mH b x s) (some (.int (nI (tKids (s.2.1 21) n i)))) (mH b x s) := by
  refine J9_children ?_
  simp only [X9_children_0, X9_children_1, X9_children_2, X9_children_3, X9_children_4, X9_children_5, X9_children_7, X9_children_8, X9_children_12, X9_children_15, X9_children_16, X9_children_19, X9_children_20, X9_children_21, X9_children_22, X9_children_25, X9_children_26, X9_children_27, X9_children_28, X9_children_29, X9_children_32, X9_children_35, X9_children_38, X9_children_41, X9_children_42, iOb_some, iClr_i, iClr_r, iClr_n, iClr_u, iClr_l, rf_s, rf_n, iB_0, iSum_nil, nI_1]
  exact (children9_loop hn h66 hi _ (n - (i + 1)) (i + 1) 0 (by omega) (by omega) ⟨rfl, (tEnd_gt hi).1⟩).mpr ⟨rfl, rfl⟩
theorem ev9_isBelow (hn : s.1 18 = nI n) (h66 : n ≤ 66) {i j : Nat} (hi : i < n) (hj : j < n) : iEv mX9_isBelow [.ref x, .int (nI i), .int (nI j)] (mH b x s) (some (.int (iB (decide (j ≤ i) && decide (i < tEnd (s.2.1 21) n j))))) (mH b x s) := by
  refine J9_isBelow ?_
  have hE := tEnd_gt (D := s.2.1 21) hj
  by_cases h1 : i < j
  · simp only [X9_isBelow_0, X9_isBelow_1, X9_isBelow_2, X9_isBelow_5, X9_isBelow_6, X9_isBelow_7, X9_isBelow_11, X9_isBelow_14, X9_isBelow_15, X9_isBelow_18, X9_isBelow_19, X9_isBelow_19z, X9_isBelow_19o, iOb_some, iClr_i, iClr_r, iClr_n, iClr_u, iClr_l, rf_s, rf_n, iB_0, iSum_nil, if_pos (nI_lt h1 (show j < 2 ^ 31 by omega)), show decide (j ≤ i) = false from decide_eq_false (by omega), Bool.false_and, and_self]
  · by_cases h2 : i < tEnd (s.2.1 21) n j
    · simp only [X9_isBelow_0, X9_isBelow_1, X9_isBelow_2, X9_isBelow_5, X9_isBelow_6, X9_isBelow_7, X9_isBelow_8 (ev9_end hn h66 hj) mH_obj, X9_isBelow_11, X9_isBelow_14, X9_isBelow_15, X9_isBelow_18, X9_isBelow_19, X9_isBelow_19z, X9_isBelow_19o, iOb_some, iClr_i, iClr_r, iClr_n, iClr_u, iClr_l, rf_s, rf_n, iB_0, iSum_nil, if_neg (nI_nlt (show j ≤ i by omega) (by omega)), if_neg (nI_ge h2 (by omega)), show decide (j ≤ i) = true from decide_eq_true (by omega), decide_eq_true h2, Bool.true_and, and_self]
    · simp only [X9_isBelow_0, X9_isBelow_1, X9_isBelow_2, X9_isBelow_5, X9_isBelow_6, X9_isBelow_7, X9_isBelow_8 (ev9_end hn h66 hj) mH_obj, X9_isBelow_11, X9_isBelow_14, X9_isBelow_15, X9_isBelow_18, X9_isBelow_19, X9_isBelow_19z, X9_isBelow_19o, iOb_some, iClr_i, iClr_r, iClr_n, iClr_u, iClr_l, rf_s, rf_n, iB_0, iSum_nil, if_neg (nI_nlt (show j ≤ i by omega) (by omega)), if_pos (nI_le (show tEnd (s.2.1 21) n j ≤ i by omega) (by omega)), decide_eq_false h2, Bool.and_false, and_self]
theorem child9_loop (hn : s.1 18 = nI n) (h66 : n ≤ 66) {i pl : Nat} (hpl : pl < 2 ^ 30) (hi : i < n) (Q : Option Value → iHp → Prop) : ∀ m k a, k + m = pl → i < a → a ≤ n → iWp 2 mX9_child 7 [.ref x, .int (nI i), .int (nI pl), .int (nI a), .int (nI k)] [] (mH b x s) Q = Q (some (.int (nI (tCh (s.2.1 21) n i m a)))) (mH b x s) := by
  intro m
  have hE := tEnd_gt (D := s.2.1 21) hi
  induction m with
  | zero =>
    intro k a hk h1 h2
    rw [X9_child_7]
    simp only [X9_child_0, X9_child_1, X9_child_2, X9_child_3, X9_child_4, X9_child_5, X9_child_9, X9_child_10, X9_child_13, X9_child_14, X9_child_15, X9_child_19, X9_child_22, X9_child_23, X9_child_27, X9_child_28, X9_child_31, X9_child_34, X9_child_35, iOb_some, iClr_i, iClr_r, iClr_n, iClr_u, iClr_l, rf_s, rf_n, iB_0, iSum_nil, if_pos (nI_le (show pl ≤ k by omega) (by omega)), tCh]
  | succ m ih =>
    intro k a hk h1 h2
    rw [X9_child_7]
    by_cases h3 : a < tEnd (s.2.1 21) n i
    · have hA := tEnd_gt (D := s.2.1 21) (show a < n by omega)
      simp only [X9_child_0, X9_child_1, X9_child_2, X9_child_3, X9_child_4, X9_child_5, X9_child_9, X9_child_10, X9_child_13, X9_child_14, X9_child_15, X9_child_16 (ev9_end hn h66 hi) mH_obj, X9_child_19, X9_child_22, X9_child_23, X9_child_24 (ev9_end hn h66 (show a < n by omega)) mH_obj, X9_child_27, X9_child_28, X9_child_31, X9_child_34, X9_child_35, iOb_some, iClr_i, iClr_r, iClr_n, iClr_u, iClr_l, rf_s, rf_n, iB_0, iSum_nil, if_neg (nI_ge (show k < pl by omega) (by omega)), if_neg (nI_ge h3 (by omega)), nI_1]
      rw [ih (k + 1) _ (by omega) (by omega) hA.2]
      simp [tCh, h3]
    · simp only [X9_child_0, X9_child_1, X9_child_2, X9_child_3, X9_child_4, X9_child_5, X9_child_9, X9_child_10, X9_child_13, X9_child_14, X9_child_15, X9_child_16 (ev9_end hn h66 hi) mH_obj, X9_child_19, X9_child_22, X9_child_23, X9_child_27, X9_child_28, X9_child_31, X9_child_34, X9_child_35, iOb_some, iClr_i, iClr_r, iClr_n, iClr_u, iClr_l, rf_s, rf_n, iB_0, iSum_nil, if_neg (nI_ge (show k < pl by omega) (by omega)), if_pos (nI_le (show tEnd (s.2.1 21) n i ≤ a by omega) (by omega)), tCh, if_neg h3]
theorem ev9_child (hn : s.1 18 = nI n) (h66 : n ≤ 66) {i pl : Nat} (hpl : pl < 2 ^ 30) (hi : i < n) : iEv mX9_child [.ref x, .int (nI i), .int (nI pl)] (mH b x s) (some (.int (nI (tChild (s.2.1 21) n i pl)))) (mH b x s) := by
  refine J9_child ?_
  simp only [X9_child_0, X9_child_1, X9_child_2, X9_child_3, X9_child_4, X9_child_5, X9_child_9, X9_child_10, X9_child_13, X9_child_14, X9_child_15, X9_child_19, X9_child_22, X9_child_23, X9_child_27, X9_child_28, X9_child_31, X9_child_34, X9_child_35, iOb_some, iClr_i, iClr_r, iClr_n, iClr_u, iClr_l, rf_s, rf_n, iB_0, iSum_nil, nI_1]
  exact (child9_loop hn h66 hpl hi _ pl 0 (i + 1) (by omega) (by omega) (by omega)).mpr ⟨rfl, rfl⟩
end MTREE

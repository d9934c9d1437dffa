/-! the class's Patch, read -/
section PATCH2
variable {h b : iHp} {d n c p q x a k m j : Nat} {E F : Nat → Option Nat} {C : Nat → Int32} {st so sr : Int32} {G : Nat → Nat → Int32}
theorem iLen_of {ty : Nat} {z : (Nat → Int32) ⊕ (Nat → Int64) ⊕ (Nat → UInt32) ⊕ (Nat → UInt64) ⊕ (Nat → Option Nat)} (e : h.1 a = some (.inl (ty, m, z))) (hk : ty = 7 ∨ ty = 0 ∨ ty = 1 ∨ ty = 2 ∨ iRK ty = true) : iLen h a = some (nI m) := by
  unfold iLen
  rw [e]
  dsimp only
  rw [if_pos hk]
  rfl
theorem ptAt.g0 (hP : ptAt h p n c st so sr E C) : iGet h p 3 0 = some (.int st) := iGet_of hP.1
theorem ptAt.g1 (hP : ptAt h p n c st so sr E C) : iGet h p 3 1 = some (.ref (p + 1)) := iGet_of hP.1
theorem ptAt.g2 (hP : ptAt h p n c st so sr E C) : iGet h p 3 2 = some (.ref (p + 2)) := iGet_of hP.1
theorem ptAt.g3 (hP : ptAt h p n c st so sr E C) : iGet h p 3 3 = some (.int so) := iGet_of hP.1
theorem ptAt.g4 (hP : ptAt h p n c st so sr E C) : iGet h p 3 4 = some (.int sr) := iGet_of hP.1
theorem ptAt.o (hP : ptAt h p n c st so sr E C) : iObj h p 3 = true := iObj_of hP.1
theorem ptAt.ln (hP : ptAt h p n c st so sr E C) : iLen h (p + 1) = some (nI n) := iLen_of hP.2.1 (Or.inr (Or.inr (Or.inr (Or.inr rfl))))
theorem ptAt.lnc (hP : ptAt h p n c st so sr E C) : iLen h (p + 2) = some (nI (2 * c)) := iLen_of hP.2.2.1 (Or.inr (Or.inl rfl))
theorem ptAt.le (hP : ptAt h p n c st so sr E C) (hj : j < n) : iLdQ h (p + 1) (nI j) = some (E j) := iLdQ_of hP.2.1 rfl hj (by have := hP.2.2.2.1; omega)
theorem ptAt.lc (hP : ptAt h p n c st so sr E C) (hj : j < 2 * c) : iLdI h (p + 2) (nI j) = some (C j) := iLdI_of hP.2.2.1 hj (by have := hP.2.2.2.2; omega)
theorem ev_psize (hP : ptAt h p n c st so sr E C) : iEv mX3_size [.ref p] h (some (.int (nI n))) h := by
  refine J3_size ?_
  simp only [X3_size_0, X3_size_1, X3_size_4, X3_size_5, iOb_some, iClr_i, iClr_r, iClr_n, iClr_u, iClr_l, rf_s, rf_n, iB_0, iSum_nil, hP.g1, hP.ln, and_self]
theorem ev_pccount (hP : ptAt h p n c st so sr E C) : iEv mX3_conflictCount [.ref p] h (some (.int (nI c))) h := by
  have hc := hP.2.2.2.2
  refine J3_conflictCount ?_
  simp only [X3_conflictCount_0, X3_conflictCount_1, X3_conflictCount_4, X3_conflictCount_5, X3_conflictCount_6 (show ¬ (2 : Int32) = 0 by decide), X3_conflictCount_7, iOb_some, iClr_i, iClr_r, iClr_n, iClr_u, iClr_l, rf_s, rf_n, iB_0, iSum_nil, hP.g2, hP.lnc]
  refine ⟨?_, trivial⟩
  rw [show (2 : Int32) = nI 2 from rfl, pk_div (show 2 * c < 2 ^ 31 by omega) (by decide) (by decide), Nat.mul_div_cancel_left c (by decide)]
theorem ev_pedit (hP : ptAt h p n c st so sr E C) (hj : j < n) (hE : E j = some x) : iEv mX3_editAt [.ref p, .int (nI j)] h (some (.ref x)) h := by
  have hn := hP.2.2.2.1
  refine J3_editAt ?_
  simp only [X3_editAt_0, X3_editAt_1, X3_editAt_4, X3_editAt_5, X3_editAt_6, X3_editAt_9, X3_editAt_10, X3_editAt_13, X3_editAt_14, X3_editAt_17, X3_editAt_18, X3_editAt_19, X3_editAt_22, X3_editAt_23, X3_editAt_23n, iOb_some, iClr_i, iClr_r, iClr_n, iClr_u, iClr_l, rf_s, rf_n, iB_0, iSum_nil, hP.g1, hP.ln, hP.le hj, hE, if_neg (show ¬ nI j < 0 from nI_pos (by omega)), if_neg (nI_ge hj (by omega)), and_self]
theorem ev_peditN (hP : ptAt h p n c st so sr E C) {i : Int32} (hi : i < 0 ∨ nI n ≤ i) : iEv mX3_editAt [.ref p, .int i] h (some .null) h := by
  refine J3_editAt ?_
  by_cases c1 : i < 0
  · simp only [X3_editAt_0, X3_editAt_1, X3_editAt_4, X3_editAt_5, X3_editAt_6, X3_editAt_9, X3_editAt_10, X3_editAt_13, X3_editAt_14, X3_editAt_17, X3_editAt_18, X3_editAt_19, X3_editAt_22, X3_editAt_23, X3_editAt_23n, iOb_some, iClr_i, iClr_r, iClr_n, iClr_u, iClr_l, rf_s, rf_n, iB_0, iSum_nil, if_pos c1, and_self]
  · have c2 : nI n ≤ i := by
      rcases hi with z | z
      · exact absurd z c1
      · exact z
    simp only [X3_editAt_0, X3_editAt_1, X3_editAt_4, X3_editAt_5, X3_editAt_6, X3_editAt_9, X3_editAt_10, X3_editAt_13, X3_editAt_14, X3_editAt_17, X3_editAt_18, X3_editAt_19, X3_editAt_22, X3_editAt_23, X3_editAt_23n, iOb_some, iClr_i, iClr_r, iClr_n, iClr_u, iClr_l, rf_s, rf_n, iB_0, iSum_nil, hP.g1, hP.ln, if_neg c1, if_pos c2, and_self]
theorem ev_pconf (hP : ptAt h p n c st so sr E C) (hj : j < c) {w : Nat} (hw : w < 2) : iEv mX3_conflictAt [.ref p, .int (nI j), .int (nI w)] h (some (.int (C (2 * j + w)))) h := by
  have hc := hP.2.2.2.2
  refine J3_conflictAt ?_
  simp only [X3_conflictAt_0, X3_conflictAt_1, X3_conflictAt_2, X3_conflictAt_3, X3_conflictAt_4, X3_conflictAt_5, X3_conflictAt_6, X3_conflictAt_7, X3_conflictAt_10, X3_conflictAt_11, X3_conflictAt_12, X3_conflictAt_15, X3_conflictAt_16, X3_conflictAt_19, X3_conflictAt_20, X3_conflictAt_23, X3_conflictAt_24, X3_conflictAt_25, X3_conflictAt_28, X3_conflictAt_29, iOb_some, iClr_i, iClr_r, iClr_n, iClr_u, iClr_l, rf_s, rf_n, iB_0, iSum_nil, show (2 : Int32) = nI 2 from rfl, pk_mul, nI_add, hP.g2, hP.lnc, hP.lc (show 2 * j + w < 2 * c by omega), if_neg (show ¬ nI (2 * j + w) < 0 from nI_pos (by omega)), if_neg (nI_ge (show 2 * j + w < 2 * c by omega) (by omega)), and_self]
/-- is a patch of this sort -/
def pIs (so i : Int32) : Bool := i == 0 || i == so || (i == 2 && so == 3)
theorem ev_pisOf (hP : ptAt h p n c st so sr E C) (i : Int32) : iEv mX3_isOf [.ref p, .int i] h (some (.int (iB (pIs so i)))) h := by
  refine J3_isOf ?_
  unfold pIs
  by_cases c0 : i = 0
  · simp only [X3_isOf_0, X3_isOf_1, X3_isOf_4, X3_isOf_5, X3_isOf_6, X3_isOf_9, X3_isOf_12, X3_isOf_13, X3_isOf_14, X3_isOf_17, X3_isOf_18, X3_isOf_21, X3_isOf_22, X3_isOf_25, X3_isOf_26, X3_isOf_29, X3_isOf_30, X3_isOf_30z, X3_isOf_30o, iOb_some, iClr_i, iClr_r, iClr_n, iClr_u, iClr_l, rf_s, rf_n, iB_0, iSum_nil, if_pos c0]
    exact ⟨by simp [c0], trivial⟩
  · by_cases c1 : i = so
    · simp only [X3_isOf_0, X3_isOf_1, X3_isOf_4, X3_isOf_5, X3_isOf_6, X3_isOf_9, X3_isOf_12, X3_isOf_13, X3_isOf_14, X3_isOf_17, X3_isOf_18, X3_isOf_21, X3_isOf_22, X3_isOf_25, X3_isOf_26, X3_isOf_29, X3_isOf_30, X3_isOf_30z, X3_isOf_30o, iOb_some, iClr_i, iClr_r, iClr_n, iClr_u, iClr_l, rf_s, rf_n, iB_0, iSum_nil, hP.g3, if_neg c0, if_pos c1]
      exact ⟨by simp [c1], trivial⟩
    · by_cases c2 : i = 2
      · by_cases c3 : so = 3
        · simp only [X3_isOf_0, X3_isOf_1, X3_isOf_4, X3_isOf_5, X3_isOf_6, X3_isOf_9, X3_isOf_12, X3_isOf_13, X3_isOf_14, X3_isOf_17, X3_isOf_18, X3_isOf_21, X3_isOf_22, X3_isOf_25, X3_isOf_26, X3_isOf_29, X3_isOf_30, X3_isOf_30z, X3_isOf_30o, iOb_some, iClr_i, iClr_r, iClr_n, iClr_u, iClr_l, rf_s, rf_n, iB_0, iSum_nil, hP.g3, if_neg c0, if_neg c1, if_pos c2, if_pos c3]
          exact ⟨by simp [c2, c3], trivial⟩
        · simp only [X3_isOf_0, X3_isOf_1, X3_isOf_4, X3_isOf_5, X3_isOf_6, X3_isOf_9, X3_isOf_12, X3_isOf_13, X3_isOf_14, X3_isOf_17, X3_isOf_18, X3_isOf_21, X3_isOf_22, X3_isOf_25, X3_isOf_26, X3_isOf_29, X3_isOf_30, X3_isOf_30z, X3_isOf_30o, iOb_some, iClr_i, iClr_r, iClr_n, iClr_u, iClr_l, rf_s, rf_n, iB_0, iSum_nil, hP.g3, if_neg c0, if_neg c1, if_pos c2, if_neg c3]
          exact ⟨by rw [beq_false_of_ne c0, beq_false_of_ne c1, beq_false_of_ne c3, Bool.and_false]; rfl, trivial⟩
      · simp only [X3_isOf_0, X3_isOf_1, X3_isOf_4, X3_isOf_5, X3_isOf_6, X3_isOf_9, X3_isOf_12, X3_isOf_13, X3_isOf_14, X3_isOf_17, X3_isOf_18, X3_isOf_21, X3_isOf_22, X3_isOf_25, X3_isOf_26, X3_isOf_29, X3_isOf_30, X3_isOf_30z, X3_isOf_30o, iOb_some, iClr_i, iClr_r, iClr_n, iClr_u, iClr_l, rf_s, rf_n, iB_0, iSum_nil, hP.g3, if_neg c0, if_neg c1, if_neg c2]
        exact ⟨by rw [beq_false_of_ne c0, beq_false_of_ne c1, beq_false_of_ne c2]; rfl, trivial⟩
/-- the edits of a patch: G j is the j-th -/
def pEd (h : iHp) (n : Nat) (E : Nat → Option Nat) (G : Nat → Nat → Int32) : Prop := ∀ j, j < n → ∃ x, E j = some x ∧ edAt h x (G j)
def cntE (G : Nat → Nat → Int32) (w : Int32) : Nat → Nat
  | 0 => 0
  | j + 1 => if G j 0 = w then cntE G w j + 1 else cntE G w j
theorem count_loop (hP : ptAt h p n c st so sr E C) (hG : pEd h n E G) (w : Int32) {Q : Option Value → iHp → Prop} : ∀ k i, i + k = n → ∀ z, (iWp 1 mX3_countOf 4 [.ref p, .int w, .int (nI (cntE G w i)), .int (nI i), z] [] h Q = Q (some (.int (nI (cntE G w n)))) h) := by
  have hn := hP.2.2.2.1
  intro k
  induction k with
  | zero =>
    intro i hi z
    obtain rfl : i = n := by omega
    rw [X3_countOf_4]
    simp only [X3_countOf_0, X3_countOf_1, X3_countOf_2, X3_countOf_3, X3_countOf_5, X3_countOf_6, X3_countOf_9, X3_countOf_10, X3_countOf_13, X3_countOf_14, X3_countOf_17, X3_countOf_18, X3_countOf_19, X3_countOf_19n, X3_countOf_21, X3_countOf_21n, X3_countOf_23, X3_countOf_23n, X3_countOf_26, X3_countOf_26n, X3_countOf_28, X3_countOf_31, X3_countOf_32, X3_countOf_35, X3_countOf_38, X3_countOf_41, X3_countOf_44, X3_countOf_45, iOb_some, iClr_i, iClr_r, iClr_n, iClr_u, iClr_l, rf_s, rf_n, iB_0, iSum_nil, hP.g1, hP.ln, if_pos (Int32.le_refl (nI i))]
  | succ k ih =>
    intro i hi z
    obtain ⟨x, e1, e2⟩ := hG i (by omega)
    rw [X3_countOf_4]
    by_cases e : G i 0 = w
    · have r := ih (i + 1) (by omega) (.ref x)
      rw [show cntE G w (i + 1) = cntE G w i + 1 from if_pos e, nI_succ, nI_succ] at r
      simp only [X3_countOf_0, X3_countOf_1, X3_countOf_2, X3_countOf_3, X3_countOf_5, X3_countOf_6, X3_countOf_9, X3_countOf_10, X3_countOf_13, X3_countOf_14, X3_countOf_17, X3_countOf_18, X3_countOf_19, X3_countOf_19n, X3_countOf_21, X3_countOf_21n, X3_countOf_23, X3_countOf_23n, X3_countOf_26, X3_countOf_26n, X3_countOf_28, X3_countOf_31, X3_countOf_32, X3_countOf_35, X3_countOf_38, X3_countOf_41, X3_countOf_44, X3_countOf_45, iOb_some, iClr_i, iClr_r, iClr_n, iClr_u, iClr_l, rf_s, rf_n, iB_0, iSum_nil, hP.g1, hP.ln, hP.le (show i < n by omega), e1, e2.g0, if_neg (nI_ge (show i < n by omega) (by omega)), if_pos e, r]
    · have r := ih (i + 1) (by omega) (.ref x)
      rw [show cntE G w (i + 1) = cntE G w i from if_neg e, nI_succ] at r
      simp only [X3_countOf_0, X3_countOf_1, X3_countOf_2, X3_countOf_3, X3_countOf_5, X3_countOf_6, X3_countOf_9, X3_countOf_10, X3_countOf_13, X3_countOf_14, X3_countOf_17, X3_countOf_18, X3_countOf_19, X3_countOf_19n, X3_countOf_21, X3_countOf_21n, X3_countOf_23, X3_countOf_23n, X3_countOf_26, X3_countOf_26n, X3_countOf_28, X3_countOf_31, X3_countOf_32, X3_countOf_35, X3_countOf_38, X3_countOf_41, X3_countOf_44, X3_countOf_45, iOb_some, iClr_i, iClr_r, iClr_n, iClr_u, iClr_l, rf_s, rf_n, iB_0, iSum_nil, hP.g1, hP.ln, hP.le (show i < n by omega), e1, e2.g0, if_neg (nI_ge (show i < n by omega) (by omega)), if_neg e, r]
theorem ev_pcount (hP : ptAt h p n c st so sr E C) (hG : pEd h n E G) (w : Int32) : iEv mX3_countOf [.ref p, .int w] h (some (.int (nI (cntE G w n)))) h := by
  refine J3_countOf ?_
  simp only [X3_countOf_0, X3_countOf_1, X3_countOf_2, X3_countOf_3, iOb_some, iClr_i, iClr_r, iClr_n, iClr_u, iClr_l, rf_s, rf_n, iB_0, iSum_nil]
  exact (count_loop hP hG w (Q := fun r' h' => r' = some (.int (nI (cntE G w n))) ∧ h' = h) n 0 (by omega) _).mpr ⟨rfl, rfl⟩
def bitE (G : Nat → Nat → Int32) (less : Int32) : Nat → Int32
  | 0 => 0
  | j + 1 => if 1 ≤ G j 1 - less ∧ G j 1 - less ≤ 30 then bitE G less j ||| (1 <<< ((G j 1 - less) &&& 31)) else bitE G less j
theorem bits_loop (hP : ptAt h p n c st so sr E C) (hG : pEd h n E G) (w : Int32) {Q : Option Value → iHp → Prop} : ∀ k i, i + k = n → ∀ z y, (iWp 1 mX3_keyBits 4 [.ref p, .int w, .int (bitE G w i), .int (nI i), z, y] [] h Q = Q (some (.int (bitE G w n))) h) := by
  have hn := hP.2.2.2.1
  intro k
  induction k with
  | zero =>
    intro i hi z y
    obtain rfl : i = n := by omega
    rw [X3_keyBits_4]
    simp only [X3_keyBits_0, X3_keyBits_1, X3_keyBits_2, X3_keyBits_3, X3_keyBits_5, X3_keyBits_6, X3_keyBits_9, X3_keyBits_10, X3_keyBits_13, X3_keyBits_14, X3_keyBits_17, X3_keyBits_18, X3_keyBits_19, X3_keyBits_19n, X3_keyBits_21, X3_keyBits_21n, X3_keyBits_23, X3_keyBits_23n, X3_keyBits_26, X3_keyBits_27, X3_keyBits_30, X3_keyBits_30n, X3_keyBits_32, X3_keyBits_35, X3_keyBits_36, X3_keyBits_37, X3_keyBits_39, X3_keyBits_41, X3_keyBits_42, X3_keyBits_45, X3_keyBits_47, X3_keyBits_49, X3_keyBits_52, X3_keyBits_53, X3_keyBits_54, X3_keyBits_56, X3_keyBits_57, X3_keyBits_58, X3_keyBits_59, X3_keyBits_62, X3_keyBits_65, X3_keyBits_66, iOb_some, iClr_i, iClr_r, iClr_n, iClr_u, iClr_l, rf_s, rf_n, iB_0, iSum_nil, hP.g1, hP.ln, if_pos (Int32.le_refl (nI i))]
  | succ k ih =>
    intro i hi z y
    obtain ⟨x, e1, e2⟩ := hG i (by omega)
    rw [X3_keyBits_4]
    have r := ih (i + 1) (by omega) (.ref x) (.int (G i 1 - w))
    rw [nI_succ] at r
    by_cases c1 : G i 1 - w < 1
    · rw [show bitE G w (i + 1) = bitE G w i from if_neg (fun z => Int32.not_le.mpr c1 z.1)] at r
      simp only [X3_keyBits_0, X3_keyBits_1, X3_keyBits_2, X3_keyBits_3, X3_keyBits_5, X3_keyBits_6, X3_keyBits_9, X3_keyBits_10, X3_keyBits_13, X3_keyBits_14, X3_keyBits_17, X3_keyBits_18, X3_keyBits_19, X3_keyBits_19n, X3_keyBits_21, X3_keyBits_21n, X3_keyBits_23, X3_keyBits_23n, X3_keyBits_26, X3_keyBits_27, X3_keyBits_30, X3_keyBits_30n, X3_keyBits_32, X3_keyBits_35, X3_keyBits_36, X3_keyBits_37, X3_keyBits_39, X3_keyBits_41, X3_keyBits_42, X3_keyBits_45, X3_keyBits_47, X3_keyBits_49, X3_keyBits_52, X3_keyBits_53, X3_keyBits_54, X3_keyBits_56, X3_keyBits_57, X3_keyBits_58, X3_keyBits_59, X3_keyBits_62, X3_keyBits_65, X3_keyBits_66, iOb_some, iClr_i, iClr_r, iClr_n, iClr_u, iClr_l, rf_s, rf_n, iB_0, iSum_nil, hP.g1, hP.ln, hP.le (show i < n by omega), e1, e2.g1, if_neg (nI_ge (show i < n by omega) (by omega)), if_pos c1, r]
    · by_cases c2 : (30 : Int32) < G i 1 - w
      · rw [show bitE G w (i + 1) = bitE G w i from if_neg (fun z => Int32.not_le.mpr c2 z.2)] at r
        simp only [X3_keyBits_0, X3_keyBits_1, X3_keyBits_2, X3_keyBits_3, X3_keyBits_5, X3_keyBits_6, X3_keyBits_9, X3_keyBits_10, X3_keyBits_13, X3_keyBits_14, X3_keyBits_17, X3_keyBits_18, X3_keyBits_19, X3_keyBits_19n, X3_keyBits_21, X3_keyBits_21n, X3_keyBits_23, X3_keyBits_23n, X3_keyBits_26, X3_keyBits_27, X3_keyBits_30, X3_keyBits_30n, X3_keyBits_32, X3_keyBits_35, X3_keyBits_36, X3_keyBits_37, X3_keyBits_39, X3_keyBits_41, X3_keyBits_42, X3_keyBits_45, X3_keyBits_47, X3_keyBits_49, X3_keyBits_52, X3_keyBits_53, X3_keyBits_54, X3_keyBits_56, X3_keyBits_57, X3_keyBits_58, X3_keyBits_59, X3_keyBits_62, X3_keyBits_65, X3_keyBits_66, iOb_some, iClr_i, iClr_r, iClr_n, iClr_u, iClr_l, rf_s, rf_n, iB_0, iSum_nil, hP.g1, hP.ln, hP.le (show i < n by omega), e1, e2.g1, if_neg (nI_ge (show i < n by omega) (by omega)), if_neg c1, if_pos c2, r]
      · rw [show bitE G w (i + 1) = bitE G w i ||| (1 <<< ((G i 1 - w) &&& 31)) from if_pos ⟨Int32.not_lt.mp c1, Int32.not_lt.mp c2⟩] at r
        simp only [X3_keyBits_0, X3_keyBits_1, X3_keyBits_2, X3_keyBits_3, X3_keyBits_5, X3_keyBits_6, X3_keyBits_9, X3_keyBits_10, X3_keyBits_13, X3_keyBits_14, X3_keyBits_17, X3_keyBits_18, X3_keyBits_19, X3_keyBits_19n, X3_keyBits_21, X3_keyBits_21n, X3_keyBits_23, X3_keyBits_23n, X3_keyBits_26, X3_keyBits_27, X3_keyBits_30, X3_keyBits_30n, X3_keyBits_32, X3_keyBits_35, X3_keyBits_36, X3_keyBits_37, X3_keyBits_39, X3_keyBits_41, X3_keyBits_42, X3_keyBits_45, X3_keyBits_47, X3_keyBits_49, X3_keyBits_52, X3_keyBits_53, X3_keyBits_54, X3_keyBits_56, X3_keyBits_57, X3_keyBits_58, X3_keyBits_59, X3_keyBits_62, X3_keyBits_65, X3_keyBits_66, iOb_some, iClr_i, iClr_r, iClr_n, iClr_u, iClr_l, rf_s, rf_n, iB_0, iSum_nil, hP.g1, hP.ln, hP.le (show i < n by omega), e1, e2.g1, if_neg (nI_ge (show i < n by omega) (by omega)), if_neg c1, if_neg c2, r]
theorem ev_pbits (hP : ptAt h p n c st so sr E C) (hG : pEd h n E G) (w : Int32) : iEv mX3_keyBits [.ref p, .int w] h (some (.int (bitE G w n))) h := by
  refine J3_keyBits ?_
  simp only [X3_keyBits_0, X3_keyBits_1, X3_keyBits_2, X3_keyBits_3, iOb_some, iClr_i, iClr_r, iClr_n, iClr_u, iClr_l, rf_s, rf_n, iB_0, iSum_nil]
  exact (bits_loop hP hG w (Q := fun r' h' => r' = some (.int (bitE G w n)) ∧ h' = h) n 0 (by omega) _ _).mpr ⟨rfl, rfl⟩
end PATCH2

/-! the class's Row -/
section ROW
variable {h : iHp} {a n : Nat} {so : Int32} {f : Nat → Int64}
def rwAt (h : iHp) (a : Nat) (so : Int32) (n : Nat) (f : Nat → Int64) : Prop := h.1 a = some (.inr (5, [.int so, .ref (a + 1)])) ∧ h.1 (a + 1) = some (.inl (1, n, .inr (.inl f))) ∧ n ≤ 160
theorem rwAt.o (hR : rwAt h a so n f) : iObj h a 5 = true := iObj_of hR.1
theorem rwAt.s (hR : rwAt h a so n f) : iGet h a 5 0 = some (.int so) := iGet_of hR.1
theorem rwAt.e (hR : rwAt h a so n f) : iGet h a 5 1 = some (.ref (a + 1)) := iGet_of hR.1
theorem rwAt.l (hR : rwAt h a so n f) : iLen h (a + 1) = some (nI n) := by
  unfold iLen
  rw [hR.2.1]
  rfl
theorem iLdL_of {m j : Nat} {q : Nat} (e : h.1 q = some (.inl (1, m, .inr (.inl f)))) (hj : j < m) (hn : m < 2 ^ 31) : iLdL h q (nI j) = some (f j) := by
  unfold iLdL
  rw [e]
  dsimp only
  rw [if_pos ⟨rfl, nI_in hj hn⟩, nI_clamp (by omega)]
theorem rwAt.ld (hR : rwAt h a so n f) {j : Nat} (hj : j < n) : iLdL h (a + 1) (nI j) = some (f j) := iLdL_of hR.2.1 hj (by have := hR.2.2; omega)
theorem i_idx (i : Int32) (n : Nat) (hn : n < 2 ^ 31) : (i < 0 ∨ nI n ≤ i) ∨ ∃ j, j < n ∧ i = nI j := by
  rcases pk_ix i hn with h | h | h
  · exact Or.inl (Or.inl h)
  · exact Or.inl (Or.inr h)
  · exact Or.inr h
theorem ev_rlen (hR : rwAt h a so n f) : iEv mX5_length [.ref a] h (some (.int (nI n))) h := by
  refine J5_length ?_
  simp only [X5_length_0, X5_length_1, X5_length_4, X5_length_5, iOb_some, iClr_i, iClr_r, iClr_n, iClr_u, iClr_l, rf_s, rf_n, iB_0, iSum_nil, hR.e, hR.l, and_self]
theorem ev_rhas (hR : rwAt h a so n f) {j : Nat} (hj : j < n) : iEv mX5_has [.ref a, .int (nI j)] h (some (.int (iB true))) h := by
  refine J5_has ?_
  have hn := hR.2.2
  simp only [X5_has_0, X5_has_1, X5_has_4, X5_has_5, X5_has_6, X5_has_9, X5_has_10, X5_has_13, X5_has_14, X5_has_17, X5_has_18, X5_has_18z, X5_has_18o, iOb_some, iClr_i, iClr_r, iClr_n, iClr_u, iClr_l, rf_s, rf_n, iB_0, iSum_nil, hR.e, hR.l, if_neg (show ¬ nI j < 0 from nI_pos (by omega)), if_neg (nI_ge hj (by omega)), and_self]
theorem ev_rhas0 (hR : rwAt h a so n f) {i : Int32} (hi : i < 0 ∨ nI n ≤ i) : iEv mX5_has [.ref a, .int i] h (some (.int (iB false))) h := by
  refine J5_has ?_
  by_cases c : i < 0
  · simp only [X5_has_0, X5_has_1, X5_has_4, X5_has_5, X5_has_6, X5_has_9, X5_has_10, X5_has_13, X5_has_14, X5_has_17, X5_has_18, X5_has_18z, X5_has_18o, iOb_some, iClr_i, iClr_r, iClr_n, iClr_u, iClr_l, rf_s, rf_n, iB_0, iSum_nil, if_pos c, and_self]
  · have c2 : nI n ≤ i := by
      rcases hi with z | z
      · exact absurd z c
      · exact z
    simp only [X5_has_0, X5_has_1, X5_has_4, X5_has_5, X5_has_6, X5_has_9, X5_has_10, X5_has_13, X5_has_14, X5_has_17, X5_has_18, X5_has_18z, X5_has_18o, iOb_some, iClr_i, iClr_r, iClr_n, iClr_u, iClr_l, rf_s, rf_n, iB_0, iSum_nil, hR.e, hR.l, if_neg c, if_pos c2, and_self]
theorem ev_rlong (hR : rwAt h a so n f) {j : Nat} (hj : j < n) : iEv mX5_longAt [.ref a, .int (nI j)] h (some (.long (f j))) h := by
  refine J5_longAt ?_
  simp only [X5_longAt_0, X5_longAt_1, X5_longAt_2 (ev_rhas hR hj) hR.o, X5_longAt_5, X5_longAt_8, X5_longAt_9, X5_longAt_12, X5_longAt_13, X5_longAt_14, X5_longAt_17, X5_longAt_18, iOb_some, iClr_i, iClr_r, iClr_n, iClr_u, iClr_l, rf_s, rf_n, iB_0, iSum_nil, Bool.true_eq_false, if_false, hR.e, hR.ld hj, and_self]
theorem ev_rlong0 (hR : rwAt h a so n f) {i : Int32} (hi : i < 0 ∨ nI n ≤ i) : iEv mX5_longAt [.ref a, .int i] h (some (.long 0)) h := by
  refine J5_longAt ?_
  simp only [X5_longAt_0, X5_longAt_1, X5_longAt_2 (ev_rhas0 hR hi) hR.o, X5_longAt_5, X5_longAt_8, X5_longAt_9, X5_longAt_12, X5_longAt_13, X5_longAt_14, X5_longAt_17, X5_longAt_18, iOb_some, iClr_i, iClr_r, iClr_n, iClr_u, iClr_l, rf_s, rf_n, iB_0, iSum_nil, if_true, and_self]
theorem ev_rint (hR : rwAt h a so n f) {j : Nat} (hj : j < n) : iEv mX5_intAt [.ref a, .int (nI j)] h (some (.int (f j).toInt32)) h := by
  refine J5_intAt ?_
  simp only [X5_intAt_0, X5_intAt_1, X5_intAt_2 (ev_rlong hR hj) hR.o, X5_intAt_5, X5_intAt_6, iOb_some, iClr_i, iClr_r, iClr_n, iClr_u, iClr_l, rf_s, rf_n, iB_0, iSum_nil, and_self]
theorem ev_rint0 (hR : rwAt h a so n f) {i : Int32} (hi : i < 0 ∨ nI n ≤ i) : iEv mX5_intAt [.ref a, .int i] h (some (.int 0)) h := by
  refine J5_intAt ?_
  simp only [X5_intAt_0, X5_intAt_1, X5_intAt_2 (ev_rlong0 hR hi) hR.o, X5_intAt_5, X5_intAt_6, iOb_some, iClr_i, iClr_r, iClr_n, iClr_u, iClr_l, rf_s, rf_n, iB_0, iSum_nil, show Int64.toInt32 0 = 0 from rfl, and_self]
/-- what a row of a sort keeps of a long -/
def rwCut (so : Int32) (v : Int64) : Int64 := if so = 0 then v.toInt32.toInt8.toInt32.toInt64 else if so = 1 then v.toInt32.toInt16.toInt32.toInt64 else if so = 2 then v.toInt32.toInt64 else v
theorem ev_rcut (hR : rwAt h a so n f) (v : Int64) : iEv mX5_cutToSort [.ref a, .long v] h (some (.long (rwCut so v))) h := by
  refine J5_cutToSort ?_
  unfold rwCut
  simp only [X5_cutToSort_0, X5_cutToSort_1, iOb_some, iClr_i, iClr_r, iClr_n, iClr_u, iClr_l, rf_s, rf_n, iB_0, iSum_nil, hR.s]
  by_cases c0 : so = 0
  · rw [c0]
    simp only [X5_cutToSort_0, X5_cutToSort_1, X5_cutToSort_4_0, X5_cutToSort_4_1, X5_cutToSort_4_2, X5_cutToSort_32, X5_cutToSort_33, X5_cutToSort_34, X5_cutToSort_35, X5_cutToSort_36, X5_cutToSort_37, X5_cutToSort_38, X5_cutToSort_39, X5_cutToSort_40, X5_cutToSort_41, X5_cutToSort_42, X5_cutToSort_43, X5_cutToSort_44, X5_cutToSort_45, X5_cutToSort_46, X5_cutToSort_47, iOb_some, iClr_i, iClr_r, iClr_n, iClr_u, iClr_l, rf_s, rf_n, iB_0, iSum_nil, if_true, and_self]
  · by_cases c1 : so = 1
    · rw [c1]
      simp only [X5_cutToSort_0, X5_cutToSort_1, X5_cutToSort_4_0, X5_cutToSort_4_1, X5_cutToSort_4_2, X5_cutToSort_32, X5_cutToSort_33, X5_cutToSort_34, X5_cutToSort_35, X5_cutToSort_36, X5_cutToSort_37, X5_cutToSort_38, X5_cutToSort_39, X5_cutToSort_40, X5_cutToSort_41, X5_cutToSort_42, X5_cutToSort_43, X5_cutToSort_44, X5_cutToSort_45, X5_cutToSort_46, X5_cutToSort_47, iOb_some, iClr_i, iClr_r, iClr_n, iClr_u, iClr_l, rf_s, rf_n, iB_0, iSum_nil, if_neg (show ¬ (1 : Int32) = 0 by decide), if_true, and_self]
    · by_cases c2 : so = 2
      · rw [c2]
        simp only [X5_cutToSort_0, X5_cutToSort_1, X5_cutToSort_4_0, X5_cutToSort_4_1, X5_cutToSort_4_2, X5_cutToSort_32, X5_cutToSort_33, X5_cutToSort_34, X5_cutToSort_35, X5_cutToSort_36, X5_cutToSort_37, X5_cutToSort_38, X5_cutToSort_39, X5_cutToSort_40, X5_cutToSort_41, X5_cutToSort_42, X5_cutToSort_43, X5_cutToSort_44, X5_cutToSort_45, X5_cutToSort_46, X5_cutToSort_47, iOb_some, iClr_i, iClr_r, iClr_n, iClr_u, iClr_l, rf_s, rf_n, iB_0, iSum_nil, if_neg (show ¬ (2 : Int32) = 0 by decide), if_neg (show ¬ (2 : Int32) = 1 by decide), if_true, and_self]
      · rw [if_neg c0, if_neg c1, if_neg c2]
        rw [X5_cutToSort_4_d (i_sw3 c0 c1 c2)]
        simp only [X5_cutToSort_46, X5_cutToSort_47, iOb_some, iClr_i, iClr_r, iClr_n, iClr_u, iClr_l, rf_s, rf_n, iB_0, iSum_nil, and_self]
/-- the heap with another content in the row -/
def rwPut (h : iHp) (a n : Nat) (f : Nat → Int64) : iHp := iSet h (a + 1) (.inl (1, n, .inr (.inl f)))
theorem ev_rkeep (hR : rwAt h a so n f) {j : Nat} (hj : j < n) (v : Int64) : iEv mX5_keep [.ref a, .int (nI j), .long v] h none (rwPut h a n (vp_updL f j (rwCut so v))) := by
  refine J5_keep ?_
  have hn := hR.2.2
  have e : iStL h (a + 1) (nI j) (rwCut so v) = some (rwPut h a n (vp_updL f j (rwCut so v))) := by
    unfold iStL
    rw [hR.2.1]
    dsimp only
    rw [if_pos ⟨rfl, nI_in hj (by omega)⟩, nI_clamp (by omega)]
    rfl
  simp only [X5_keep_0, X5_keep_1, X5_keep_2 (ev_rhas hR hj) hR.o, X5_keep_5, X5_keep_8, X5_keep_9, X5_keep_12, X5_keep_13, X5_keep_14, X5_keep_15 (ev_rcut hR v) hR.o, X5_keep_18, X5_keep_19, iOb_some, iClr_i, iClr_r, iClr_n, iClr_u, iClr_l, rf_s, rf_n, iB_0, iSum_nil, Bool.true_eq_false, if_false, hR.e, e, and_self]
theorem rwPut_at (hR : rwAt h a so n f) {g : Nat → Int64} : rwAt (rwPut h a n g) a so n g := ⟨by
  show (if a = a + 1 then _ else h.1 a) = _
  rw [if_neg (by omega)]
  exact hR.1, if_pos rfl, hR.2.2⟩
end ROW

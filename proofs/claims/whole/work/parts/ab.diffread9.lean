/-! difference: bits; what the reference reads -/
def b9 (u : Int64) (j : Nat) : Bool := u.toBitVec.getLsbD j
/-- a tree the reference has -/
def rT (s : mS) (t : Nat) (T : tT) : Prop := t < 16 ∧ T.1 ≤ 60 ∧ s.2.1 1 t = nI T.1 ∧ mTr (s.2.1 2) (s.2.1 3) (s.2.1 4) t T
/-- the tree it works on -/
def rW (s : mS) (W : tT) : Prop := ∃ V, wIs s V ∧ tEq V W
/-- the next child behind one -/
def nxG (D : Nat → Int32) (z : Int32) : Nat → Nat → Option Nat
  | _, 0 => none
  | k, m + 1 => if z < D k then nxG D z (k + 1) m else if D k = z then some k else none
def nxt (U : tT) (p i : Nat) : Option Nat := nxG U.2.2.2 (U.2.2.2 p + 1) (i + 1) (U.1 - (i + 1))
/-- the place of a child of p's in W, if it is one there -/
def plO (U W : tT) (p c : Nat) : Option Nat := match tWhere W.2.1 W.1 (U.2.1 c) with
  | none => none
  | some i => if tPK W.2.1 W.2.2.2 i = U.2.1 p then some (tPlace W.2.2.2 i) else none
section READ9
variable {b : iHp} {x t u i j k p q c n m : Nat} {s s' : mS} {T U W : tT} {L : List Nat} {w : Int64} {Q : Option Value → iHp → Prop}
theorem b9_s : ∀ k, k < 64 → (((nI k).toInt64 &&& 63).toBitVec.smod 64).toNat = k := by decide +kernel
theorem b9_0 : b9 0 j = false := by
  show (0#64).getLsbD j = false
  simp
theorem b9_or (hq : q < 64) (hj : j < 64) : b9 (w ||| ((1 : Int64) <<< ((nI q).toInt64 &&& 63))) j = (b9 w j || decide (j = q)) := by
  unfold b9
  rw [Int64.toBitVec_or, Int64.toBitVec_shiftLeft, BitVec.getLsbD_or]
  congr 1
  show ((1#64) <<< (((nI q).toInt64 &&& 63).toBitVec.smod 64).toNat).getLsbD j = _
  rw [b9_s q hq, BitVec.getLsbD_shiftLeft]
  by_cases e : j = q
  · subst e
    simp [hj]
  · rcases Nat.lt_or_ge j q with v | v
    · simp [e, v]
    · have : ¬ j - q = 0 := by omega
      simp [e, this]
theorem b9_test (hj : j < 64) : ((w >>> ((nI j).toInt64 &&& 63)) &&& 1) = 0 ↔ b9 w j = false := by
  rw [← Int64.toBitVec_inj, Int64.toBitVec_and, Int64.toBitVec_shiftRight]
  show (w.toBitVec.sshiftRight (((nI j).toInt64 &&& 63).toBitVec.smod 64).toNat) &&& 1#64 = 0#64 ↔ _
  rw [b9_s j hj]
  unfold b9
  have e0 : (w.toBitVec.sshiftRight j).getLsbD 0 = w.toBitVec.getLsbD j := by
    rw [BitVec.getLsbD_sshiftRight, Nat.add_zero, if_pos hj]
    rfl
  constructor
  · intro h
    have t : ((w.toBitVec.sshiftRight j) &&& 1#64).getLsbD 0 = (0#64).getLsbD 0 := congrArg (fun x => x.getLsbD 0) h
    rw [BitVec.getLsbD_and, e0, show (1#64).getLsbD 0 = true by decide, show (0#64).getLsbD 0 = false by decide, Bool.and_true] at t
    exact t
  · intro h
    apply BitVec.eq_of_getLsbD_eq
    intro i hi
    rw [BitVec.getLsbD_and]
    cases i with
    | zero =>
      rw [e0, h]
      rfl
    | succ i => simp
theorem rT.ex (h : rT s t T) (hx : sEx L s s') (h1 : 1 ∉ L) (h2 : 2 ∉ L) (h3 : 3 ∉ L) (h4 : 4 ∉ L) : rT s' t T := by
  obtain ⟨a1, a2, a3, a4⟩ := h
  refine ⟨a1, a2, (congrFun (hx.2.1 1 h1) t).trans a3, fun i hi => ?_⟩
  rw [hx.2.1 2 h2, hx.2.1 3 h3, hx.2.1 4 h4]
  exact a4 i hi
theorem rW.ex (h : rW s W) (hx : sEx L s s') (h1 : 18 ∉ L) (h2 : 19 ∉ L) (h3 : 20 ∉ L) (h4 : 21 ∉ L) : rW s' W := by
  obtain ⟨V, v1, v2⟩ := h
  exact ⟨V, v1.ex hx h1 h2 h3 h4, v2⟩
theorem ev9_keyOf (hT : rT s t T) (hi : i < T.1) : iEv mX9_keyOf [.ref x, .int (nI t), .int (nI i)] (mH b x s) (some (.int (T.2.1 i))) (mH b x s) := by
  obtain ⟨a1, a2, a3, a4⟩ := hT
  refine J9_keyOf ?_
  simp only [X9_keyOf_0, X9_keyOf_1, X9_keyOf_4, X9_keyOf_6, X9_keyOf_7, X9_keyOf_8, X9_keyOf_9, X9_keyOf_10, X9_keyOf_11, iOb_some, iClr_i, iClr_r, iClr_n, iClr_u, iClr_l, rf_s, rf_n, iB_0, iSum_nil, mg2, i64, ml2 (show 64 * t + i < 1024 by omega), (a4 i hi).1, and_self]
theorem idx_loop (hT : rT s t T) (k : Int32) : ∀ m i, i + m = T.1 → iWp 2 mX9_indexOf 2 [.ref x, .int (nI t), .int k, .int (nI i)] [] (mH b x s) Q = Q (some (.int (oI (tW T.2.1 k i m)))) (mH b x s) := by
  obtain ⟨a1, a2, a3, a4⟩ := id hT
  intro m
  induction m with
  | zero =>
    intro i hi
    obtain rfl : i = T.1 := by omega
    rw [X9_indexOf_2]
    simp only [X9_indexOf_0, X9_indexOf_1, X9_indexOf_3, X9_indexOf_4, X9_indexOf_7, X9_indexOf_8, X9_indexOf_9, X9_indexOf_12, X9_indexOf_13, X9_indexOf_14, X9_indexOf_18, X9_indexOf_19, X9_indexOf_22, X9_indexOf_23, X9_indexOf_24, X9_indexOf_27, X9_indexOf_30, X9_indexOf_31, iOb_some, iClr_i, iClr_r, iClr_n, iClr_u, iClr_l, rf_s, rf_n, iB_0, iSum_nil, mg1, ml1 a1, a3, if_pos (Int32.le_refl (nI T.1))]
    rfl
  | succ m ih =>
    intro i hi
    have hi' : i < T.1 := by omega
    rw [X9_indexOf_2]
    by_cases c : T.2.1 i = k
    · simp only [X9_indexOf_0, X9_indexOf_1, X9_indexOf_3, X9_indexOf_4, X9_indexOf_7, X9_indexOf_8, X9_indexOf_9, X9_indexOf_12, X9_indexOf_13, X9_indexOf_14, X9_indexOf_15 (ev9_keyOf hT hi') mH_obj, X9_indexOf_18, X9_indexOf_19, X9_indexOf_22, X9_indexOf_23, X9_indexOf_24, X9_indexOf_27, X9_indexOf_30, X9_indexOf_31, iOb_some, iClr_i, iClr_r, iClr_n, iClr_u, iClr_l, rf_s, rf_n, iB_0, iSum_nil, mg1, ml1 a1, a3, if_neg (nI_ge hi' (show T.1 < 2 ^ 31 by omega)), if_pos c]
      unfold tW
      rw [if_pos c]
      rfl
    · simp only [X9_indexOf_0, X9_indexOf_1, X9_indexOf_3, X9_indexOf_4, X9_indexOf_7, X9_indexOf_8, X9_indexOf_9, X9_indexOf_12, X9_indexOf_13, X9_indexOf_14, X9_indexOf_15 (ev9_keyOf hT hi') mH_obj, X9_indexOf_18, X9_indexOf_19, X9_indexOf_22, X9_indexOf_23, X9_indexOf_24, X9_indexOf_27, X9_indexOf_30, X9_indexOf_31, iOb_some, iClr_i, iClr_r, iClr_n, iClr_u, iClr_l, rf_s, rf_n, iB_0, iSum_nil, mg1, ml1 a1, a3, if_neg (nI_ge hi' (show T.1 < 2 ^ 31 by omega)), if_neg c, nI_1]
      rw [ih (i + 1) (by omega)]
      conv => rhs; unfold tW
      rw [if_neg c]
theorem ev9_indexOf (hT : rT s t T) (k : Int32) : iEv mX9_indexOf [.ref x, .int (nI t), .int k] (mH b x s) (some (.int (oI (tWhere T.2.1 T.1 k)))) (mH b x s) := by
  refine J9_indexOf ?_
  simp only [X9_indexOf_0, X9_indexOf_1, iOb_some, iClr_i, iClr_r, iClr_n, iClr_u, iClr_l, rf_s, rf_n, iB_0, iSum_nil]
  exact (idx_loop hT k (Q := fun r' h' => r' = some (.int (oI (tWhere T.2.1 T.1 k))) ∧ h' = mH b x s) T.1 0 (Nat.zero_add _)).mpr ⟨rfl, rfl⟩
theorem next_loop (hT : rT s t T) (hp : p < T.1) {a3 : Value} : ∀ m k, k + m = T.1 → iWp 1 mX9_next 18 [.ref x, .int (nI t), .int (nI p), a3, .int (T.2.2.2 p), .int (nI k)] [] (mH b x s) Q = Q (some (.int (oI (nxG T.2.2.2 (T.2.2.2 p + 1) k m)))) (mH b x s) := by
  obtain ⟨a1, a2, a3, a4⟩ := id hT
  intro m
  induction m with
  | zero =>
    intro k hk
    obtain rfl : k = T.1 := by omega
    rw [X9_next_18]
    simp only [X9_next_0, X9_next_1, X9_next_4, X9_next_6, X9_next_7, X9_next_8, X9_next_9, X9_next_10, X9_next_11, X9_next_13, X9_next_14, X9_next_15, X9_next_16, X9_next_20, X9_next_21, X9_next_24, X9_next_25, X9_next_26, X9_next_29, X9_next_30, X9_next_33, X9_next_35, X9_next_36, X9_next_37, X9_next_39, X9_next_40, X9_next_41, X9_next_43, X9_next_44, X9_next_45, X9_next_48, X9_next_51, X9_next_54, X9_next_56, X9_next_57, X9_next_60, X9_next_61, X9_next_62, X9_next_65, X9_next_66, X9_next_69, X9_next_71, X9_next_72, X9_next_73, X9_next_75, X9_next_76, X9_next_77, X9_next_79, X9_next_80, X9_next_81, X9_next_84, X9_next_86, X9_next_89, X9_next_90, iOb_some, iClr_i, iClr_r, iClr_n, iClr_u, iClr_l, rf_s, rf_n, iB_0, iSum_nil, mg1, ml1 a1, a3, if_pos (Int32.le_refl (nI T.1))]
    rfl
  | succ m ih =>
    intro k hk
    have hk' : k < T.1 := by omega
    have hd := (a4 k hk').2.2
    rw [X9_next_18]
    unfold nxG
    by_cases c : T.2.2.2 p + 1 < T.2.2.2 k
    · rw [if_pos c]
      simp only [X9_next_0, X9_next_1, X9_next_4, X9_next_6, X9_next_7, X9_next_8, X9_next_9, X9_next_10, X9_next_11, X9_next_13, X9_next_14, X9_next_15, X9_next_16, X9_next_20, X9_next_21, X9_next_24, X9_next_25, X9_next_26, X9_next_29, X9_next_30, X9_next_33, X9_next_35, X9_next_36, X9_next_37, X9_next_39, X9_next_40, X9_next_41, X9_next_43, X9_next_44, X9_next_45, X9_next_48, X9_next_51, X9_next_54, X9_next_56, X9_next_57, X9_next_60, X9_next_61, X9_next_62, X9_next_65, X9_next_66, X9_next_69, X9_next_71, X9_next_72, X9_next_73, X9_next_75, X9_next_76, X9_next_77, X9_next_79, X9_next_80, X9_next_81, X9_next_84, X9_next_86, X9_next_89, X9_next_90, iOb_some, iClr_i, iClr_r, iClr_n, iClr_u, iClr_l, rf_s, rf_n, iB_0, iSum_nil, mg1, mg4, i64, ml1 a1, ml4 (show 64 * t + k < 1024 by omega), a3, hd, if_neg (nI_ge hk' (show T.1 < 2 ^ 31 by omega)), if_neg (Int32.not_le.mpr c), nI_1]
      exact ih (k + 1) (by omega)
    · rw [if_neg c]
      by_cases e : T.2.2.2 k = T.2.2.2 p + 1
      · rw [if_pos e]
        simp only [X9_next_0, X9_next_1, X9_next_4, X9_next_6, X9_next_7, X9_next_8, X9_next_9, X9_next_10, X9_next_11, X9_next_13, X9_next_14, X9_next_15, X9_next_16, X9_next_20, X9_next_21, X9_next_24, X9_next_25, X9_next_26, X9_next_29, X9_next_30, X9_next_33, X9_next_35, X9_next_36, X9_next_37, X9_next_39, X9_next_40, X9_next_41, X9_next_43, X9_next_44, X9_next_45, X9_next_48, X9_next_51, X9_next_54, X9_next_56, X9_next_57, X9_next_60, X9_next_61, X9_next_62, X9_next_65, X9_next_66, X9_next_69, X9_next_71, X9_next_72, X9_next_73, X9_next_75, X9_next_76, X9_next_77, X9_next_79, X9_next_80, X9_next_81, X9_next_84, X9_next_86, X9_next_89, X9_next_90, iOb_some, iClr_i, iClr_r, iClr_n, iClr_u, iClr_l, rf_s, rf_n, iB_0, iSum_nil, mg1, mg4, i64, ml1 a1, ml4 (show 64 * t + k < 1024 by omega), a3, hd, if_neg (nI_ge hk' (show T.1 < 2 ^ 31 by omega)), if_pos (Int32.not_lt.mp c), if_pos e]
        rfl
      · rw [if_neg e]
        simp only [X9_next_0, X9_next_1, X9_next_4, X9_next_6, X9_next_7, X9_next_8, X9_next_9, X9_next_10, X9_next_11, X9_next_13, X9_next_14, X9_next_15, X9_next_16, X9_next_20, X9_next_21, X9_next_24, X9_next_25, X9_next_26, X9_next_29, X9_next_30, X9_next_33, X9_next_35, X9_next_36, X9_next_37, X9_next_39, X9_next_40, X9_next_41, X9_next_43, X9_next_44, X9_next_45, X9_next_48, X9_next_51, X9_next_54, X9_next_56, X9_next_57, X9_next_60, X9_next_61, X9_next_62, X9_next_65, X9_next_66, X9_next_69, X9_next_71, X9_next_72, X9_next_73, X9_next_75, X9_next_76, X9_next_77, X9_next_79, X9_next_80, X9_next_81, X9_next_84, X9_next_86, X9_next_89, X9_next_90, iOb_some, iClr_i, iClr_r, iClr_n, iClr_u, iClr_l, rf_s, rf_n, iB_0, iSum_nil, mg1, mg4, i64, ml1 a1, ml4 (show 64 * t + k < 1024 by omega), a3, hd, if_neg (nI_ge hk' (show T.1 < 2 ^ 31 by omega)), if_pos (Int32.not_lt.mp c), if_neg e]
        rfl
theorem ev9_next (hT : rT s t T) (hp : p < T.1) (hi : i < T.1) : iEv mX9_next [.ref x, .int (nI t), .int (nI p), .int (nI i)] (mH b x s) (some (.int (oI (nxt T p i)))) (mH b x s) := by
  obtain ⟨a1, a2, a3, a4⟩ := id hT
  refine J9_next ?_
  simp only [X9_next_0, X9_next_1, X9_next_4, X9_next_6, X9_next_7, X9_next_8, X9_next_9, X9_next_10, X9_next_11, X9_next_13, X9_next_14, X9_next_15, X9_next_16, iOb_some, iClr_i, iClr_r, iClr_n, iClr_u, iClr_l, rf_s, rf_n, iB_0, iSum_nil, mg4, i64, ml4 (show 64 * t + p < 1024 by omega), (a4 p hp).2.2, nI_1]
  exact (next_loop hT hp (Q := fun r' h' => r' = some (.int (oI (nxt T p i))) ∧ h' = mH b x s) (T.1 - (i + 1)) (i + 1) (by omega)).mpr ⟨rfl, rfl⟩
theorem nxG_spec {D : Nat → Int32} {z : Int32} : ∀ m k, (∃ c, nxG D z k m = some c ∧ k ≤ c ∧ c < k + m ∧ D c = z ∧ ∀ j, k ≤ j → j < c → z < D j) ∨ (nxG D z k m = none ∧ ∃ e, k ≤ e ∧ e ≤ k + m ∧ (∀ j, k ≤ j → j < e → z < D j) ∧ (e < k + m → ¬ z < D e ∧ D e ≠ z)) := by
  intro m
  induction m with
  | zero =>
    intro k
    exact Or.inr ⟨rfl, k, Nat.le_refl _, Nat.le_refl _, fun j h1 h2 => by omega, fun h => by omega⟩
  | succ m ih =>
    intro k
    unfold nxG
    by_cases c : z < D k
    · rw [if_pos c]
      have ex : ∀ e, (∀ j, k + 1 ≤ j → j < e → z < D j) → ∀ j, k ≤ j → j < e → z < D j := by
        intro e he j h1 h2
        by_cases jk : j = k
        · rw [jk]
          exact c
        · exact he j (by omega) h2
      rcases ih (k + 1) with ⟨v, v1, v2, v3, v4, v5⟩ | ⟨v1, e, v2, v3, v4, v5⟩
      · exact Or.inl ⟨v, v1, by omega, by omega, v4, ex v v5⟩
      · exact Or.inr ⟨v1, e, by omega, by omega, ex e v4, fun h => v5 (by omega)⟩
    · rw [if_neg c]
      by_cases e : D k = z
      · rw [if_pos e]
        exact Or.inl ⟨k, rfl, Nat.le_refl _, by omega, e, fun j h1 h2 => by omega⟩
      · rw [if_neg e]
        exact Or.inr ⟨rfl, k, Nat.le_refl _, by omega, fun j h1 h2 => by omega, fun _ => ⟨c, e⟩⟩
theorem nxt_spec (hU : tOk U) (hp : p < U.1) (h1 : p ≤ i) (h2 : i < tEnd U.2.2.2 U.1 p) : (nxt U p i = none ∧ ∀ j, i < j → j < tEnd U.2.2.2 U.1 p → U.2.2.2 j ≠ U.2.2.2 p + 1) ∨ ∃ c, nxt U p i = some c ∧ i < c ∧ c < tEnd U.2.2.2 U.1 p ∧ tPar U.2.2.2 c = some p ∧ U.2.2.2 c = U.2.2.2 p + 1 ∧ ∀ j, i < j → j < c → U.2.2.2 j ≠ U.2.2.2 p + 1 := by
  have hch := fun c (a : p < c) (a' : c < tEnd U.2.2.2 U.1 p) => child_iff hU hp a a'
  have hne : ∀ j : Nat, U.2.2.2 p + 1 < U.2.2.2 j → U.2.2.2 j ≠ U.2.2.2 p + 1 := fun j z e => by
    rw [e] at z
    exact (Int32.lt_irrefl z).elim
  obtain ⟨hK, d, hd, h5⟩ := id hU
  have hE := nEnd_spec (d := d) hp
  rw [nEnd_of hd hp] at h2 hch ⊢
  rcases nxG_spec (D := U.2.2.2) (z := U.2.2.2 p + 1) (U.1 - (i + 1)) (i + 1) with ⟨c, v1, v2, v3, v4, v5⟩ | ⟨v1, e, v2, v3, v4, v5⟩
  · have hc : c < nEnd d U.1 p := by
      rcases Nat.lt_or_ge c (nEnd d U.1 p) with w | w
      · exact w
      · exfalso
        have a := hE.2.2.2 (by omega)
        by_cases ce : c = nEnd d U.1 p
        · rw [ce, (hd _ (by omega)).1, (hd p hp).1, nI_s1 (hd _ (by omega)).2 (hd p hp).2] at v4
          omega
        · have := v5 (nEnd d U.1 p) (by omega) (by omega)
          rw [(hd p hp).1, (hd _ (by omega)).1, nI_1] at this
          have b1 := (hd p hp).2
          have b2 := (hd (nEnd d U.1 p) (by omega)).2
          rw [nI_ltI (by omega) (by omega)] at this
          omega
    exact Or.inr ⟨c, v1, by omega, hc, (hch c (by omega) hc).mp v4, v4, fun j a1 a2 => hne j (v5 j (by omega) a2)⟩
  · refine Or.inl ⟨v1, fun j a1 a2 => ?_⟩
    rcases Nat.lt_or_ge j e with w | w
    · exact hne j (v4 j (by omega) w)
    · exfalso
      obtain ⟨w1, w2⟩ := v5 (by omega)
      have a := hE.2.2.1 e (by omega) (by omega)
      have b1 := (hd p hp).2
      have b2 := (hd e (by omega)).2
      rw [(hd p hp).1, (hd e (by omega)).1, nI_1] at w1 w2
      rw [nI_ltI (by omega) (by omega)] at w1
      rw [Ne, nI_eq (by omega) (by omega)] at w2
      omega
-- the tree worked on
theorem rW.find (h : rW s W) (hW : tOk W) (k : Int32) : iEv mX9_find [.ref x, .int k] (mH b x s) (some (.int (oI (tWhere W.2.1 W.1 k)))) (mH b x s) := by
  have h60 := hW.1.le
  obtain ⟨V, v, e⟩ := h
  have e1 := e.1
  have := ev9_find (b := b) (x := x) (s := s) (n := V.1) v.1 (by omega) k
  rw [v.2.1, tWhere_congr (fun j hj => (e.2 j hj).1), e.1] at this
  exact this
theorem rW.parentKey (h : rW s W) (hW : tOk W) (hi : i < W.1) : iEv mX9_parentKey [.ref x, .int (nI i)] (mH b x s) (some (.int (tPK W.2.1 W.2.2.2 i))) (mH b x s) := by
  have h60 := hW.1.le
  obtain ⟨hK, d, hd, h5⟩ := hW
  obtain ⟨V, v, e⟩ := h
  have e1 := e.1
  have hd' : dEq V.2.2.2 d W.1 := hd.congr (fun j hj => (e.2 j (by omega)).2.2.symm)
  have := ev9_parentKey (b := b) (x := x) (s := s) (n := W.1) (by omega) hi (by
    rw [v.2.2.2]
    exact h5.par' hd' hi)
  rw [v.2.1, v.2.2.2, ← cPK hd (fun j hj => (e.2 j (by omega)).2.2.symm) (fun j hj => (e.2 j (by omega)).1.symm) hi] at this
  exact this
theorem rW.place (h : rW s W) (hW : tOk W) (hi : i < W.1) : iEv mX9_place [.ref x, .int (nI i)] (mH b x s) (some (.int (nI (tPlace W.2.2.2 i)))) (mH b x s) := by
  have h60 := hW.1.le
  obtain ⟨hK, d, hd, h5⟩ := hW
  obtain ⟨V, v, e⟩ := h
  have e1 := e.1
  have := ev9_place (b := b) (x := x) (s := s) (n := W.1) (by omega) hi
  rw [v.2.2.2, ← cPlace hd (fun j hj => (e.2 j (by omega)).2.2.symm) hi] at this
  exact this
theorem rW.lab (h : rW s W) (hi : i < W.1) : s.2.1 20 i = W.2.2.1 i := by
  obtain ⟨V, v, e⟩ := h
  rw [v.2.2.1]
  exact (e.2 i (by have := e.1; omega)).2.1
theorem ev9_placeIn (h : rW s W) (hW : tOk W) (hU : tOk U) (hp : p < U.1) : iEv mX9_placeIn [.ref x, .int (U.2.1 c), .int (U.2.1 p)] (mH b x s) (some (.int (oI (plO U W p c)))) (mH b x s) := by
  have h60 := hW.1.le
  have ef := h.find (b := b) (x := x) hW (U.2.1 c)
  refine J9_placeIn ?_
  unfold plO
  cases w : tWhere W.2.1 W.1 (U.2.1 c) with
  | none =>
    rw [w] at ef
    simp only [X9_placeIn_0, X9_placeIn_1, X9_placeIn_2 ef mH_obj, X9_placeIn_5, X9_placeIn_6, X9_placeIn_7, X9_placeIn_10, X9_placeIn_11, X9_placeIn_15, X9_placeIn_16, X9_placeIn_19, X9_placeIn_20, X9_placeIn_24, X9_placeIn_27, X9_placeIn_28, iOb_some, iClr_i, iClr_r, iClr_n, iClr_u, iClr_l, rf_s, rf_n, iB_0, iSum_nil, oI_n, if_pos (by decide : (-1 : Int32) ≤ 0), and_self]
  | some i =>
    rw [w] at ef
    have hi := (tWhere_lt w).1
    dsimp only
    by_cases c0 : i = 0
    · subst c0
      rw [if_neg (fun z => nI_kne (key_of hU hp) z.symm)]
      simp only [X9_placeIn_0, X9_placeIn_1, X9_placeIn_2 ef mH_obj, X9_placeIn_5, X9_placeIn_6, X9_placeIn_7, X9_placeIn_10, X9_placeIn_11, X9_placeIn_15, X9_placeIn_16, X9_placeIn_19, X9_placeIn_20, X9_placeIn_24, X9_placeIn_27, X9_placeIn_28, iOb_some, iClr_i, iClr_r, iClr_n, iClr_u, iClr_l, rf_s, rf_n, iB_0, iSum_nil, oI_n, oI_s, if_pos (show nI 0 ≤ (0 : Int32) by decide), and_self]
    · have ep := h.parentKey (b := b) (x := x) hW hi
      by_cases c1 : tPK W.2.1 W.2.2.2 i = U.2.1 p
      · rw [if_pos c1]
        simp only [X9_placeIn_0, X9_placeIn_1, X9_placeIn_2 ef mH_obj, X9_placeIn_5, X9_placeIn_6, X9_placeIn_7, X9_placeIn_10, X9_placeIn_11, X9_placeIn_12 ep mH_obj, X9_placeIn_15, X9_placeIn_16, X9_placeIn_19, X9_placeIn_20, X9_placeIn_21 (h.place hW hi) mH_obj, X9_placeIn_24, X9_placeIn_27, X9_placeIn_28, iOb_some, iClr_i, iClr_r, iClr_n, iClr_u, iClr_l, rf_s, rf_n, iB_0, iSum_nil, oI_s, if_neg (nI_nle (show 0 < i by omega) (show i < 2 ^ 31 by omega)), if_pos c1, and_self]
      · rw [if_neg c1]
        simp only [X9_placeIn_0, X9_placeIn_1, X9_placeIn_2 ef mH_obj, X9_placeIn_5, X9_placeIn_6, X9_placeIn_7, X9_placeIn_10, X9_placeIn_11, X9_placeIn_12 ep mH_obj, X9_placeIn_15, X9_placeIn_16, X9_placeIn_19, X9_placeIn_20, X9_placeIn_24, X9_placeIn_27, X9_placeIn_28, iOb_some, iClr_i, iClr_r, iClr_n, iClr_u, iClr_l, rf_s, rf_n, iB_0, iSum_nil, oI_s, oI_n, if_neg (nI_nle (show 0 < i by omega) (show i < 2 ^ 31 by omega)), if_neg c1, and_self]
theorem plO_iff (hW : tOk W) (hU : tOk U) (hc : c < U.1) (hpc : tPar U.2.2.2 c = some p) : dfO U W p c ↔ ∃ q, plO U W p c = some q := by
  have hp : p < U.1 := by have := tPar_lt hU hc hpc; omega
  unfold plO
  constructor
  · rintro ⟨o1, o2, i, g, o3, o4, o5⟩
    rw [o3]
    obtain ⟨hK, d, hd, h5⟩ := hW
    have hi := (tWhere_lt o3).1
    rw [nPar_of hd hi] at o5
    exact ⟨_, if_pos (by rw [tPK_some hd hi o5, (tWhere_lt o4).2])⟩
  · rintro ⟨q, hq⟩
    cases w : tWhere W.2.1 W.1 (U.2.1 c) with
    | none => rw [w] at hq; cases hq
    | some i =>
      rw [w] at hq
      dsimp only at hq
      by_cases e : tPK W.2.1 W.2.2.2 i = U.2.1 p
      · have hi := (tWhere_lt w).1
        obtain ⟨hK, d, hd, h5⟩ := id hW
        have e2 := e
        rw [tPK_n hd hi] at e2
        cases z : nPar d i with
        | none =>
          rw [z] at e2
          exact absurd e2.symm (nI_kne (key_of hU hp))
        | some g =>
          rw [z] at e2
          have hg : g < W.1 := by have := (nPar_some z).1; omega
          exact ⟨hc, hpc, i, g, w, tWhere_at hK hg e2, by rw [nPar_of hd hi]; exact z⟩
      · rw [if_neg e] at hq
        cases hq
theorem plO_ord {c' a a' : Nat} (hW : tOk W) (h : dfO U W p c) (h' : dfO U W p c') (ha : plO U W p c = some a) (ha' : plO U W p c' = some a') : a < a' ↔ dfY U W c < dfY U W c' := by
  obtain ⟨o1, o2, i, g, o3, o4, o5⟩ := h
  obtain ⟨r1, r2, i', g', r3, r4, r5⟩ := h'
  rw [o4] at r4
  cases r4
  rw [dfY_of o3, dfY_of r3]
  unfold plO at ha ha'
  rw [o3] at ha
  rw [r3] at ha'
  dsimp only at ha ha'
  obtain ⟨hK, d, hd, h5⟩ := hW
  have hi := (tWhere_lt o3).1
  have hi' := (tWhere_lt r3).1
  rw [nPar_of hd hi] at o5
  rw [nPar_of hd hi'] at r5
  split at ha
  · split at ha'
    · cases ha
      cases ha'
      rw [nPlace_of hd hi, nPlace_of hd hi']
      exact sib_iff h5 hi' hi o5 r5
    · cases ha'
  · cases ha
end READ9

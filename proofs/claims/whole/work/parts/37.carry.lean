/-! the class's Tree: carry, two neighbouring runs change places -/
section CARRY
variable {b : iHp} {t n : Nat} {K B D : Nat → Int32}
/-- the runs s .. i - 1 and i .. e - 1 have changed places -/
def tMv (K : Nat → Int32) (s i e : Nat) : Nat → Int32 := fun q => if s ≤ q ∧ q < s + (e - i) then K (q + (i - s)) else if s + (e - i) ≤ q ∧ q < e then K (q - (e - i)) else K q
theorem tTurn3 {K : Nat → Int32} {s i e : Nat} (h1 : s ≤ i) (h2 : i ≤ e) : tTurn (tTurn (tTurn K s i) i e) s e = tMv K s i e := by
  funext q
  unfold tTurn tMv
  by_cases c1 : s ≤ q ∧ q < e
  · rw [if_pos c1]
    by_cases c2 : q < s + (e - i)
    · rw [if_pos (by omega), if_neg (by omega), if_pos ⟨c1.1, c2⟩]
      congr 1
      omega
    · rw [if_neg (by omega), if_pos (by omega), if_neg (by omega), if_pos (by omega)]
      congr 1
      omega
  · rw [if_neg c1, if_neg (by omega), if_neg (by omega), if_neg (by omega), if_neg (by omega)]
theorem tTurn3' {K : Nat → Int32} {s i e : Nat} (h1 : s ≤ i) (h2 : i ≤ e) : tTurn (tTurn (tTurn K s i) i e) s e = tMv K s i e := tTurn3 h1 h2
def tAdd (D : Nat → Int32) (i j : Nat) (w : Int32) : Nat → Int32 := fun q => if i ≤ q ∧ q < j then D q + w else D q
theorem tAdd_0 {D : Nat → Int32} {i : Nat} {w : Int32} : tAdd D i i w = D := funext fun q => if_neg (by omega)
theorem tAdd_r {D : Nat → Int32} {i j : Nat} {w : Int32} : tAdd D i j w j = D j := if_neg (by omega)
theorem tAdd_s {D : Nat → Int32} {i j : Nat} {w : Int32} (h : i ≤ j) : upd (tAdd D i j w) j (D j + w) = tAdd D i (j + 1) w := by
  funext q
  unfold upd tAdd
  by_cases h1 : q = j
  · rw [if_pos h1, if_pos (by omega), h1]
  · rw [if_neg h1]
    by_cases h2 : i ≤ q ∧ q < j
    · rw [if_pos h2, if_pos (by omega)]
    · rw [if_neg h2, if_neg (by omega)]
/-- where carry brings a field: the run i .. e - 1 goes to where s stands -/
def tCarry (K : Nat → Int32) (s i e : Nat) : Nat → Int32 := if s < i then tMv K s i e else if e < s then tMv K i e s else K
theorem carry_loop (hn : n ≤ 80) {i e : Nat} (he : e ≤ n) (a2 a3 : Value) (w : Int32) (Q : Option Value → iHp → Prop) : ∀ k j, j + k = e → i ≤ j → iWp 3 mX7_carry 41 [.ref t, .int (nI i), a2, a3, .int (nI e), .int w, .int (nI j)] [] (trH b t n K B (tAdd D i j w)) Q = iWp 3 mX7_carry 66 [.ref t, .int (nI i), a2, a3, .int (nI e), .int w, .int (nI e)] [] (trH b t n K B (tAdd D i e w)) Q := by
  intro k
  induction k with
  | zero =>
    intro j hj hij
    have e1 : j = e := by omega
    subst e1
    rw [X7_carry_41]
    simp only [X7_carry_43, X7_carry_45, X7_carry_48, X7_carry_49, X7_carry_52, X7_carry_54, X7_carry_55, X7_carry_56, X7_carry_58, X7_carry_59, X7_carry_60, X7_carry_63, iOb_some, iClr_i, iClr_r, iClr_n, iClr_u, iClr_l, rf_s, rf_n, iB_0, iSum_nil, if_pos (nI_le (Nat.le_refl j) (by omega))]
  | succ k ih =>
    intro j hj hij
    rw [X7_carry_41]
    simp only [X7_carry_43, X7_carry_45, X7_carry_48, X7_carry_49, X7_carry_52, X7_carry_54, X7_carry_55, X7_carry_56, X7_carry_58, X7_carry_59, X7_carry_60, X7_carry_63, iOb_some, iClr_i, iClr_r, iClr_n, iClr_u, iClr_l, rf_s, rf_n, iB_0, iSum_nil, if_neg (nI_ge (show j < e by omega) (by omega)), tr_d, tr_ld (show j < 80 by omega), tr_sd (show j < 80 by omega), tAdd_r, tAdd_s hij, nI_1]
    exact ih (j + 1) (by omega) (by omega)
theorem ev_carry (hn : n ≤ 80) {i sp : Nat} (hi : i < n) (hs : sp ≤ n) (w : Int32) : iEv mX7_carry [.ref t, .int (nI i), .int (nI sp), .int w] (trH b t n K B D) none (trH b t n (tCarry K sp i (tEnd D n i)) (tCarry B sp i (tEnd D n i)) (tCarry (tAdd D i (tEnd D n i) (w - D i)) sp i (tEnd D n i))) := by
  refine J7_carry ?_
  have hE := tEnd_gt (D := D) hi
  have ee := ev_endOf (trH_tr (b := b) (t := t) (K := K) (B := B) (D := D) hn) hi
  generalize tEnd D n i = e at hE ee ⊢
  simp only [X7_carry_0, X7_carry_1, X7_carry_2 (ev_hasI (trH_tr hn) hi) tr_o, X7_carry_5, X7_carry_8, X7_carry_9, X7_carry_12, X7_carry_13, X7_carry_14, X7_carry_17, X7_carry_20, X7_carry_21, X7_carry_22, X7_carry_23 ee tr_o, X7_carry_26, X7_carry_28, X7_carry_29, X7_carry_30, X7_carry_33, X7_carry_34, X7_carry_35, X7_carry_36, X7_carry_38, X7_carry_39, iOb_some, iClr_i, iClr_r, iClr_n, iClr_u, iClr_l, rf_s, rf_n, iB_0, iSum_nil, Bool.true_eq_false, if_false, if_neg (nI_pos (show sp < 2 ^ 31 by omega)), tr_n, if_pos (nI_le (show sp ≤ n by omega) (by omega)), tr_d, tr_ld (show i < 80 by omega)]
  have h1 := carry_loop (b := b) (t := t) (K := K) (B := B) (D := D) (i := i) (e := e) hn hE.2 (.int (nI sp)) (.int w) (w - D i) (fun r' h' => r' = none ∧ h' = trH b t n (tCarry K sp i e) (tCarry B sp i e) (tCarry (tAdd D i e (w - D i)) sp i e)) (e - i) i (by omega) (Nat.le_refl _)
  rw [tAdd_0] at h1
  refine h1.mpr ?_
  generalize tAdd D i e (w - D i) = D2
  unfold tCarry
  by_cases c1 : sp < i
  · simp only [X7_carry_66, X7_carry_67, X7_carry_68, X7_carry_71, X7_carry_72, X7_carry_73, X7_carry_74 (ev_turnRound hn (show i ≤ n by omega) c1) tr_o, X7_carry_77, X7_carry_78, X7_carry_79, X7_carry_81 (ev_turnRound hn hE.2 hE.1) tr_o, X7_carry_84, X7_carry_85, X7_carry_86, X7_carry_88 (ev_turnRound hn hE.2 (show sp < e by omega)) tr_o, X7_carry_91, X7_carry_94, X7_carry_95, X7_carry_97, X7_carry_100, X7_carry_101, X7_carry_102, X7_carry_107, X7_carry_108, X7_carry_110, X7_carry_114, X7_carry_115, X7_carry_116, X7_carry_120, iOb_some, iClr_i, iClr_r, iClr_n, iClr_u, iClr_l, rf_s, rf_n, iB_0, iSum_nil, if_neg (nI_ge (show sp < i by omega) (by omega)), if_pos c1]
    rw [tTurn3 (by omega) (by omega), tTurn3 (by omega) (by omega), tTurn3 (by omega) (by omega)]
    exact ⟨trivial, rfl⟩
  · by_cases c2 : e < sp
    · simp only [X7_carry_66, X7_carry_67, X7_carry_68, X7_carry_71, X7_carry_72, X7_carry_73, X7_carry_77, X7_carry_78, X7_carry_79, X7_carry_84, X7_carry_85, X7_carry_86, X7_carry_91, X7_carry_94, X7_carry_95, X7_carry_97, X7_carry_100, X7_carry_101, X7_carry_102, X7_carry_104 (ev_turnRound hn hE.2 hE.1) tr_o, X7_carry_107, X7_carry_108, X7_carry_110, X7_carry_111 (ev_turnRound hn hs c2) tr_o, X7_carry_114, X7_carry_115, X7_carry_116, X7_carry_117 (ev_turnRound hn hs (show i < sp by omega)) tr_o, X7_carry_120, iOb_some, iClr_i, iClr_r, iClr_n, iClr_u, iClr_l, rf_s, rf_n, iB_0, iSum_nil, if_pos (nI_le (show i ≤ sp by omega) (by omega)), if_neg (nI_ge (show e < sp by omega) (by omega)), if_neg c1, if_pos c2]
      rw [tTurn3 (by omega) (by omega), tTurn3 (by omega) (by omega), tTurn3 (by omega) (by omega)]
      exact ⟨trivial, rfl⟩
    · simp only [X7_carry_66, X7_carry_67, X7_carry_68, X7_carry_71, X7_carry_72, X7_carry_73, X7_carry_77, X7_carry_78, X7_carry_79, X7_carry_84, X7_carry_85, X7_carry_86, X7_carry_91, X7_carry_94, X7_carry_95, X7_carry_97, X7_carry_100, X7_carry_101, X7_carry_102, X7_carry_107, X7_carry_108, X7_carry_110, X7_carry_114, X7_carry_115, X7_carry_116, X7_carry_120, iOb_some, iClr_i, iClr_r, iClr_n, iClr_u, iClr_l, rf_s, rf_n, iB_0, iSum_nil, if_pos (nI_le (show i ≤ sp by omega) (by omega)), if_pos (nI_le (show sp ≤ e by omega) (by omega)), if_neg c1, if_neg c2, and_self]
end CARRY

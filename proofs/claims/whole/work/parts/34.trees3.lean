/-! the class's Tree: insert, remove, turnRound -/
section TREE3
variable {b : iHp} {t n : Nat} {K B D : Nat → Int32}
def tI1 (K : Nat → Int32) (n i : Nat) (v : Int32) : Nat → Int32 := upd (va_cpy K K i (i + 1) (n - i)) i v
theorem tI1_at {K : Nat → Int32} {n i j : Nat} {v : Int32} (hj : j ≤ n) : tI1 K n i v j = if j < i then K j else if j = i then v else K (j - 1) := by
  unfold tI1 upd va_cpy
  by_cases h1 : j = i
  · subst h1
    rw [if_pos rfl, if_neg (by omega), if_pos rfl]
  · rw [if_neg h1]
    by_cases h2 : j < i
    · rw [if_pos h2, if_neg (by omega)]
    · rw [if_neg h2, if_neg h1, if_pos (by omega)]
      congr 1
      omega
theorem ev_insert (hn : n < 80) {i : Nat} (hi : i ≤ n) (k v w : Int32) : iEv mX7_insert [.ref t, .int (nI i), .int k, .int v, .int w] (trH b t n K B D) none (trH b t (n + 1) (tI1 K n i k) (tI1 B n i v) (tI1 D n i w)) := by
  refine J7_insert ?_
  simp only [X7_insert_0, X7_insert_1, X7_insert_4, X7_insert_5, X7_insert_6, X7_insert_9, X7_insert_12, X7_insert_13, X7_insert_16, X7_insert_18, X7_insert_21, X7_insert_22, X7_insert_23, X7_insert_26, X7_insert_27, X7_insert_28, X7_insert_30, X7_insert_31, X7_insert_34, X7_insert_35, X7_insert_36, X7_insert_39, X7_insert_40, X7_insert_41, X7_insert_42, X7_insert_44, X7_insert_47, X7_insert_48, X7_insert_51, X7_insert_52, X7_insert_53, X7_insert_56, X7_insert_57, X7_insert_58, X7_insert_59, X7_insert_61, X7_insert_64, X7_insert_65, X7_insert_68, X7_insert_69, X7_insert_70, X7_insert_73, X7_insert_74, X7_insert_75, X7_insert_76, X7_insert_78, X7_insert_81, X7_insert_82, X7_insert_85, X7_insert_86, X7_insert_87, X7_insert_88, X7_insert_89, X7_insert_92, X7_insert_93, X7_insert_94, X7_insert_95, X7_insert_96, X7_insert_99, X7_insert_100, X7_insert_102, X7_insert_103, X7_insert_104, X7_insert_105, X7_insert_108, X7_insert_109, X7_insert_110, X7_insert_113, iOb_some, iClr_i, iClr_r, iClr_n, iClr_u, iClr_l, rf_s, rf_n, iB_0, iSum_nil, tr_k, tr_b, tr_d, tr_n, if_neg (nI_pos (show i < 2 ^ 31 by omega)), if_neg (nI_nlt (show i ≤ n by omega) (by omega)), show (80 : Int32) = nI 80 from rfl, if_pos (nI_lt (show n < 80 by omega) (by omega)), pk_sub hi, nI_1, tr_ck (show i + (n - i) ≤ 80 by omega) (show i + 1 + (n - i) ≤ 80 by omega), tr_cb (show i + (n - i) ≤ 80 by omega) (show i + 1 + (n - i) ≤ 80 by omega), tr_cd (show i + (n - i) ≤ 80 by omega) (show i + 1 + (n - i) ≤ 80 by omega), tr_sk (show i < 80 by omega), tr_sb (show i < 80 by omega), tr_sd (show i < 80 by omega), tr_sn]
  exact ⟨trivial, rfl⟩
def tO1 (K : Nat → Int32) (n i : Nat) : Nat → Int32 := va_cpy K K (i + 1) i (n - i - 1)
theorem tO1_at {K : Nat → Int32} {n i j : Nat} (hj : j < n - 1) : tO1 K n i j = if j < i then K j else K (j + 1) := by
  unfold tO1 va_cpy
  by_cases h2 : j < i
  · rw [if_pos h2, if_neg (by omega)]
  · rw [if_neg h2, if_pos (by omega)]
    congr 1
    omega
theorem ev_remove (hn : n ≤ 80) {i : Nat} (hi : i < n) : iEv mX7_remove [.ref t, .int (nI i)] (trH b t n K B D) none (trH b t (n - 1) (tO1 K n i) (tO1 B n i) (tO1 D n i)) := by
  refine J7_remove ?_
  have e1 : nI n - nI i - 1 = nI (n - i - 1) := by rw [pk_sub (by omega), show (1 : Int32) = nI 1 from rfl, pk_sub (by omega)]
  have e2 : nI n - 1 = nI (n - 1) := by rw [show (1 : Int32) = nI 1 from rfl, pk_sub (by omega)]
  simp only [X7_remove_0, X7_remove_1, X7_remove_2 (ev_hasI (trH_tr hn) hi) tr_o, X7_remove_5, X7_remove_8, X7_remove_9, X7_remove_10, X7_remove_13, X7_remove_14, X7_remove_15, X7_remove_16, X7_remove_17, X7_remove_18, X7_remove_19, X7_remove_22, X7_remove_23, X7_remove_24, X7_remove_25, X7_remove_26, X7_remove_29, X7_remove_30, X7_remove_31, X7_remove_34, X7_remove_35, X7_remove_38, X7_remove_39, X7_remove_40, X7_remove_41, X7_remove_42, X7_remove_45, X7_remove_46, X7_remove_47, X7_remove_50, X7_remove_51, X7_remove_54, X7_remove_55, X7_remove_56, X7_remove_57, X7_remove_58, X7_remove_61, X7_remove_62, X7_remove_63, X7_remove_66, X7_remove_67, X7_remove_68, X7_remove_71, X7_remove_72, X7_remove_73, X7_remove_76, iOb_some, iClr_i, iClr_r, iClr_n, iClr_u, iClr_l, rf_s, rf_n, iB_0, iSum_nil, Bool.true_eq_false, if_false, tr_k, tr_b, tr_d, tr_n, e1, e2, nI_1, tr_ck (show i + 1 + (n - i - 1) ≤ 80 by omega) (show i + (n - i - 1) ≤ 80 by omega), tr_cb (show i + 1 + (n - i - 1) ≤ 80 by omega) (show i + (n - i - 1) ≤ 80 by omega), tr_cd (show i + 1 + (n - i - 1) ≤ 80 by omega) (show i + (n - i - 1) ≤ 80 by omega), tr_sn]
  exact ⟨trivial, rfl⟩
/-- the run a .. e - 1 turned round, k steps from both ends -/
def tRev (K : Nat → Int32) (a e k : Nat) : Nat → Int32 := fun q => if (a ≤ q ∧ q < a + k) ∨ (e ≤ q + k ∧ q < e ∧ a ≤ q) then K (a + e - 1 - q) else K q
theorem tRev_0 {K : Nat → Int32} {a e : Nat} : tRev K a e 0 = K := funext fun q => if_neg (by omega)
theorem tRev_s {K : Nat → Int32} {a e k : Nat} (h : a + k < e - 1 - k) : upd (upd (tRev K a e k) (a + k) (tRev K a e k (e - 1 - k))) (e - 1 - k) (tRev K a e k (a + k)) = tRev K a e (k + 1) := by
  funext q
  unfold upd tRev
  by_cases h1 : q = e - 1 - k
  · subst h1
    rw [if_pos rfl, if_neg (by omega), if_pos (by omega)]
    congr 1
    omega
  · rw [if_neg h1]
    by_cases h2 : q = a + k
    · subst h2
      rw [if_pos rfl, if_neg (by omega), if_pos (by omega)]
      congr 1
      omega
    · rw [if_neg h2]
      by_cases h3 : (a ≤ q ∧ q < a + k) ∨ (e ≤ q + k ∧ q < e ∧ a ≤ q)
      · rw [if_pos h3, if_pos (by omega)]
      · rw [if_neg h3, if_neg (by omega)]
theorem tRev_e {K : Nat → Int32} {a e k : Nat} (h : ¬ a + k < e - 1 - k) (hk : a + k ≤ e - k) : tRev K a e k = fun q => if a ≤ q ∧ q < e then K (a + e - 1 - q) else K q := by
  funext q
  unfold tRev
  by_cases h1 : (a ≤ q ∧ q < a + k) ∨ (e ≤ q + k ∧ q < e ∧ a ≤ q)
  · rw [if_pos h1, if_pos (by omega)]
  · rw [if_neg h1]
    by_cases h2 : a ≤ q ∧ q < e
    · rw [if_pos h2]
      congr 1
      omega
    · rw [if_neg h2]
def tTurn (K : Nat → Int32) (a e : Nat) : Nat → Int32 := fun q => if a ≤ q ∧ q < e then K (a + e - 1 - q) else K q
theorem turn_loop (hn : n ≤ 80) {a e : Nat} (he : e ≤ n) (hae : a < e) (Q : Option Value → iHp → Prop) : ∀ m k a5 a6 a7, e - 1 - k - (a + k) ≤ m → a + k ≤ e - k → iWp 1 mX7_turnRound 20 [.ref t, .int (nI a), .int (nI e), .int (nI (a + k)), .int (dI (e - k)), a5, a6, a7] [] (trH b t n (tRev K a e k) (tRev B a e k) (tRev D a e k)) Q = Q none (trH b t n (tTurn K a e) (tTurn B a e) (tTurn D a e)) := by
  intro m
  induction m with
  | zero =>
    intro k a5 a6 a7 h1 h2
    rw [X7_turnRound_20]
    obtain ⟨z, hz⟩ : ∃ z, dI (e - k) = z := ⟨_, rfl⟩
    have hle : dI (e - k) ≤ nI (a + k) := by
      cases hq : e - k with
      | zero => rw [dI_0]; exact Int32.le_trans (by decide) (nI_pos' (show a + k < 2 ^ 31 by omega))
      | succ q => rw [dI_c]; exact nI_le (by omega) (by omega)
    simp only [X7_turnRound_0, X7_turnRound_1, X7_turnRound_4, X7_turnRound_5, X7_turnRound_6, X7_turnRound_9, X7_turnRound_12, X7_turnRound_13, X7_turnRound_14, X7_turnRound_15, X7_turnRound_16, X7_turnRound_17, X7_turnRound_18, X7_turnRound_21, X7_turnRound_23, X7_turnRound_26, X7_turnRound_27, X7_turnRound_30, X7_turnRound_31, X7_turnRound_32, X7_turnRound_34, X7_turnRound_35, X7_turnRound_38, X7_turnRound_39, X7_turnRound_40, X7_turnRound_43, X7_turnRound_45, X7_turnRound_46, X7_turnRound_47, X7_turnRound_48, X7_turnRound_51, X7_turnRound_53, X7_turnRound_55, X7_turnRound_56, X7_turnRound_57, X7_turnRound_60, X7_turnRound_61, X7_turnRound_62, X7_turnRound_64, X7_turnRound_65, X7_turnRound_68, X7_turnRound_69, X7_turnRound_70, X7_turnRound_73, X7_turnRound_75, X7_turnRound_76, X7_turnRound_77, X7_turnRound_78, X7_turnRound_81, X7_turnRound_83, X7_turnRound_85, X7_turnRound_86, X7_turnRound_87, X7_turnRound_90, X7_turnRound_91, X7_turnRound_92, X7_turnRound_94, X7_turnRound_95, X7_turnRound_98, X7_turnRound_99, X7_turnRound_100, X7_turnRound_103, X7_turnRound_105, X7_turnRound_106, X7_turnRound_107, X7_turnRound_108, X7_turnRound_111, X7_turnRound_113, X7_turnRound_115, X7_turnRound_116, X7_turnRound_119, X7_turnRound_122, X7_turnRound_125, iOb_some, iClr_i, iClr_r, iClr_n, iClr_u, iClr_l, rf_s, rf_n, iB_0, iSum_nil, if_pos hle]
    rw [tRev_e (by omega) h2, tRev_e (by omega) h2, tRev_e (by omega) h2]
    rfl
  | succ m ih =>
    intro k a5 a6 a7 h1 h2
    rw [X7_turnRound_20]
    by_cases hlt : a + k < e - 1 - k
    · obtain ⟨q, hq⟩ : ∃ q, e - k = q + 1 := ⟨e - k - 1, by omega⟩
      have hq2 : e - 1 - k = q := by omega
      have hq3 : e - (k + 1) = q := by omega
      rw [hq, dI_c]
      simp only [X7_turnRound_0, X7_turnRound_1, X7_turnRound_4, X7_turnRound_5, X7_turnRound_6, X7_turnRound_9, X7_turnRound_12, X7_turnRound_13, X7_turnRound_14, X7_turnRound_15, X7_turnRound_16, X7_turnRound_17, X7_turnRound_18, X7_turnRound_21, X7_turnRound_23, X7_turnRound_26, X7_turnRound_27, X7_turnRound_30, X7_turnRound_31, X7_turnRound_32, X7_turnRound_34, X7_turnRound_35, X7_turnRound_38, X7_turnRound_39, X7_turnRound_40, X7_turnRound_43, X7_turnRound_45, X7_turnRound_46, X7_turnRound_47, X7_turnRound_48, X7_turnRound_51, X7_turnRound_53, X7_turnRound_55, X7_turnRound_56, X7_turnRound_57, X7_turnRound_60, X7_turnRound_61, X7_turnRound_62, X7_turnRound_64, X7_turnRound_65, X7_turnRound_68, X7_turnRound_69, X7_turnRound_70, X7_turnRound_73, X7_turnRound_75, X7_turnRound_76, X7_turnRound_77, X7_turnRound_78, X7_turnRound_81, X7_turnRound_83, X7_turnRound_85, X7_turnRound_86, X7_turnRound_87, X7_turnRound_90, X7_turnRound_91, X7_turnRound_92, X7_turnRound_94, X7_turnRound_95, X7_turnRound_98, X7_turnRound_99, X7_turnRound_100, X7_turnRound_103, X7_turnRound_105, X7_turnRound_106, X7_turnRound_107, X7_turnRound_108, X7_turnRound_111, X7_turnRound_113, X7_turnRound_115, X7_turnRound_116, X7_turnRound_119, X7_turnRound_122, X7_turnRound_125, iOb_some, iClr_i, iClr_r, iClr_n, iClr_u, iClr_l, rf_s, rf_n, iB_0, iSum_nil, if_neg (nI_ge (show a + k < q by omega) (by omega)), tr_k, tr_b, tr_d, tr_lk (show a + k < 80 by omega), tr_lk (show q < 80 by omega), tr_sk (show a + k < 80 by omega), tr_sk (show q < 80 by omega), tr_lb (show a + k < 80 by omega), tr_lb (show q < 80 by omega), tr_sb (show a + k < 80 by omega), tr_sb (show q < 80 by omega), tr_ld (show a + k < 80 by omega), tr_ld (show q < 80 by omega), tr_sd (show a + k < 80 by omega), tr_sd (show q < 80 by omega), nI_1, dI_m]
      have f1 := tRev_s (K := K) hlt
      have f2 := tRev_s (K := B) hlt
      have f3 := tRev_s (K := D) hlt
      rw [hq2] at f1 f2 f3
      rw [f1, f2, f3]
      have := ih (k + 1) (.int (tRev K a e k (a + k))) (.int (tRev B a e k (a + k))) (.int (tRev D a e k (a + k))) (by omega) (by omega)
      rw [hq3] at this
      exact this
    · have hle : dI (e - k) ≤ nI (a + k) := by
        cases hq : e - k with
        | zero => rw [dI_0]; exact Int32.le_trans (by decide) (nI_pos' (show a + k < 2 ^ 31 by omega))
        | succ q => rw [dI_c]; exact nI_le (by omega) (by omega)
      simp only [X7_turnRound_0, X7_turnRound_1, X7_turnRound_4, X7_turnRound_5, X7_turnRound_6, X7_turnRound_9, X7_turnRound_12, X7_turnRound_13, X7_turnRound_14, X7_turnRound_15, X7_turnRound_16, X7_turnRound_17, X7_turnRound_18, X7_turnRound_21, X7_turnRound_23, X7_turnRound_26, X7_turnRound_27, X7_turnRound_30, X7_turnRound_31, X7_turnRound_32, X7_turnRound_34, X7_turnRound_35, X7_turnRound_38, X7_turnRound_39, X7_turnRound_40, X7_turnRound_43, X7_turnRound_45, X7_turnRound_46, X7_turnRound_47, X7_turnRound_48, X7_turnRound_51, X7_turnRound_53, X7_turnRound_55, X7_turnRound_56, X7_turnRound_57, X7_turnRound_60, X7_turnRound_61, X7_turnRound_62, X7_turnRound_64, X7_turnRound_65, X7_turnRound_68, X7_turnRound_69, X7_turnRound_70, X7_turnRound_73, X7_turnRound_75, X7_turnRound_76, X7_turnRound_77, X7_turnRound_78, X7_turnRound_81, X7_turnRound_83, X7_turnRound_85, X7_turnRound_86, X7_turnRound_87, X7_turnRound_90, X7_turnRound_91, X7_turnRound_92, X7_turnRound_94, X7_turnRound_95, X7_turnRound_98, X7_turnRound_99, X7_turnRound_100, X7_turnRound_103, X7_turnRound_105, X7_turnRound_106, X7_turnRound_107, X7_turnRound_108, X7_turnRound_111, X7_turnRound_113, X7_turnRound_115, X7_turnRound_116, X7_turnRound_119, X7_turnRound_122, X7_turnRound_125, iOb_some, iClr_i, iClr_r, iClr_n, iClr_u, iClr_l, rf_s, rf_n, iB_0, iSum_nil, if_pos hle]
      rw [tRev_e hlt h2, tRev_e hlt h2, tRev_e hlt h2]
      rfl
theorem ev_turnRound (hn : n ≤ 80) {a e : Nat} (he : e ≤ n) (hae : a < e) : iEv mX7_turnRound [.ref t, .int (nI a), .int (nI e)] (trH b t n K B D) none (trH b t n (tTurn K a e) (tTurn B a e) (tTurn D a e)) := by
  refine J7_turnRound ?_
  simp only [X7_turnRound_0, X7_turnRound_1, X7_turnRound_4, X7_turnRound_5, X7_turnRound_6, X7_turnRound_9, X7_turnRound_12, X7_turnRound_13, X7_turnRound_14, X7_turnRound_15, X7_turnRound_16, X7_turnRound_17, X7_turnRound_18, X7_turnRound_21, X7_turnRound_23, X7_turnRound_26, X7_turnRound_27, X7_turnRound_30, X7_turnRound_31, X7_turnRound_32, X7_turnRound_34, X7_turnRound_35, X7_turnRound_38, X7_turnRound_39, X7_turnRound_40, X7_turnRound_43, X7_turnRound_45, X7_turnRound_46, X7_turnRound_47, X7_turnRound_48, X7_turnRound_51, X7_turnRound_53, X7_turnRound_55, X7_turnRound_56, X7_turnRound_57, X7_turnRound_60, X7_turnRound_61, X7_turnRound_62, X7_turnRound_64, X7_turnRound_65, X7_turnRound_68, X7_turnRound_69, X7_turnRound_70, X7_turnRound_73, X7_turnRound_75, X7_turnRound_76, X7_turnRound_77, X7_turnRound_78, X7_turnRound_81, X7_turnRound_83, X7_turnRound_85, X7_turnRound_86, X7_turnRound_87, X7_turnRound_90, X7_turnRound_91, X7_turnRound_92, X7_turnRound_94, X7_turnRound_95, X7_turnRound_98, X7_turnRound_99, X7_turnRound_100, X7_turnRound_103, X7_turnRound_105, X7_turnRound_106, X7_turnRound_107, X7_turnRound_108, X7_turnRound_111, X7_turnRound_113, X7_turnRound_115, X7_turnRound_116, X7_turnRound_119, X7_turnRound_122, X7_turnRound_125, iOb_some, iClr_i, iClr_r, iClr_n, iClr_u, iClr_l, rf_s, rf_n, iB_0, iSum_nil, if_neg (nI_pos (show a < 2 ^ 31 by omega)), tr_n, if_pos (nI_le (show e ≤ n by omega) (by omega)), dI_s]
  have := turn_loop (b := b) (t := t) (K := K) (B := B) (D := D) hn he hae (fun r' h' => r' = none ∧ h' = trH b t n (tTurn K a e) (tTurn B a e) (tTurn D a e)) (e - 1 - a) 0 iU iU iU (by omega) (by omega)
  rw [tRev_0, tRev_0, tRev_0] at this
  exact this.mpr ⟨rfl, rfl⟩
end TREE3

/-! puts: what was cut out comes in; loads and lays -/
section MW2
variable {b : iHp} {x n m : Nat} {s : mS} {K B D C E F : Nat → Int32} {j : Nat} {v : Int32}
def tUp (K : Nat → Int32) (m n j : Nat) : Nat → Int32 := fun q => if j + m ≤ q ∧ q < n + m then K (q - m) else K q
def tPt (K C : Nat → Int32) (a k : Nat) : Nat → Int32 := fun q => if a ≤ q ∧ q < a + k then C (q - a) else K q
theorem tUp_0 {K : Nat → Int32} {m n : Nat} : tUp K m n n = K := funext fun q => if_neg (by omega)
theorem tPt_0 {K C : Nat → Int32} {a : Nat} : tPt K C a 0 = K := funext fun q => if_neg (by omega)
theorem tUp_r {K : Nat → Int32} {m n j : Nat} : tUp K m n (j + 1) j = K j := if_neg (by omega)
theorem tUp_s {K : Nat → Int32} {m n j : Nat} (hj : j < n) : upd (tUp K m n (j + 1)) (j + m) (K j) = tUp K m n j := by
  funext q
  unfold upd tUp
  by_cases h : q = j + m
  · rw [if_pos h, if_pos (by omega), h, Nat.add_sub_cancel]
  · rw [if_neg h]
    by_cases h2 : j + 1 + m ≤ q ∧ q < n + m
    · rw [if_pos h2, if_pos (by omega)]
    · rw [if_neg h2, if_neg (by omega)]
theorem tPt_s {K C : Nat → Int32} {a k : Nat} : upd (tPt K C a k) (a + k) (C k) = tPt K C a (k + 1) := by
  funext q
  unfold upd tPt
  by_cases h : q = a + k
  · rw [if_pos h, if_pos (by omega), h, Nat.add_sub_cancel_left]
  · rw [if_neg h]
    by_cases h2 : a ≤ q ∧ q < a + k
    · rw [if_pos h2, if_pos (by omega)]
    · rw [if_neg h2, if_neg (by omega)]
theorem dI_lt {a j : Nat} (ha : a < 2 ^ 31) (h : j ≤ a) : dI j < nI a := by
  cases j with
  | zero => rw [dI_0]; exact Int32.lt_of_lt_of_le (by decide) (nI_pos' ha)
  | succ j => rw [dI_c]; exact nI_lt (by omega) (by omega)
theorem puts_loop1 {a : Nat} (hm : n + m ≤ 66) (a1 a2 : Value) (w : Int32) (Q : Option Value → iHp → Prop) : ∀ k, a + k ≤ n → iWp 3 mX9_puts 26 [.ref x, .int (nI m), a1, a2, .int (nI a), .int w, .int (dI (a + k))] [] (mH b x (wS s n (tUp K m n (a + k)) (tUp B m n (a + k)) (tUp D m n (a + k)) C E F)) Q = iWp 3 mX9_puts 87 [.ref x, .int (nI m), a1, a2, .int (nI a), .int w, .int (dI a)] [] (mH b x (wS s n (tUp K m n a) (tUp B m n a) (tUp D m n a) C E F)) Q := by
  intro k
  induction k with
  | zero =>
    intro hk
    rw [X9_puts_26]
    simp only [X9_puts_28, X9_puts_30, X9_puts_33, X9_puts_34, X9_puts_37, X9_puts_39, X9_puts_40, X9_puts_41, X9_puts_42, X9_puts_45, X9_puts_47, X9_puts_48, X9_puts_49, X9_puts_50, X9_puts_53, X9_puts_55, X9_puts_56, X9_puts_57, X9_puts_58, X9_puts_61, X9_puts_63, X9_puts_64, X9_puts_65, X9_puts_66, X9_puts_69, X9_puts_71, X9_puts_72, X9_puts_73, X9_puts_74, X9_puts_77, X9_puts_79, X9_puts_80, X9_puts_81, X9_puts_84, iOb_some, iClr_i, iClr_r, iClr_n, iClr_u, iClr_l, rf_s, rf_n, iB_0, iSum_nil, if_pos (dI_lt (show a < 2 ^ 31 by omega) (Nat.le_refl a)), Nat.add_zero]
  | succ k ih =>
    intro hk
    rw [X9_puts_26]
    have e : a + (k + 1) = (a + k) + 1 := rfl
    simp only [X9_puts_28, X9_puts_30, X9_puts_33, X9_puts_34, X9_puts_37, X9_puts_39, X9_puts_40, X9_puts_41, X9_puts_42, X9_puts_45, X9_puts_47, X9_puts_48, X9_puts_49, X9_puts_50, X9_puts_53, X9_puts_55, X9_puts_56, X9_puts_57, X9_puts_58, X9_puts_61, X9_puts_63, X9_puts_64, X9_puts_65, X9_puts_66, X9_puts_69, X9_puts_71, X9_puts_72, X9_puts_73, X9_puts_74, X9_puts_77, X9_puts_79, X9_puts_80, X9_puts_81, X9_puts_84, iOb_some, iClr_i, iClr_r, iClr_n, iClr_u, iClr_l, rf_s, rf_n, iB_0, iSum_nil, e, dI_c, if_neg (nI_nlt (show a ≤ a + k by omega) (by omega)), nI_add, mg19, mg20, mg21, ml19 (show a + k < 66 by omega), ml20 (show a + k < 66 by omega), ml21 (show a + k < 66 by omega), ms19 (show a + k + m < 66 by omega), ms20 (show a + k + m < 66 by omega), ms21 (show a + k + m < 66 by omega), wr19, wr20, wr21, w19, w20, w21, dI_m, tUp_r, tUp_s (show a + k < n by omega)]
    exact ih (by omega)
theorem puts_loop2 {a : Nat} (hm : n + m ≤ 66) (ha : a ≤ n) (a2 a3 : Value) (w : Int32) (Q : Option Value → iHp → Prop) : ∀ k r, r + k = m → iWp 3 mX9_puts 100 [.ref x, .int (nI m), a2, a3, .int (nI a), .int w, .int (nI r)] [] (mH b x (wS s (n + m) (tPt K C a r) (tPt B E a r) (tPt D (fun q => F q + w) a r) C E F)) Q = Q none (mH b x (wS s (n + m) (tPt K C a m) (tPt B E a m) (tPt D (fun q => F q + w) a m) C E F)) := by
  intro k
  induction k with
  | zero =>
    intro r hr
    have e : r = m := by omega
    subst e
    rw [X9_puts_100]
    simp only [X9_puts_102, X9_puts_103, X9_puts_106, X9_puts_107, X9_puts_110, X9_puts_112, X9_puts_114, X9_puts_115, X9_puts_116, X9_puts_119, X9_puts_121, X9_puts_122, X9_puts_123, X9_puts_124, X9_puts_127, X9_puts_129, X9_puts_131, X9_puts_132, X9_puts_133, X9_puts_136, X9_puts_138, X9_puts_139, X9_puts_140, X9_puts_141, X9_puts_144, X9_puts_146, X9_puts_148, X9_puts_149, X9_puts_150, X9_puts_153, X9_puts_155, X9_puts_156, X9_puts_158, X9_puts_159, X9_puts_160, X9_puts_163, X9_puts_166, iOb_some, iClr_i, iClr_r, iClr_n, iClr_u, iClr_l, rf_s, rf_n, iB_0, iSum_nil, if_pos (nI_le (Nat.le_refl r) (by omega))]
  | succ k ih =>
    intro r hr
    rw [X9_puts_100]
    have f := tPt_s (K := D) (C := fun q => F q + w) (a := a) (k := r)
    simp only [X9_puts_102, X9_puts_103, X9_puts_106, X9_puts_107, X9_puts_110, X9_puts_112, X9_puts_114, X9_puts_115, X9_puts_116, X9_puts_119, X9_puts_121, X9_puts_122, X9_puts_123, X9_puts_124, X9_puts_127, X9_puts_129, X9_puts_131, X9_puts_132, X9_puts_133, X9_puts_136, X9_puts_138, X9_puts_139, X9_puts_140, X9_puts_141, X9_puts_144, X9_puts_146, X9_puts_148, X9_puts_149, X9_puts_150, X9_puts_153, X9_puts_155, X9_puts_156, X9_puts_158, X9_puts_159, X9_puts_160, X9_puts_163, X9_puts_166, iOb_some, iClr_i, iClr_r, iClr_n, iClr_u, iClr_l, rf_s, rf_n, iB_0, iSum_nil, if_neg (nI_ge (show r < m by omega) (by omega)), nI_add, mg19, mg20, mg21, mg22, mg23, mg24, ml22 (show r < 66 by omega), ml23 (show r < 66 by omega), ml24 (show r < 66 by omega), ms19 (show a + r < 66 by omega), ms20 (show a + r < 66 by omega), ms21 (show a + r < 66 by omega), wr19, wr20, wr21, wr22, wr23, wr24, w19, w20, w21, nI_1, tPt_s, f]
    exact ih (r + 1) (by omega)
/-- the tree with a block of m nodes in it, as child pl of p -/
def tPutI (D : Nat → Int32) (n p pl : Nat) : Nat := tChild D n p pl
theorem tCh_le {D : Nat → Int32} {n i : Nat} (hi : i < n) : ∀ (p a : Nat), a ≤ n → i < a → i < tCh D n i p a ∧ tCh D n i p a ≤ n
  | 0, a, h, h2 => ⟨h2, h⟩
  | p + 1, a, h, h2 => by
    unfold tCh
    have hE := tEnd_gt (D := D) hi
    split
    · have hA := tEnd_gt (D := D) (show a < n by omega)
      exact tCh_le hi p _ hA.2 (by omega)
    · exact ⟨h2, h⟩
theorem tChild_le {D : Nat → Int32} {n i pl : Nat} (hi : i < n) : i < tChild D n i pl ∧ tChild D n i pl ≤ n := tCh_le hi pl (i + 1) (by omega) (by omega)
theorem ev9_puts {p pl : Nat} (hp : p < n) (hpl : pl < 2 ^ 30) (hm : n + m ≤ 66) : iEv mX9_puts [.ref x, .int (nI m), .int (nI p), .int (nI pl)] (mH b x (wS s n K B D C E F)) none (mH b x (wS s (n + m) (tPt (tUp K m n (tChild D n p pl)) C (tChild D n p pl) m) (tPt (tUp B m n (tChild D n p pl)) E (tChild D n p pl) m) (tPt (tUp D m n (tChild D n p pl)) (fun q => F q + (D p + 1)) (tChild D n p pl) m) C E F)) := by
  refine J9_puts ?_
  have hc := tChild_le (D := D) (pl := pl) hp
  generalize ha : tChild D n p pl = a at hc ⊢
  have ec := ev9_child (b := b) (x := x) (s := wS s n K B D C E F) (n := n) rfl (by omega) hpl hp
  rw [wr21, ha] at ec
  simp only [X9_puts_0, X9_puts_1, X9_puts_2, X9_puts_3 ec mH_obj, X9_puts_6, X9_puts_8, X9_puts_9, X9_puts_12, X9_puts_13, X9_puts_14, X9_puts_15, X9_puts_16, X9_puts_18, X9_puts_19, X9_puts_22, X9_puts_23, X9_puts_24, iOb_some, iClr_i, iClr_r, iClr_n, iClr_u, iClr_l, rf_s, rf_n, iB_0, iSum_nil, mg21, mg18, wS_n, ml21 (show p < 66 by omega), wr21, dI_s]
  have h1 := puts_loop1 (b := b) (x := x) (s := s) (K := K) (B := B) (D := D) (C := C) (E := E) (F := F) (a := a) hm (.int (nI p)) (.int (nI pl)) (D p + 1) (fun r' h' => r' = none ∧ h' = mH b x (wS s (n + m) (tPt (tUp K m n a) C a m) (tPt (tUp B m n a) E a m) (tPt (tUp D m n a) (fun q => F q + (D p + 1)) a m) C E F)) (n - a) (by omega)
  rw [show a + (n - a) = n by omega, tUp_0, tUp_0, tUp_0] at h1
  refine h1.mpr ?_
  simp only [X9_puts_87, X9_puts_88, X9_puts_89, X9_puts_92, X9_puts_93, X9_puts_94, X9_puts_97, X9_puts_98, iOb_some, iClr_i, iClr_r, iClr_n, iClr_u, iClr_l, rf_s, rf_n, iB_0, iSum_nil, mg18, wS_n, nI_add, mp18, wS_set]
  have h2 := puts_loop2 (b := b) (x := x) (s := s) (K := tUp K m n a) (B := tUp B m n a) (D := tUp D m n a) (C := C) (E := E) (F := F) (a := a) hm hc.2 (.int (nI p)) (.int (nI pl)) (D p + 1) (fun r' h' => r' = none ∧ h' = mH b x (wS s (n + m) (tPt (tUp K m n a) C a m) (tPt (tUp B m n a) E a m) (tPt (tUp D m n a) (fun q => F q + (D p + 1)) a m) C E F)) m 0 (by omega)
  rw [tPt_0, tPt_0, tPt_0] at h2
  exact h2.mpr ⟨rfl, rfl⟩
end MW2

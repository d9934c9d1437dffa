/-! the reference's working tree, as one word: n, keys, labels, depths, and what was cut out -/
def wS (s : mS) (n : Nat) (K B D C E F : Nat → Int32) : mS := (va_up s.1 18 (nI n), (fun k => match k with
  | 19 => K
  | 20 => B
  | 21 => D
  | 22 => C
  | 23 => E
  | 24 => F
  | k => s.2.1 k), s.2.2)
section MW
variable {b : iHp} {x n m : Nat} {s : mS} {K B D C E F : Nat → Int32} {j : Nat} {v : Int32}
theorem wS_n : (wS s n K B D C E F).1 18 = nI n := rfl
theorem wS_set : mSet (wS s n K B D C E F) 18 (nI m) = wS s m K B D C E F := by
  refine Prod.ext (funext fun k => ?_) rfl
  show va_up (va_up s.1 18 (nI n)) 18 (nI m) k = va_up s.1 18 (nI m) k
  unfold va_up
  by_cases h : k = 18
  · rw [if_pos h, if_pos h]
  · rw [if_neg h, if_neg h, if_neg h]
theorem wS_ext {s1 s2 : mS} (h1 : s1.1 = s2.1) (h2 : ∀ k, s1.2.1 k = s2.2.1 k) (h3 : s1.2.2 = s2.2.2) : s1 = s2 := Prod.ext h1 (Prod.ext (funext h2) h3)
theorem wS_self (hn : s.1 18 = nI n) : wS s n (s.2.1 19) (s.2.1 20) (s.2.1 21) (s.2.1 22) (s.2.1 23) (s.2.1 24) = s := by
  refine wS_ext (funext fun k => ?_) (fun k => ?_) rfl
  · show va_up s.1 18 (nI n) k = s.1 k
    unfold va_up
    by_cases h : k = 18
    · rw [if_pos h, h, hn]
    · rw [if_neg h]
  · show (match k with
      | 19 => s.2.1 19
      | 20 => s.2.1 20
      | 21 => s.2.1 21
      | 22 => s.2.1 22
      | 23 => s.2.1 23
      | 24 => s.2.1 24
      | k => s.2.1 k) = s.2.1 k
    split <;> rfl
theorem wS_off {k : Nat} (h : k < 19 ∨ 24 < k) : (wS s n K B D C E F).2.1 k = s.2.1 k := by
  unfold wS
  dsimp only
  split <;> first | omega | rfl
theorem wS_put {K' B' D' C' E' F' : Nat → Int32} {k : Nat} (h1 : (wS s n K' B' D' C' E' F').2.1 k = upd ((wS s n K B D C E F).2.1 k) j v) (h2 : ∀ q, q ≠ k → (wS s n K' B' D' C' E' F').2.1 q = (wS s n K B D C E F).2.1 q) : mPut (wS s n K B D C E F) k j v = wS s n K' B' D' C' E' F' := by
  refine wS_ext rfl (fun q => ?_) rfl
  show va_up _ k _ q = _
  unfold va_up
  by_cases h : q = k
  · rw [if_pos h, h, h1]
  · rw [if_neg h, h2 q h]
theorem w19 : mPut (wS s n K B D C E F) 19 j v = wS s n (upd K j v) B D C E F := wS_put rfl (fun q hq => by
  unfold wS
  dsimp only
  split <;> first | (exfalso; exact hq rfl) | rfl)
theorem w20 : mPut (wS s n K B D C E F) 20 j v = wS s n K (upd B j v) D C E F := wS_put rfl (fun q hq => by
  unfold wS
  dsimp only
  split <;> first | (exfalso; exact hq rfl) | rfl)
theorem w21 : mPut (wS s n K B D C E F) 21 j v = wS s n K B (upd D j v) C E F := wS_put rfl (fun q hq => by
  unfold wS
  dsimp only
  split <;> first | (exfalso; exact hq rfl) | rfl)
theorem w22 : mPut (wS s n K B D C E F) 22 j v = wS s n K B D (upd C j v) E F := wS_put rfl (fun q hq => by
  unfold wS
  dsimp only
  split <;> first | (exfalso; exact hq rfl) | rfl)
theorem w23 : mPut (wS s n K B D C E F) 23 j v = wS s n K B D C (upd E j v) F := wS_put rfl (fun q hq => by
  unfold wS
  dsimp only
  split <;> first | (exfalso; exact hq rfl) | rfl)
theorem w24 : mPut (wS s n K B D C E F) 24 j v = wS s n K B D C E (upd F j v) := wS_put rfl (fun q hq => by
  unfold wS
  dsimp only
  split <;> first | (exfalso; exact hq rfl) | rfl)
theorem wr19 : (wS s n K B D C E F).2.1 19 = K := rfl
theorem wr20 : (wS s n K B D C E F).2.1 20 = B := rfl
theorem wr21 : (wS s n K B D C E F).2.1 21 = D := rfl
theorem wr22 : (wS s n K B D C E F).2.1 22 = C := rfl
theorem wr23 : (wS s n K B D C E F).2.1 23 = E := rfl
theorem wr24 : (wS s n K B D C E F).2.1 24 = F := rfl
-- cut out
def tCp (C K : Nat → Int32) (i k : Nat) : Nat → Int32 := fun q => if q < k then K (i + q) else C q
def tCpD (F D : Nat → Int32) (i k : Nat) : Nat → Int32 := fun q => if q < k then D (i + q) - D i else F q
def tSh (K : Nat → Int32) (i m e : Nat) : Nat → Int32 := fun q => if i ≤ q ∧ q < e then K (q + m) else K q
theorem tCp_0 {C K : Nat → Int32} {i : Nat} : tCp C K i 0 = C := funext fun q => if_neg (by omega)
theorem tCpD_0 {C K : Nat → Int32} {i : Nat} : tCpD C K i 0 = C := funext fun q => if_neg (by omega)
theorem tSh_0 {K : Nat → Int32} {i m : Nat} : tSh K i m i = K := funext fun q => if_neg (by omega)
theorem tCp_s {C K : Nat → Int32} {i k : Nat} : upd (tCp C K i k) k (K (i + k)) = tCp C K i (k + 1) := by
  funext q
  unfold upd tCp
  by_cases h : q = k
  · rw [if_pos h, if_pos (by omega), h]
  · rw [if_neg h]
    by_cases h2 : q < k
    · rw [if_pos h2, if_pos (by omega)]
    · rw [if_neg h2, if_neg (by omega)]
theorem tCpD_s {C K : Nat → Int32} {i k : Nat} : upd (tCpD C K i k) k (K (i + k) - K i) = tCpD C K i (k + 1) := by
  funext q
  unfold upd tCpD
  by_cases h : q = k
  · rw [if_pos h, if_pos (by omega), h]
  · rw [if_neg h]
    by_cases h2 : q < k
    · rw [if_pos h2, if_pos (by omega)]
    · rw [if_neg h2, if_neg (by omega)]
theorem tSh_r {K : Nat → Int32} {i m e : Nat} (hi : i ≤ e) : tSh K i m e (e + m) = K (e + m) := if_neg (by omega)
theorem tSh_s {K : Nat → Int32} {i m e : Nat} (hi : i ≤ e) : upd (tSh K i m e) e (K (e + m)) = tSh K i m (e + 1) := by
  funext q
  unfold upd tSh
  by_cases h : q = e
  · rw [if_pos h, if_pos (by omega), h]
  · rw [if_neg h]
    by_cases h2 : i ≤ q ∧ q < e
    · rw [if_pos h2, if_pos (by omega)]
    · rw [if_neg h2, if_neg (by omega)]
theorem cuts_loop1 {i : Nat} (him : i + m ≤ n) (h66 : n ≤ 66) (hm : 0 < m) (Q : Option Value → iHp → Prop) : ∀ k r, r + k = m → iWp 1 mX9_cuts 2 [.ref x, .int (nI i), .int (nI m), .int (nI r)] [] (mH b x (wS s n K B D (tCp C K i r) (tCp E B i r) (tCpD F D i r))) Q = iWp 1 mX9_cuts 62 [.ref x, .int (nI i), .int (nI m), .int (nI m)] [] (mH b x (wS s n K B D (tCp C K i m) (tCp E B i m) (tCpD F D i m))) Q := by
  intro k
  induction k with
  | zero =>
    intro r hr
    have e : r = m := by omega
    subst e
    rw [X9_cuts_2]
    simp only [X9_cuts_3, X9_cuts_4, X9_cuts_7, X9_cuts_8, X9_cuts_11, X9_cuts_12, X9_cuts_13, X9_cuts_16, X9_cuts_17, X9_cuts_18, X9_cuts_19, X9_cuts_20, X9_cuts_21, X9_cuts_22, X9_cuts_25, X9_cuts_26, X9_cuts_27, X9_cuts_30, X9_cuts_31, X9_cuts_32, X9_cuts_33, X9_cuts_34, X9_cuts_35, X9_cuts_36, X9_cuts_39, X9_cuts_40, X9_cuts_41, X9_cuts_44, X9_cuts_45, X9_cuts_46, X9_cuts_47, X9_cuts_48, X9_cuts_49, X9_cuts_52, X9_cuts_53, X9_cuts_54, X9_cuts_55, X9_cuts_56, X9_cuts_59, iOb_some, iClr_i, iClr_r, iClr_n, iClr_u, iClr_l, rf_s, rf_n, iB_0, iSum_nil, if_pos (nI_le (Nat.le_refl r) (by omega))]
  | succ k ih =>
    intro r hr
    rw [X9_cuts_2]
    simp only [X9_cuts_3, X9_cuts_4, X9_cuts_7, X9_cuts_8, X9_cuts_11, X9_cuts_12, X9_cuts_13, X9_cuts_16, X9_cuts_17, X9_cuts_18, X9_cuts_19, X9_cuts_20, X9_cuts_21, X9_cuts_22, X9_cuts_25, X9_cuts_26, X9_cuts_27, X9_cuts_30, X9_cuts_31, X9_cuts_32, X9_cuts_33, X9_cuts_34, X9_cuts_35, X9_cuts_36, X9_cuts_39, X9_cuts_40, X9_cuts_41, X9_cuts_44, X9_cuts_45, X9_cuts_46, X9_cuts_47, X9_cuts_48, X9_cuts_49, X9_cuts_52, X9_cuts_53, X9_cuts_54, X9_cuts_55, X9_cuts_56, X9_cuts_59, iOb_some, iClr_i, iClr_r, iClr_n, iClr_u, iClr_l, rf_s, rf_n, iB_0, iSum_nil, if_neg (nI_ge (show r < m by omega) (by omega)), nI_add, mg19, mg20, mg21, mg22, mg23, mg24, ml19 (show i + r < 66 by omega), ml20 (show i + r < 66 by omega), ml21 (show i + r < 66 by omega), ml21 (show i < 66 by omega), ms22 (show r < 66 by omega), ms23 (show r < 66 by omega), ms24 (show r < 66 by omega), wr19, wr20, wr21, wr22, wr23, wr24, w22, w23, w24, nI_1, tCp_s, tCpD_s]
    exact ih (r + 1) (by omega)
theorem cuts_loop2 {i : Nat} (him : i + m ≤ n) (h66 : n ≤ 66) (Q : Option Value → iHp → Prop) : ∀ k r, r + k = n - m → i ≤ r → iWp 1 mX9_cuts 74 [.ref x, .int (nI i), .int (nI m), .int (nI r)] [] (mH b x (wS s (n - m) (tSh K i m r) (tSh B i m r) (tSh D i m r) C E F)) Q = Q none (mH b x (wS s (n - m) (tSh K i m (n - m)) (tSh B i m (n - m)) (tSh D i m (n - m)) C E F)) := by
  intro k
  induction k with
  | zero =>
    intro r hr hir
    have e : r = n - m := by omega
    subst e
    rw [X9_cuts_74]
    simp only [X9_cuts_75, X9_cuts_76, X9_cuts_79, X9_cuts_82, X9_cuts_83, X9_cuts_86, X9_cuts_87, X9_cuts_88, X9_cuts_91, X9_cuts_92, X9_cuts_93, X9_cuts_94, X9_cuts_95, X9_cuts_96, X9_cuts_97, X9_cuts_100, X9_cuts_101, X9_cuts_102, X9_cuts_105, X9_cuts_106, X9_cuts_107, X9_cuts_108, X9_cuts_109, X9_cuts_110, X9_cuts_111, X9_cuts_114, X9_cuts_115, X9_cuts_116, X9_cuts_119, X9_cuts_120, X9_cuts_121, X9_cuts_122, X9_cuts_123, X9_cuts_124, X9_cuts_127, X9_cuts_130, iOb_some, iClr_i, iClr_r, iClr_n, iClr_u, iClr_l, rf_s, rf_n, iB_0, iSum_nil, mg18, wS_n, if_pos (nI_le (Nat.le_refl (n - m)) (by omega))]
  | succ k ih =>
    intro r hr hir
    rw [X9_cuts_74]
    simp only [X9_cuts_75, X9_cuts_76, X9_cuts_79, X9_cuts_82, X9_cuts_83, X9_cuts_86, X9_cuts_87, X9_cuts_88, X9_cuts_91, X9_cuts_92, X9_cuts_93, X9_cuts_94, X9_cuts_95, X9_cuts_96, X9_cuts_97, X9_cuts_100, X9_cuts_101, X9_cuts_102, X9_cuts_105, X9_cuts_106, X9_cuts_107, X9_cuts_108, X9_cuts_109, X9_cuts_110, X9_cuts_111, X9_cuts_114, X9_cuts_115, X9_cuts_116, X9_cuts_119, X9_cuts_120, X9_cuts_121, X9_cuts_122, X9_cuts_123, X9_cuts_124, X9_cuts_127, X9_cuts_130, iOb_some, iClr_i, iClr_r, iClr_n, iClr_u, iClr_l, rf_s, rf_n, iB_0, iSum_nil, mg18, wS_n, if_neg (nI_ge (show r < n - m by omega) (by omega)), nI_add, mg19, mg20, mg21, ml19 (show r + m < 66 by omega), ml20 (show r + m < 66 by omega), ml21 (show r + m < 66 by omega), ms19 (show r < 66 by omega), ms20 (show r < 66 by omega), ms21 (show r < 66 by omega), wr19, wr20, wr21, w19, w20, w21, nI_1, tSh_r hir, tSh_s hir]
    exact ih (r + 1) (by omega) (by omega)
theorem ev9_cuts {i : Nat} (him : i + m ≤ n) (h66 : n ≤ 66) (hm : 0 < m) : iEv mX9_cuts [.ref x, .int (nI i), .int (nI m)] (mH b x (wS s n K B D C E F)) none (mH b x (wS s (n - m) (tSh K i m (n - m)) (tSh B i m (n - m)) (tSh D i m (n - m)) (tCp C K i m) (tCp E B i m) (tCpD F D i m))) := by
  refine J9_cuts ?_
  simp only [X9_cuts_0, X9_cuts_1, iOb_some, iClr_i, iClr_r, iClr_n, iClr_u, iClr_l, rf_s, rf_n, iB_0, iSum_nil]
  have h1 := cuts_loop1 (b := b) (x := x) (s := s) (K := K) (B := B) (D := D) (C := C) (E := E) (F := F) him h66 hm (fun r' h' => r' = none ∧ h' = (mH b x (wS s (n - m) (tSh K i m (n - m)) (tSh B i m (n - m)) (tSh D i m (n - m)) (tCp C K i m) (tCp E B i m) (tCpD F D i m)))) m 0 (by omega)
  rw [tCp_0, tCp_0, tCpD_0] at h1
  refine h1.mpr ?_
  simp only [X9_cuts_62, X9_cuts_63, X9_cuts_64, X9_cuts_67, X9_cuts_68, X9_cuts_69, X9_cuts_72, X9_cuts_73, iOb_some, iClr_i, iClr_r, iClr_n, iClr_u, iClr_l, rf_s, rf_n, iB_0, iSum_nil, mg18, wS_n, pk_sub (show m ≤ n by omega), mp18, wS_set]
  have h2 := cuts_loop2 (b := b) (x := x) (s := s) (K := K) (B := B) (D := D) (C := tCp C K i m) (E := tCp E B i m) (F := tCpD F D i m) him h66 (fun r' h' => r' = none ∧ h' = (mH b x (wS s (n - m) (tSh K i m (n - m)) (tSh B i m (n - m)) (tSh D i m (n - m)) (tCp C K i m) (tCp E B i m) (tCpD F D i m)))) (n - m - i) i (by omega) (Nat.le_refl _)
  rw [tSh_0, tSh_0, tSh_0] at h2
  exact h2.mpr ⟨rfl, rfl⟩
end MW

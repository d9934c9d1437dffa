/-! the class's Draft gives away what it holds; the class's Patch -/
section PATCH
variable {h b : iHp} {d n c p q x a k m j : Nat} {E F : Nat → Option Nat} {C : Nat → Int32} {st so sr : Int32}
theorem iSum_1 (x : Int32) : iSum [.int x] ≤ 8 := Nat.le_of_ble_eq_true rfl
theorem iSum_2 (x y : Int32) : iSum [.int x, .int y] ≤ 8 := Nat.le_of_ble_eq_true rfl
theorem i_max0 (hn : n < 2 ^ 31) : (if (0 : Int32) < nI n then nI n else 0) = nI n := by
  by_cases e : n = 0
  · subst e
    rfl
  · rw [if_pos (show (0 : Int32) < nI n from nI_lt (a := 0) (by omega) hn)]
theorem i_min {u : Nat} (hn : n ≤ u) (hu : u < 2 ^ 31) : (if nI u < nI n then nI u else nI n) = nI n := if_neg (Int32.not_lt.mpr (nI_le hn hu))
def tkE (E : Nat → Option Nat) (n j : Nat) : Option Nat := if j < n then E j else none
theorem tkE_up : va_up (tkE E k) k (E k) = tkE E (k + 1) := by
  funext j
  unfold va_up tkE
  by_cases e : j = k
  · subst e
    rw [if_pos rfl, if_pos (by omega)]
  · rw [if_neg e]
    by_cases g : j < k
    · rw [if_pos g, if_pos (by omega)]
    · rw [if_neg g, if_neg (by omega)]
theorem tkE_0 : tkE E 0 = fun _ => none := funext fun j => if_neg (by omega)
def tkH (h : iHp) (n : Nat) (F : Nat → Option Nat) : iHp := iNew h (.inl (12, n, .inr (.inr (.inr (.inr F))))) n
theorem tkH_st {v : Nat} (hj : j < n) (hn : n ≤ 120) (ho : iObj (tkH h n F) v 2 = true) : iStQ (tkH h n F) h.2.1 (nI j) (some v) = some (tkH h n (va_up F j (some v))) := by
  unfold tkH at ho ⊢
  rw [iStQ_of (k := 12) (v := some v) iNew_at rfl hj (by omega) ho, iNew_set]
theorem take_loop (hd : d + 3 ≤ h.2.1) (hS : drAt h d n c E C) (hn : n ≤ 120) (hE : ∀ j, j < n → ∃ x, E j = some x ∧ x < h.2.1 ∧ iObj h x 2 = true) {Q : Option Value → iHp → Prop} : ∀ k i, i + k = n → (iWp 1 mX1_takeEdits 21 [.ref d, .int (nI n), .ref h.2.1, .int (nI i)] [] (tkH h n (tkE E i)) Q = Q (some (.ref h.2.1)) (tkH h n (tkE E n))) := by
  intro k
  induction k with
  | zero =>
    intro i hi
    obtain rfl : i = n := by omega
    rw [X1_takeEdits_21]
    simp only [X1_takeEdits_0, X1_takeEdits_1, X1_takeEdits_2, X1_takeEdits_5, X1_takeEdits_7, X1_takeEdits_10, X1_takeEdits_13, X1_takeEdits_14, X1_takeEdits_15, X1_takeEdits_18, X1_takeEdits_18n, X1_takeEdits_19, X1_takeEdits_20, X1_takeEdits_22, X1_takeEdits_23, X1_takeEdits_26, X1_takeEdits_26n, X1_takeEdits_27, X1_takeEdits_28, X1_takeEdits_29, X1_takeEdits_32, X1_takeEdits_33, X1_takeEdits_34, X1_takeEdits_34n, X1_takeEdits_35, X1_takeEdits_38, X1_takeEdits_41, X1_takeEdits_41n, X1_takeEdits_42, iOb_some, iClr_i, iClr_r, iClr_n, iClr_u, iClr_l, rf_s, rf_n, iB_0, iSum_nil, if_pos (Int32.le_refl (nI i))]
  | succ k ih =>
    intro i hi
    obtain ⟨x, e1, e2, e3⟩ := hE i (by omega)
    have g0 : iGet (tkH h n (tkE E i)) d 1 0 = some (.ref (d + 1)) := iGet_of ((iNew_off (by omega)).trans hS.1)
    have g1 : iLdQ (tkH h n (tkE E i)) (d + 1) (nI i) = some (E i) := iLdQ_of ((iNew_off (by omega)).trans hS.2.1) rfl (by omega) (by decide)
    have g2 : iObj (tkH h n (tkE E i)) x 2 = true := by
      unfold iObj at e3 ⊢
      rw [show (tkH h n (tkE E i)).1 x = h.1 x from iNew_off (by omega)]
      exact e3
    rw [X1_takeEdits_21]
    simp only [X1_takeEdits_0, X1_takeEdits_1, X1_takeEdits_2, X1_takeEdits_5, X1_takeEdits_7, X1_takeEdits_10, X1_takeEdits_13, X1_takeEdits_14, X1_takeEdits_15, X1_takeEdits_18, X1_takeEdits_18n, X1_takeEdits_19, X1_takeEdits_20, X1_takeEdits_22, X1_takeEdits_23, X1_takeEdits_26, X1_takeEdits_26n, X1_takeEdits_27, X1_takeEdits_28, X1_takeEdits_29, X1_takeEdits_32, X1_takeEdits_33, X1_takeEdits_34, X1_takeEdits_34n, X1_takeEdits_35, X1_takeEdits_38, X1_takeEdits_41, X1_takeEdits_41n, X1_takeEdits_42, iOb_some, iClr_i, iClr_r, iClr_n, iClr_u, iClr_l, rf_s, rf_n, iB_0, iSum_nil, if_neg (nI_ge (show i < n by omega) (by omega)), g0, g1, e1, tkH_st (show i < n by omega) hn g2]
    rw [← e1, tkE_up, ← nI_succ]
    exact ih (i + 1) (by omega)
theorem ev_takeEdits (hd : d + 3 ≤ h.2.1) (hS : drAt h d n c E C) (hn : n ≤ 120) (hE : ∀ j, j < n → ∃ x, E j = some x ∧ x < h.2.1 ∧ iObj h x 2 = true) : iEv mX1_takeEdits [.ref d] h (some (.ref h.2.1)) (tkH h n (tkE E n)) := by
  refine J1_takeEdits ?_
  have e : iNewQ h 2 (nI n) = some (tkH h n (tkE E 0)) := by
    unfold iNewQ
    rw [nI_clamp (show n < 2 ^ 31 by omega), if_pos ⟨nI_pos (by omega), by omega, rfl⟩, tkE_0]
    rfl
  simp only [X1_takeEdits_0, X1_takeEdits_1, X1_takeEdits_2, X1_takeEdits_5, X1_takeEdits_7, X1_takeEdits_10, X1_takeEdits_13, X1_takeEdits_14, X1_takeEdits_15, X1_takeEdits_18, X1_takeEdits_18n, X1_takeEdits_19, X1_takeEdits_20, iOb_some, iClr_i, iClr_r, iClr_n, iClr_u, iClr_l, rf_s, rf_n, iB_0, iSum_nil, iSum_1, hS.g2, show (120 : Int32) = nI 120 from rfl, i_min hn (show 120 < 2 ^ 31 by decide), i_max0 (show n < 2 ^ 31 by omega), e]
  exact (take_loop hd hS hn hE (Q := fun r' h' => r' = some (.ref h.2.1) ∧ h' = tkH h n (tkE E n)) n 0 (by omega)).mpr ⟨rfl, rfl⟩
theorem iCpy_two {f g : Nat → Int32} {sp dp l : Nat} (e : h.1 p = some (.inl (0, m, .inl f))) (e2 : h.1 q = some (.inl (0, k, .inl g))) (h1 : sp + l ≤ m) (h2 : dp + l ≤ k) (hm : m < 2 ^ 31) (hk : k < 2 ^ 31) : iCpy h p (nI sp) q (nI dp) (nI l) = some (iSet h q (.inl (0, k, .inl (va_cpy f g sp dp l)))) := by
  unfold iCpy
  rw [e, e2]
  dsimp only
  rw [nI_clamp (show sp < 2 ^ 31 by omega), nI_clamp (show dp < 2 ^ 31 by omega), nI_clamp (show l < 2 ^ 31 by omega), if_pos ⟨rfl, rfl, nI_pos (by omega), nI_pos (by omega), nI_pos (by omega), h1, h2⟩]
def tkC (h : iHp) (c : Nat) (C : Nat → Int32) : iHp := iNew h (.inl (0, 2 * c, .inl (va_cpy C (fun _ => 0) 0 0 (2 * c)))) (2 * c)
theorem ev_takeConflicts (hd : d + 3 ≤ h.2.1) (hS : drAt h d n c E C) : iEv mX1_takeConflicts [.ref d] h (some (.ref h.2.1)) (tkC h c C) := by
  have hc := hS.2.2.2.2
  refine J1_takeConflicts ?_
  have e : iNewA h .int (nI (2 * c)) = some (iNew h (.inl (0, 2 * c, .inl (fun _ => 0))) (2 * c)) := by
    unfold iNewA
    rw [nI_clamp (show 2 * c < 2 ^ 31 by omega), if_pos ⟨nI_pos (by omega), by omega⟩]
  have g0 : iGet (iNew h (.inl (0, 2 * c, .inl (fun _ => 0))) (2 * c)) d 1 1 = some (.ref (d + 2)) := iGet_of ((iNew_off (by omega)).trans hS.1)
  have g1 := iCpy_two (h := iNew h (.inl (0, 2 * c, .inl (fun _ => 0))) (2 * c)) (sp := 0) (dp := 0) (l := 2 * c) (f := C) (g := fun _ => 0) ((iNew_off (q := d + 2) (by omega)).trans hS.2.2.1) iNew_at (by omega) (by omega) (by decide) (by omega)
  rw [iNew_set, show nI 0 = (0 : Int32) from rfl] at g1
  simp only [X1_takeConflicts_0, X1_takeConflicts_1, X1_takeConflicts_2, X1_takeConflicts_3, X1_takeConflicts_6, X1_takeConflicts_8, X1_takeConflicts_11, X1_takeConflicts_14, iOb_some, iClr_i, iClr_r, iClr_n, iClr_u, iClr_l, rf_s, rf_n, iB_0, iSum_nil, iSum_1, iSum_2, hS.g3, show (120 : Int32) = nI 120 from rfl, i_min hc (show 120 < 2 ^ 31 by decide), i_max0 (show c < 2 ^ 31 by omega), show (2 : Int32) = nI 2 from rfl, pk_mul]
  simp only [X1_takeConflicts_0, X1_takeConflicts_1, X1_takeConflicts_2, X1_takeConflicts_3, X1_takeConflicts_6, X1_takeConflicts_8, X1_takeConflicts_11, X1_takeConflicts_14, X1_takeConflicts_15, X1_takeConflicts_16, X1_takeConflicts_17, X1_takeConflicts_19, X1_takeConflicts_19n, X1_takeConflicts_20, X1_takeConflicts_21, X1_takeConflicts_24, X1_takeConflicts_25, X1_takeConflicts_25n, X1_takeConflicts_26, X1_takeConflicts_27, X1_takeConflicts_28, X1_takeConflicts_31, X1_takeConflicts_31n, X1_takeConflicts_32, iOb_some, iClr_i, iClr_r, iClr_n, iClr_u, iClr_l, rf_s, rf_n, iB_0, iSum_nil, e, g0, g1]
  exact ⟨trivial, rfl⟩
/-- a Patch made of a Draft -/
def ptH (h : iHp) (n c : Nat) (st so sr : Int32) (E : Nat → Option Nat) (C : Nat → Int32) : iHp := nH h [.inr (3, [.int st, .ref (h.2.1 + 1), .ref (h.2.1 + 2), .int so, .int sr]), .inl (12, n, .inr (.inr (.inr (.inr (tkE E n))))), .inl (0, 2 * c, .inl (va_cpy C (fun _ => 0) 0 0 (2 * c)))] (h.2.2 + 5 + n + 2 * c)
theorem iDefs3 : iDefs 3 = [.int 0, .null, .null, .int 0, .int 0] := rfl
theorem drAt.nH {cs : List iPC} {sl : Nat} (hd : d + 3 ≤ h.2.1) (hS : drAt h d n c E C) : drAt (nH h cs sl) d n c E C := ⟨(nH_off (by omega)).trans hS.1, (nH_off (by omega)).trans hS.2.1, (nH_off (by omega)).trans hS.2.2.1, hS.2.2.2⟩
theorem iObj_off {ci x : Nat} {cs : List iPC} {sl : Nat} (hx : x < h.2.1) (ho : iObj h x ci = true) : iObj (nH h cs sl) x ci = true := by
  unfold iObj at ho ⊢
  rw [nH_off hx]
  exact ho
theorem tkH_nH {cs : List iPC} {sl : Nat} : tkH (nH h cs sl) n F = nH h (cs ++ [.inl (12, n, .inr (.inr (.inr (.inr F))))]) (sl + n) := nH_new
theorem tkC_nH {cs : List iPC} {sl : Nat} : tkC (nH h cs sl) c C = nH h (cs ++ [.inl (0, 2 * c, .inl (va_cpy C (fun _ => 0) 0 0 (2 * c)))]) (sl + 2 * c) := nH_new
theorem ev_pinit (hd : d + 3 ≤ h.2.1) (hS : drAt h d n c E C) (hn : n ≤ 120) (hE : ∀ j, j < n → ∃ x, E j = some x ∧ x < h.2.1 ∧ iObj h x 2 = true) (so sr st : Int32) : iEv mX3_init [.ref h.2.1, .ref d, .int so, .int sr, .int st] (iNewO h 3) none (ptH h n c st so sr E C) := by
  refine J3_init (cat_r d) ?_
  rw [nH_o, iDefs3]
  have t1 := ev_takeEdits (h := nH h [.inr (3, [.int 0, .null, .null, .int 0, .int 0])] (h.2.2 + iN 3)) (by rw [nH_next]; omega) (hS.nH hd) hn (fun j hj => by
    obtain ⟨x, e1, e2, e3⟩ := hE j hj
    exact ⟨x, e1, by rw [nH_next]; omega, iObj_off e2 e3⟩)
  rw [tkH_nH, nH_next] at t1
  have t2 := ev_takeConflicts (h := nH h [.inr (3, [.int 0, .ref (h.2.1 + 1), .null, .int 0, .int 0]), .inl (12, n, .inr (.inr (.inr (.inr (tkE E n)))))] (h.2.2 + iN 3 + n)) (by rw [nH_next]; omega) (hS.nH hd)
  rw [tkC_nH, nH_next] at t2
  have o1 : iObj (nH h [.inr (3, [.int 0, .null, .null, .int 0, .int 0])] (h.2.2 + iN 3)) d 1 = true := iObj_off (by omega) hS.o
  have o2 : iObj (nH h [.inr (3, [.int 0, .ref (h.2.1 + 1), .null, .int 0, .int 0]), .inl (12, n, .inr (.inr (.inr (.inr (tkE E n)))))] (h.2.2 + iN 3 + n)) d 1 = true := iObj_off (by omega) hS.o
  simp only [List.length_cons, List.length_nil, List.cons_append, List.nil_append] at t1 t2
  simp only [X3_init_0, X3_init_1, X3_init_4, X3_init_5, X3_init_5n, X3_init_6 t1 o1, X3_init_9, X3_init_9n, X3_init_12, X3_init_13, X3_init_13n, X3_init_14 t2 o2, X3_init_17, X3_init_17n, X3_init_20, X3_init_21, X3_init_22, X3_init_25, X3_init_26, X3_init_27, X3_init_30, X3_init_31, X3_init_33, X3_init_36, iOb_some, iClr_i, iClr_r, iClr_n, iClr_u, iClr_l, rf_s, rf_n, iB_0, iSum_nil, nH_p5 (show 0 < 5 by decide), nH_p5 (show 1 < 5 by decide), nH_p5 (show 2 < 5 by decide), nH_p5 (show 3 < 5 by decide), nH_p5 (show 4 < 5 by decide), List.set_cons_zero, List.set_cons_succ]
  exact ⟨trivial, rfl⟩
-- reading it
def ptAt (h : iHp) (p n c : Nat) (st so sr : Int32) (E : Nat → Option Nat) (C : Nat → Int32) : Prop := h.1 p = some (.inr (3, [.int st, .ref (p + 1), .ref (p + 2), .int so, .int sr])) ∧ h.1 (p + 1) = some (.inl (12, n, .inr (.inr (.inr (.inr E))))) ∧ h.1 (p + 2) = some (.inl (0, 2 * c, .inl C)) ∧ n ≤ 120 ∧ c ≤ 120
end PATCH

/-! the class's Draft: drH: a heap with that Draft in it; the class's Patch -/
section DRAFT
variable {h b : iHp} {d n c q x a k m j : Nat} {E F : Nat → Option Nat} {C : Nat → Int32}
def drC (d n c : Nat) (E : Nat → Option Nat) (C : Nat → Int32) (j : Nat) : iPC := match j with
  | 0 => .inr (1, [.ref (d + 1), .ref (d + 2), .int (nI n), .int (nI c)])
  | 1 => .inl (12, 120, .inr (.inr (.inr (.inr E))))
  | _ => .inl (0, 240, .inl C)
def drH (b : iHp) (d n c : Nat) (E : Nat → Option Nat) (C : Nat → Int32) : iHp := (fun q => if d ≤ q ∧ q < d + 3 then some (drC d n c E C (q - d)) else b.1 q, b.2)
theorem drH_at {p : Nat} (hp : p < 3) : (drH b d n c E C).1 (d + p) = some (drC d n c E C p) := by
  show (if d ≤ d + p ∧ d + p < d + 3 then some (drC d n c E C (d + p - d)) else b.1 (d + p)) = _
  rw [if_pos ⟨by omega, by omega⟩, Nat.add_sub_cancel_left]
theorem drH_off {q : Nat} (hq : q < d ∨ d + 3 ≤ q) : (drH b d n c E C).1 q = b.1 q := if_neg (by omega)
def drAt (h : iHp) (d n c : Nat) (E : Nat → Option Nat) (C : Nat → Int32) : Prop := h.1 d = some (drC d n c E C 0) ∧ h.1 (d + 1) = some (drC d n c E C 1) ∧ h.1 (d + 2) = some (drC d n c E C 2) ∧ n ≤ 1000000 ∧ c ≤ 120
theorem drH_dr (hn : n ≤ 1000000) (hc : c ≤ 120) : drAt (drH b d n c E C) d n c E C := ⟨drH_at (p := 0) (by decide), drH_at (p := 1) (by decide), drH_at (p := 2) (by decide), hn, hc⟩
theorem drAt.eq (hS : drAt h d n c E C) : drH h d n c E C = h := by
  refine Prod.ext (funext fun q => ?_) rfl
  show (if d ≤ q ∧ q < d + 3 then some (drC d n c E C (q - d)) else h.1 q) = h.1 q
  by_cases hq : d ≤ q ∧ q < d + 3
  · rw [if_pos hq]
    obtain ⟨p, rfl⟩ : ∃ p, q = d + p := ⟨q - d, by omega⟩
    rw [Nat.add_sub_cancel_left]
    match p, hq with
    | 0, _ => exact hS.1.symm
    | 1, _ => exact hS.2.1.symm
    | 2, _ => exact hS.2.2.1.symm
    | p + 3, hq => omega
  · rw [if_neg hq]
theorem drH_set {n' c' : Nat} {E' : Nat → Option Nat} {C' : Nat → Int32} {p : Nat} {z : iPC} (hp : p < 3) (hc : z = drC d n' c' E' C' p) (ho : ∀ q, q < 3 → q ≠ p → drC d n' c' E' C' q = drC d n c E C q) : iSet (drH b d n c E C) (d + p) z = drH b d n' c' E' C' := by
  subst hc
  refine Prod.ext (funext fun q => ?_) rfl
  show (if q = d + p then some (drC d n' c' E' C' p) else (if d ≤ q ∧ q < d + 3 then some (drC d n c E C (q - d)) else b.1 q)) = (if d ≤ q ∧ q < d + 3 then some (drC d n' c' E' C' (q - d)) else b.1 q)
  by_cases e : q = d + p
  · subst e
    rw [if_pos rfl, if_pos ⟨by omega, by omega⟩, Nat.add_sub_cancel_left]
  · rw [if_neg e]
    by_cases hq : d ≤ q ∧ q < d + 3
    · rw [if_pos hq, if_pos hq, ho (q - d) (by omega) (by omega)]
    · rw [if_neg hq, if_neg hq]
theorem drAt.g0 (hS : drAt h d n c E C) : iGet h d 1 0 = some (.ref (d + 1)) := iGet_of hS.1
theorem drAt.g1 (hS : drAt h d n c E C) : iGet h d 1 1 = some (.ref (d + 2)) := iGet_of hS.1
theorem drAt.g2 (hS : drAt h d n c E C) : iGet h d 1 2 = some (.int (nI n)) := iGet_of hS.1
theorem drAt.g3 (hS : drAt h d n c E C) : iGet h d 1 3 = some (.int (nI c)) := iGet_of hS.1
theorem drAt.o (hS : drAt h d n c E C) : iObj h d 1 = true := iObj_of hS.1
theorem drAt.le (hS : drAt h d n c E C) (hj : j < 120) : iLdQ h (d + 1) (nI j) = some (E j) := iLdQ_of hS.2.1 rfl hj (by decide)
theorem drAt.lc (hS : drAt h d n c E C) (hj : j < 240) : iLdI h (d + 2) (nI j) = some (C j) := iLdI_of hS.2.2.1 hj (by decide)
-- writes
theorem dr_pn {v : Nat} : iPut (drH b d n c E C) d 1 2 (.int (nI v)) = some (drH b d v c E C) := by
  unfold iPut
  rw [show (drH b d n c E C).1 d = some (.inr (1, [.ref (d + 1), .ref (d + 2), .int (nI n), .int (nI c)])) from drH_at (p := 0) (by decide)]
  dsimp only
  rw [if_pos ⟨rfl, Nat.le_of_ble_eq_true rfl⟩]
  exact congrArg some (drH_set (p := 0) (by decide) rfl (i3 (fun h => absurd rfl h) (fun _ => rfl) (fun _ => rfl)))
theorem dr_pc {v : Nat} : iPut (drH b d n c E C) d 1 3 (.int (nI v)) = some (drH b d n v E C) := by
  unfold iPut
  rw [show (drH b d n c E C).1 d = some (.inr (1, [.ref (d + 1), .ref (d + 2), .int (nI n), .int (nI c)])) from drH_at (p := 0) (by decide)]
  dsimp only
  rw [if_pos ⟨rfl, Nat.le_of_ble_eq_true rfl⟩]
  exact congrArg some (drH_set (p := 0) (by decide) rfl (i3 (fun h => absurd rfl h) (fun _ => rfl) (fun _ => rfl)))
theorem dr_se {v : Option Nat} (hj : j < 120) (ho : iObjO (drH b d n c E C) v 2 = true) : iStQ (drH b d n c E C) (d + 1) (nI j) v = some (drH b d n c (va_up E j v) C) := by
  rw [iStQ_of (drH_at (p := 1) (by decide)) rfl hj (by decide) ho]
  exact congrArg some (drH_set (p := 1) (by decide) rfl (i3 (fun _ => rfl) (fun h => absurd rfl h) (fun _ => rfl)))
theorem dr_sc {v : Int32} (hj : j < 240) : iStI (drH b d n c E C) (d + 2) (nI j) v = some (drH b d n c E (upd C j v)) := by
  rw [iStI_of (drH_at (p := 2) (by decide)) hj (by decide)]
  exact congrArg some (drH_set (p := 2) (by decide) rfl (i3 (fun _ => rfl) (fun _ => rfl) (fun h => absurd rfl h)))
-- what it does
theorem ev_dclear : iEv mX1_clear [.ref d] (drH b d n c E C) none (drH b d 0 0 E C) := by
  refine J1_clear ?_
  simp only [X1_clear_0, X1_clear_1, X1_clear_2, X1_clear_5, X1_clear_6, X1_clear_7, X1_clear_10, iOb_some, iClr_i, iClr_r, iClr_n, iClr_u, iClr_l, rf_s, rf_n, iB_0, iSum_nil, show (0 : Int32) = nI 0 from rfl, dr_pn, dr_pc, and_self]
theorem ev_dadd (hn : n < 120) (hc : c ≤ 120) (ho : iObj (drH b d n c E C) x 2 = true) : iEv mX1_add [.ref d, .ref x] (drH b d n c E C) none (drH b d (n + 1) c (va_up E n (some x)) C) := by
  refine J1_add (cat_r x) ?_
  have h1 : drAt (drH b d n c E C) d n c E C := drH_dr (by omega) hc
  have h2 : drAt (drH b d n c (va_up E n (some x)) C) d n c (va_up E n (some x)) C := drH_dr (by omega) hc
  simp only [X1_add_0, X1_add_1, X1_add_4, X1_add_7, X1_add_8, X1_add_11, X1_add_13, X1_add_16, X1_add_17, X1_add_20, X1_add_21, X1_add_24, X1_add_24n, X1_add_25, X1_add_25n, X1_add_26, X1_add_27, X1_add_28, X1_add_31, X1_add_32, X1_add_33, X1_add_36, iOb_some, iClr_i, iClr_r, iClr_n, iClr_u, iClr_l, rf_s, rf_n, iB_0, iSum_nil, h1.g2, h1.g0, h2.g2, dr_se (v := some x) hn ho, if_neg (show ¬ nI n < 0 from nI_pos (by omega)), if_neg (show ¬ (120 : Int32) ≤ nI n from nI_ge (b := 120) hn (by decide)), ← nI_succ, dr_pn, and_self]
theorem ev_daddN (hn : 120 ≤ n) (hn1 : n ≤ 1000000) (hc : c ≤ 120) (v : Value) (hv : v.category = 1) : iEv mX1_add [.ref d, v] (drH b d n c E C) none (drH b d (n + 1) c E C) := by
  refine J1_add hv ?_
  have h1 : drAt (drH b d n c E C) d n c E C := drH_dr (by omega) hc
  simp only [X1_add_0, X1_add_1, X1_add_4, X1_add_7, X1_add_8, X1_add_11, X1_add_13, X1_add_16, X1_add_17, X1_add_20, X1_add_21, X1_add_24, X1_add_24n, X1_add_25, X1_add_25n, X1_add_26, X1_add_27, X1_add_28, X1_add_31, X1_add_32, X1_add_33, X1_add_36, iOb_some, iClr_i, iClr_r, iClr_n, iClr_u, iClr_l, rf_s, rf_n, iB_0, iSum_nil, h1.g2, h1.g0, if_neg (show ¬ nI n < 0 from nI_pos (by omega)), if_pos (show (120 : Int32) ≤ nI n from nI_le (a := 120) hn (by omega)), ← nI_succ, dr_pn, and_self]
theorem ev_deditN (hS : drAt h d n c E C) {i : Int32} (hi : i < 0 ∨ nI n ≤ i ∨ (120 : Int32) ≤ i) : iEv mX1_editAt [.ref d, .int i] h (some .null) h := by
  refine J1_editAt ?_
  by_cases c1 : i < 0
  · simp only [X1_editAt_0, X1_editAt_1, X1_editAt_4, X1_editAt_5, X1_editAt_6, X1_editAt_9, X1_editAt_12, X1_editAt_13, X1_editAt_15, X1_editAt_18, X1_editAt_19, X1_editAt_22, X1_editAt_23, X1_editAt_24, X1_editAt_27, X1_editAt_28, X1_editAt_28n, iOb_some, iClr_i, iClr_r, iClr_n, iClr_u, iClr_l, rf_s, rf_n, iB_0, iSum_nil, if_pos c1, and_self]
  · by_cases c2 : nI n ≤ i
    · simp only [X1_editAt_0, X1_editAt_1, X1_editAt_4, X1_editAt_5, X1_editAt_6, X1_editAt_9, X1_editAt_12, X1_editAt_13, X1_editAt_15, X1_editAt_18, X1_editAt_19, X1_editAt_22, X1_editAt_23, X1_editAt_24, X1_editAt_27, X1_editAt_28, X1_editAt_28n, iOb_some, iClr_i, iClr_r, iClr_n, iClr_u, iClr_l, rf_s, rf_n, iB_0, iSum_nil, hS.g2, if_neg c1, if_pos c2, and_self]
    · have c3 : (120 : Int32) ≤ i := by
        rcases hi with z | z | z
        · exact absurd z c1
        · exact absurd z c2
        · exact z
      simp only [X1_editAt_0, X1_editAt_1, X1_editAt_4, X1_editAt_5, X1_editAt_6, X1_editAt_9, X1_editAt_12, X1_editAt_13, X1_editAt_15, X1_editAt_18, X1_editAt_19, X1_editAt_22, X1_editAt_23, X1_editAt_24, X1_editAt_27, X1_editAt_28, X1_editAt_28n, iOb_some, iClr_i, iClr_r, iClr_n, iClr_u, iClr_l, rf_s, rf_n, iB_0, iSum_nil, hS.g2, if_neg c1, if_neg c2, if_pos c3, and_self]
theorem ev_dedit (hS : drAt h d n c E C) (hj : j < n) (hj2 : j < 120) (hE : E j = some x) : iEv mX1_editAt [.ref d, .int (nI j)] h (some (.ref x)) h := by
  have h1 := hS.2.2.2.1
  refine J1_editAt ?_
  simp only [X1_editAt_0, X1_editAt_1, X1_editAt_4, X1_editAt_5, X1_editAt_6, X1_editAt_9, X1_editAt_12, X1_editAt_13, X1_editAt_15, X1_editAt_18, X1_editAt_19, X1_editAt_22, X1_editAt_23, X1_editAt_24, X1_editAt_27, X1_editAt_28, X1_editAt_28n, iOb_some, iClr_i, iClr_r, iClr_n, iClr_u, iClr_l, rf_s, rf_n, iB_0, iSum_nil, hS.g2, hS.g0, hS.le hj2, hE, if_neg (show ¬ nI j < 0 from nI_pos (by omega)), if_neg (nI_ge hj (by omega)), if_neg (show ¬ (120 : Int32) ≤ nI j from nI_ge (b := 120) (by omega) (by decide)), and_self]
/-- a new Draft -/
theorem iDefs1 : iDefs 1 = [.null, .null, .int 0, .int 0] := rfl
theorem ev_dinit : iEv mX1_init [.ref h.2.1] (iNewO h 1) none (nH h [drC h.2.1 0 0 (fun _ => none) (fun _ => 0) 0, drC h.2.1 0 0 (fun _ => none) (fun _ => 0) 1, drC h.2.1 0 0 (fun _ => none) (fun _ => 0) 2] (h.2.2 + 364)) := by
  refine J1_init ?_
  rw [nH_o, iDefs1]
  simp only [X1_init_0, X1_init_1, X1_init_4, X1_init_5, X1_init_7, X1_init_10, X1_init_10n, X1_init_13, X1_init_14, X1_init_17, X1_init_19, X1_init_19n, X1_init_22, X1_init_23, X1_init_24, X1_init_27, X1_init_28, X1_init_29, X1_init_32, iOb_some, iClr_i, iClr_r, iClr_n, iClr_u, iClr_l, rf_s, rf_n, iB_0, iSum_nil, show (120 : Int32) = nI 120 from rfl, show (240 : Int32) = nI 240 from rfl, nH_aq (ci := 2) (show 120 ≤ 60000000 by decide) rfl, nH_ai (show 240 ≤ 60000000 by decide), nH_next, List.length_cons, List.length_nil, List.length_append, List.cons_append, List.nil_append, nH_p4 (show 0 < 4 by decide), nH_p4 (show 1 < 4 by decide), nH_p4 (show 2 < 4 by decide), nH_p4 (show 3 < 4 by decide), List.set_cons_zero, List.set_cons_succ]
  exact ⟨trivial, rfl⟩
end DRAFT

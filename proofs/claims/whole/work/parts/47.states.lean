/-! the class's State: stH: a heap with that State in it -/
section STATE
variable {h b : iHp} {s tc pc q x a k m j : Nat} {se : Int32} {T P F : Nat → Option Nat}
theorem iLdQ_of (e : h.1 a = some (.inl (k, m, .inr (.inr (.inr (.inr F)))))) (hk : iRK k = true) (hj : j < m) (hn : m < 2 ^ 31) : iLdQ h a (nI j) = some (F j) := by
  unfold iLdQ
  rw [e]
  dsimp only
  rw [if_pos ⟨hk, nI_in hj hn⟩, nI_clamp (by omega)]
theorem iStQ_of {v : Option Nat} (e : h.1 a = some (.inl (k, m, .inr (.inr (.inr (.inr F)))))) (hk : iRK k = true) (hj : j < m) (hn : m < 2 ^ 31) (ho : iObjO h v (k - 10) = true) : iStQ h a (nI j) v = some (iSet h a (.inl (k, m, .inr (.inr (.inr (.inr (va_up F j v))))))) := by
  unfold iStQ
  rw [e]
  dsimp only
  rw [if_pos ⟨hk, nI_in hj hn, ho⟩, nI_clamp (by omega)]
def stC (s tc pc : Nat) (se : Int32) (T P : Nat → Option Nat) (j : Nat) : iPC := match j with
  | 0 => .inr (6, [.ref (s + 1), .ref (s + 2), .int (nI tc), .int (nI pc), .int se])
  | 1 => .inl (17, 16, .inr (.inr (.inr (.inr T))))
  | _ => .inl (13, 16, .inr (.inr (.inr (.inr P))))
def stH (b : iHp) (s tc pc : Nat) (se : Int32) (T P : Nat → Option Nat) : iHp := (fun q => if s ≤ q ∧ q < s + 3 then some (stC s tc pc se T P (q - s)) else b.1 q, b.2)
theorem stH_at {p : Nat} (hp : p < 3) : (stH b s tc pc se T P).1 (s + p) = some (stC s tc pc se T P p) := by
  show (if s ≤ s + p ∧ s + p < s + 3 then some (stC s tc pc se T P (s + p - s)) else b.1 (s + p)) = _
  rw [if_pos ⟨by omega, by omega⟩, Nat.add_sub_cancel_left]
theorem stH_off {q : Nat} (hq : q < s ∨ s + 3 ≤ q) : (stH b s tc pc se T P).1 q = b.1 q := if_neg (by omega)
def stAt (h : iHp) (s tc pc : Nat) (se : Int32) (T P : Nat → Option Nat) : Prop := h.1 s = some (stC s tc pc se T P 0) ∧ h.1 (s + 1) = some (stC s tc pc se T P 1) ∧ h.1 (s + 2) = some (stC s tc pc se T P 2) ∧ tc ≤ 16 ∧ pc ≤ 16
theorem stH_st (ht : tc ≤ 16) (hp : pc ≤ 16) : stAt (stH b s tc pc se T P) s tc pc se T P := ⟨stH_at (p := 0) (by decide), stH_at (p := 1) (by decide), stH_at (p := 2) (by decide), ht, hp⟩
theorem stAt.eq (hS : stAt h s tc pc se T P) : stH h s tc pc se T P = h := by
  refine Prod.ext (funext fun q => ?_) rfl
  show (if s ≤ q ∧ q < s + 3 then some (stC s tc pc se T P (q - s)) else h.1 q) = h.1 q
  by_cases hq : s ≤ q ∧ q < s + 3
  · rw [if_pos hq]
    obtain ⟨p, rfl⟩ : ∃ p, q = s + p := ⟨q - s, by omega⟩
    rw [Nat.add_sub_cancel_left]
    match p, hq with
    | 0, _ => exact hS.1.symm
    | 1, _ => exact hS.2.1.symm
    | 2, _ => exact hS.2.2.1.symm
    | p + 3, hq => omega
  · rw [if_neg hq]
theorem stH_set {tc' pc' : Nat} {se' : Int32} {T' P' : Nat → Option Nat} {p : Nat} {c : iPC} (hp : p < 3) (hc : c = stC s tc' pc' se' T' P' p) (ho : ∀ q, q < 3 → q ≠ p → stC s tc' pc' se' T' P' q = stC s tc pc se T P q) : iSet (stH b s tc pc se T P) (s + p) c = stH b s tc' pc' se' T' P' := by
  subst hc
  refine Prod.ext (funext fun q => ?_) rfl
  show (if q = s + p then some (stC s tc' pc' se' T' P' p) else (if s ≤ q ∧ q < s + 3 then some (stC s tc pc se T P (q - s)) else b.1 q)) = (if s ≤ q ∧ q < s + 3 then some (stC s tc' pc' se' T' P' (q - s)) else b.1 q)
  by_cases e : q = s + p
  · subst e
    rw [if_pos rfl, if_pos ⟨by omega, by omega⟩, Nat.add_sub_cancel_left]
  · rw [if_neg e]
    by_cases hq : s ≤ q ∧ q < s + 3
    · rw [if_pos hq, if_pos hq, ho (q - s) (by omega) (by omega)]
    · rw [if_neg hq, if_neg hq]
theorem i3 {P : Nat → Prop} (h0 : P 0) (h1 : P 1) (h2 : P 2) : ∀ q, q < 3 → P q := by
  intro q hq
  match q, hq with
  | 0, _ => exact h0
  | 1, _ => exact h1
  | 2, _ => exact h2
  | q + 3, hq => omega
theorem stAt.g0 (hS : stAt h s tc pc se T P) : iGet h s 6 0 = some (.ref (s + 1)) := iGet_of hS.1
theorem stAt.g1 (hS : stAt h s tc pc se T P) : iGet h s 6 1 = some (.ref (s + 2)) := iGet_of hS.1
theorem stAt.g2 (hS : stAt h s tc pc se T P) : iGet h s 6 2 = some (.int (nI tc)) := iGet_of hS.1
theorem stAt.g3 (hS : stAt h s tc pc se T P) : iGet h s 6 3 = some (.int (nI pc)) := iGet_of hS.1
theorem stAt.g4 (hS : stAt h s tc pc se T P) : iGet h s 6 4 = some (.int se) := iGet_of hS.1
theorem stAt.o (hS : stAt h s tc pc se T P) : iObj h s 6 = true := iObj_of hS.1
theorem stAt.lt (hS : stAt h s tc pc se T P) (hj : j < 16) : iLdQ h (s + 1) (nI j) = some (T j) := iLdQ_of hS.2.1 rfl hj (by decide)
theorem stAt.lp (hS : stAt h s tc pc se T P) (hj : j < 16) : iLdQ h (s + 2) (nI j) = some (P j) := iLdQ_of hS.2.2.1 rfl hj (by decide)
-- writes
theorem st_pt {v : Nat} : iPut (stH b s tc pc se T P) s 6 2 (.int (nI v)) = some (stH b s v pc se T P) := by
  unfold iPut
  rw [show (stH b s tc pc se T P).1 s = some (.inr (6, [.ref (s + 1), .ref (s + 2), .int (nI tc), .int (nI pc), .int se])) from stH_at (p := 0) (by decide)]
  dsimp only
  rw [if_pos ⟨rfl, Nat.le_of_ble_eq_true rfl⟩]
  exact congrArg some (stH_set (p := 0) (by decide) rfl (i3 (fun h => absurd rfl h) (fun _ => rfl) (fun _ => rfl)))
theorem st_pp {v : Nat} : iPut (stH b s tc pc se T P) s 6 3 (.int (nI v)) = some (stH b s tc v se T P) := by
  unfold iPut
  rw [show (stH b s tc pc se T P).1 s = some (.inr (6, [.ref (s + 1), .ref (s + 2), .int (nI tc), .int (nI pc), .int se])) from stH_at (p := 0) (by decide)]
  dsimp only
  rw [if_pos ⟨rfl, Nat.le_of_ble_eq_true rfl⟩]
  exact congrArg some (stH_set (p := 0) (by decide) rfl (i3 (fun h => absurd rfl h) (fun _ => rfl) (fun _ => rfl)))
theorem st_ps {v : Int32} : iPut (stH b s tc pc se T P) s 6 4 (.int v) = some (stH b s tc pc v T P) := by
  unfold iPut
  rw [show (stH b s tc pc se T P).1 s = some (.inr (6, [.ref (s + 1), .ref (s + 2), .int (nI tc), .int (nI pc), .int se])) from stH_at (p := 0) (by decide)]
  dsimp only
  rw [if_pos ⟨rfl, Nat.le_of_ble_eq_true rfl⟩]
  exact congrArg some (stH_set (p := 0) (by decide) rfl (i3 (fun h => absurd rfl h) (fun _ => rfl) (fun _ => rfl)))
theorem st_st {v : Option Nat} (hj : j < 16) (ho : iObjO (stH b s tc pc se T P) v 7 = true) : iStQ (stH b s tc pc se T P) (s + 1) (nI j) v = some (stH b s tc pc se (va_up T j v) P) := by
  rw [iStQ_of (stH_at (p := 1) (by decide)) rfl hj (by decide) ho]
  exact congrArg some (stH_set (p := 1) (by decide) rfl (i3 (fun _ => rfl) (fun h => absurd rfl h) (fun _ => rfl)))
theorem st_sp {v : Option Nat} (hj : j < 16) (ho : iObjO (stH b s tc pc se T P) v 3 = true) : iStQ (stH b s tc pc se T P) (s + 2) (nI j) v = some (stH b s tc pc se T (va_up P j v)) := by
  rw [iStQ_of (stH_at (p := 2) (by decide)) rfl hj (by decide) ho]
  exact congrArg some (stH_set (p := 2) (by decide) rfl (i3 (fun _ => rfl) (fun _ => rfl) (fun h => absurd rfl h)))
-- reads
theorem ev_streeN (hS : stAt h s tc pc se T P) {i : Int32} (hi : i < 0 ∨ nI tc ≤ i) : iEv mX6_treeAt [.ref s, .int i] h (some .null) h := by
  refine J6_treeAt ?_
  by_cases c : i < 0
  · simp only [X6_treeAt_0, X6_treeAt_1, X6_treeAt_4, X6_treeAt_5, X6_treeAt_6, X6_treeAt_9, X6_treeAt_12, X6_treeAt_13, X6_treeAt_15, X6_treeAt_18, X6_treeAt_19, X6_treeAt_22, X6_treeAt_23, X6_treeAt_24, X6_treeAt_27, X6_treeAt_28, X6_treeAt_28n, iOb_some, iClr_i, iClr_r, iClr_n, iClr_u, iClr_l, rf_s, rf_n, iB_0, iSum_nil, if_pos c, and_self]
  · have c2 : nI tc ≤ i := by
      rcases hi with z | z
      · exact absurd z c
      · exact z
    simp only [X6_treeAt_0, X6_treeAt_1, X6_treeAt_4, X6_treeAt_5, X6_treeAt_6, X6_treeAt_9, X6_treeAt_12, X6_treeAt_13, X6_treeAt_15, X6_treeAt_18, X6_treeAt_19, X6_treeAt_22, X6_treeAt_23, X6_treeAt_24, X6_treeAt_27, X6_treeAt_28, X6_treeAt_28n, iOb_some, iClr_i, iClr_r, iClr_n, iClr_u, iClr_l, rf_s, rf_n, iB_0, iSum_nil, hS.g2, if_neg c, if_pos c2, and_self]
theorem ev_stree (hS : stAt h s tc pc se T P) (hj : j < tc) (hT : T j = some x) : iEv mX6_treeAt [.ref s, .int (nI j)] h (some (.ref x)) h := by
  have h1 := hS.2.2.2.1
  refine J6_treeAt ?_
  simp only [X6_treeAt_0, X6_treeAt_1, X6_treeAt_4, X6_treeAt_5, X6_treeAt_6, X6_treeAt_9, X6_treeAt_12, X6_treeAt_13, X6_treeAt_15, X6_treeAt_18, X6_treeAt_19, X6_treeAt_22, X6_treeAt_23, X6_treeAt_24, X6_treeAt_27, X6_treeAt_28, X6_treeAt_28n, iOb_some, iClr_i, iClr_r, iClr_n, iClr_u, iClr_l, rf_s, rf_n, iB_0, iSum_nil, hS.g2, hS.g0, hS.lt (show j < 16 by omega), hT, if_neg (show ¬ nI j < 0 from nI_pos (by omega)), if_neg (nI_ge hj (by omega)), if_neg (show ¬ (16 : Int32) ≤ nI j from nI_ge (b := 16) (by omega) (by decide)), and_self]
theorem ev_spatchN (hS : stAt h s tc pc se T P) {i : Int32} (hi : i < 0 ∨ nI pc ≤ i) : iEv mX6_patchAt [.ref s, .int i] h (some .null) h := by
  refine J6_patchAt ?_
  by_cases c : i < 0
  · simp only [X6_patchAt_0, X6_patchAt_1, X6_patchAt_4, X6_patchAt_5, X6_patchAt_6, X6_patchAt_9, X6_patchAt_12, X6_patchAt_13, X6_patchAt_15, X6_patchAt_18, X6_patchAt_19, X6_patchAt_22, X6_patchAt_23, X6_patchAt_24, X6_patchAt_27, X6_patchAt_28, X6_patchAt_28n, iOb_some, iClr_i, iClr_r, iClr_n, iClr_u, iClr_l, rf_s, rf_n, iB_0, iSum_nil, if_pos c, and_self]
  · have c2 : nI pc ≤ i := by
      rcases hi with z | z
      · exact absurd z c
      · exact z
    simp only [X6_patchAt_0, X6_patchAt_1, X6_patchAt_4, X6_patchAt_5, X6_patchAt_6, X6_patchAt_9, X6_patchAt_12, X6_patchAt_13, X6_patchAt_15, X6_patchAt_18, X6_patchAt_19, X6_patchAt_22, X6_patchAt_23, X6_patchAt_24, X6_patchAt_27, X6_patchAt_28, X6_patchAt_28n, iOb_some, iClr_i, iClr_r, iClr_n, iClr_u, iClr_l, rf_s, rf_n, iB_0, iSum_nil, hS.g3, if_neg c, if_pos c2, and_self]
theorem ev_spatch (hS : stAt h s tc pc se T P) (hj : j < pc) (hP : P j = some x) : iEv mX6_patchAt [.ref s, .int (nI j)] h (some (.ref x)) h := by
  have h1 := hS.2.2.2.2
  refine J6_patchAt ?_
  simp only [X6_patchAt_0, X6_patchAt_1, X6_patchAt_4, X6_patchAt_5, X6_patchAt_6, X6_patchAt_9, X6_patchAt_12, X6_patchAt_13, X6_patchAt_15, X6_patchAt_18, X6_patchAt_19, X6_patchAt_22, X6_patchAt_23, X6_patchAt_24, X6_patchAt_27, X6_patchAt_28, X6_patchAt_28n, iOb_some, iClr_i, iClr_r, iClr_n, iClr_u, iClr_l, rf_s, rf_n, iB_0, iSum_nil, hS.g3, hS.g1, hS.lp (show j < 16 by omega), hP, if_neg (show ¬ nI j < 0 from nI_pos (by omega)), if_neg (nI_ge hj (by omega)), if_neg (show ¬ (16 : Int32) ≤ nI j from nI_ge (b := 16) (by omega) (by decide)), and_self]
end STATE

/-! tree: the class -/
section TREE8
variable {h h1 b : iHp} {o sN n k i j l x m a c p q r t u d L st : Nat} {im : Option Nat} {R E T P : Nat → Option Nat} {sh rf C : Nat → Int32} {W : wW} {U V : tT} {va vd v so ky : Int32} {fz : Nat → Int64} {f g : Nat → Int32} {K B D : Nat → Int32}
theorem rdN_f (h : ∀ j, j < L → f j = g j) : rdN f L a d U = rdN g L a d U := by
  have hd : ∀ j, dg f L j = dg g L j := by
    intro j
    unfold dg
    by_cases c : j < L
    · rw [h j c]
    · rw [decide_eq_false (fun z => c z.1), decide_eq_false (fun z => c z.1)]
  unfold rdN
  by_cases c : a < L
  · rw [h a c, hd (a + 1), hd (a + 2)]
    have hk : ∀ ky a', rdK f a d U ky a' = rdK g a d U ky a' := by
      intro ky a'
      unfold rdK
      rw [h a c]
    split
    · split
      · rename_i c1
        have l1 := (of_decide_eq_true c1).1
        split
        · rename_i c2
          have l2 := (of_decide_eq_true c2).1
          rw [hk, h (a + 1) l1, h (a + 2) l2]
        · rw [hk, h (a + 1) l1]
      · rfl
    · rfl
  · rw [if_neg (fun z => c z.1), if_neg (fun z => c z.1)]
theorem rdM_f (h : ∀ j, j < L → f j = g j) : ∀ k a d st U, rdM f L k a d st U = rdM g L k a d st U := by
  intro k
  induction k with
  | zero => intro a d st U; rfl
  | succ k ih =>
    intro a d st U
    rw [rdM_s, rdM_s, rdN_f h]
    by_cases c : a < L
    · rw [if_pos c, if_pos c, h a c, ih (a + 1) (d + 1) 0 U, ih (a + 1) d 0 U, ih (a + 1) (d - 1) 2 U]
      by_cases c1 : st = 0
      · rw [if_pos c1, if_pos c1]
        cases rdN g L a d U with
        | inl x => rfl
        | inr y => exact ih y.1 d 1 y.2
      · rw [if_neg c1, if_neg c1]
    · rw [if_neg c, if_neg c]
theorem rdp4 {a0 a1 a2 a3 v : Value} {ci : Nat} (hk : k < 4) : iPut (iSet b p (.inr (ci, [a0, a1, a2, a3]))) p ci k v = some (iSet b p (.inr (ci, [a0, a1, a2, a3].set k v))) := by
  rw [iPut_at (if_pos rfl) (show k < [a0, a1, a2, a3].length from hk)]
  refine congrArg some (Prod.ext (funext fun z => ?_) rfl)
  show (if z = p then _ else (if z = p then _ else b.1 z)) = (if z = p then _ else b.1 z)
  by_cases e : z = p
  · rw [if_pos e, if_pos e]
  · rw [if_neg e, if_neg e, if_neg e]
theorem iDefs4 : iDefs 4 = [.null, .null, .int 0, .int 0] := rfl
/-- a new Reader -/
theorem ev_rdinit : ∃ g : iHp, iEv mX4_init [.ref h.2.1, .ref q] (iNewO h 4) none (rrH g h.2.1 q (0, fun _ => 0, fun _ => 0, fun _ => 0) 0 0) ∧ (∀ z, z < h.2.1 → g.1 z = h.1 z) ∧ g.2.1 = h.2.1 + 5 ∧ h.2.2 ≤ g.2.2 ∧ g.2.2 ≤ h.2.2 + 400 := by
  have ei := ev_tinit (h := iNewO h 4)
  have e0 : (iNewO h 4).2.1 = h.2.1 + 1 := rfl
  rw [e0] at ei
  generalize hg : nH (iNewO h 4) [.inr (7, [.ref (h.2.1 + 1 + 1), .ref (h.2.1 + 1 + 2), .ref (h.2.1 + 1 + 3), .int 0]), .inl (0, 80, .inl (fun _ => 0)), .inl (0, 80, .inl (fun _ => 0)), .inl (0, 80, .inl (fun _ => 0))] ((iNewO h 4).2.2 + 244) = g at ei
  have hp : g.1 h.2.1 = some (.inr (4, [.null, .null, .int 0, .int 0])) := by
    rw [← hg, nH_off (by rw [e0]; omega)]
    exact iNew_at
  have hT : trAt g (h.2.1 + 1) 0 (fun _ => 0) (fun _ => 0) (fun _ => 0) := by
    rw [← hg]
    exact ⟨nH_at (h := iNewO h 4) (k := 0) (Nat.le_of_ble_eq_true rfl), nH_at (h := iNewO h 4) (k := 1) (Nat.le_of_ble_eq_true rfl), nH_at (h := iNewO h 4) (k := 2) (Nat.le_of_ble_eq_true rfl), nH_at (h := iNewO h 4) (k := 3) (Nat.le_of_ble_eq_true rfl), by decide⟩
  have hs : iSet g h.2.1 (.inr (4, [.null, .null, .int 0, .int 0])) = g := iSet_same hp
  have ef : rrH g h.2.1 q (0, fun _ => 0, fun _ => 0, fun _ => 0) 0 0 = iSet g h.2.1 (rrC h.2.1 q 0 0) := by
    unfold rrH
    rw [← rr_set (c := .inr (4, [.null, .null, .int 0, .int 0])), hs]
    exact congrArg (fun z => iSet z h.2.1 (rrC h.2.1 q 0 0)) hT.eq
  refine ⟨g, ?_, fun z hz => ?_, ?_, ?_, ?_⟩
  · rw [ef]
    refine J4_init (cat_r q) ?_
    have q0 : iPut g h.2.1 4 0 (.ref (h.2.1 + 1)) = some (iSet g h.2.1 (.inr (4, [.ref (h.2.1 + 1), .null, .int 0, .int 0]))) := by
      rw [← hs]
      refine (rdp4 (b := g) (p := h.2.1) (k := 0) (by decide)).trans ?_
      rw [hs]
      rfl
    simp only [X4_init_0, X4_init_1, X4_init_4, X4_init_5, X4_init_8, X4_init_9 ei, X4_init_12, X4_init_12n, X4_init_15, X4_init_16, X4_init_17, X4_init_20, X4_init_21, X4_init_22, X4_init_25, X4_init_26, X4_init_26n, X4_init_27, X4_init_27n, X4_init_30, iOb_some, iClr_i, iClr_r, iClr_n, iClr_u, iClr_l, rf_s, rf_n, iB_0, iSum_nil, e0, q0, rdp4 (b := g) (p := h.2.1) (ci := 4) (k := 1) (by decide), rdp4 (b := g) (p := h.2.1) (ci := 4) (k := 2) (by decide), rdp4 (b := g) (p := h.2.1) (ci := 4) (k := 3) (by decide), List.set_cons_zero, List.set_cons_succ]
    exact ⟨trivial, rfl⟩
  · rw [← hg, nH_off (by rw [e0]; omega)]
    exact iNew_off (by omega)
  · rw [← hg]
    rfl
  · rw [← hg]
    show h.2.2 ≤ h.2.2 + _ + 244
    omega
  · rw [← hg]
    show h.2.2 + 4 + 244 ≤ _
    omega
end TREE8

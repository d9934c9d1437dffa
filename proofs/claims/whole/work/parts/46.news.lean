/-! cells that are made one behind the other: nH h cs sl: h, and cs from its next address on
-/
def nH (h : iHp) (cs : List iPC) (sl : Nat) : iHp := (fun a => if h.2.1 ≤ a ∧ a < h.2.1 + cs.length then cs[a - h.2.1]? else h.1 a, h.2.1 + cs.length, sl)
section NH
variable {h : iHp} {cs : List iPC} {sl k m : Nat} {c : iPC} {t n : Nat} {K B D : Nat → Int32}
theorem nH_next : (nH h cs sl).2.1 = h.2.1 + cs.length := rfl
theorem nH_at (hk : k < cs.length) : (nH h cs sl).1 (h.2.1 + k) = cs[k]? := by
  show (if h.2.1 ≤ h.2.1 + k ∧ h.2.1 + k < h.2.1 + cs.length then cs[h.2.1 + k - h.2.1]? else _) = _
  rw [if_pos ⟨by omega, by omega⟩, Nat.add_sub_cancel_left]
theorem nH_off {a : Nat} (ha : a < h.2.1) : (nH h cs sl).1 a = h.1 a := if_neg (by omega)
theorem nH_0 : nH h [] h.2.2 = h := by
  refine Prod.ext (funext fun a => ?_) rfl
  exact if_neg (by simp only [List.length_nil]; omega)
theorem nH_new : iNew (nH h cs sl) c m = nH h (cs ++ [c]) (sl + m) := by
  refine Prod.ext (funext fun a => ?_) (Prod.ext ?_ rfl)
  · show (if a = h.2.1 + cs.length then some c else (if h.2.1 ≤ a ∧ a < h.2.1 + cs.length then cs[a - h.2.1]? else h.1 a)) = (if h.2.1 ≤ a ∧ a < h.2.1 + (cs ++ [c]).length then (cs ++ [c])[a - h.2.1]? else h.1 a)
    rw [List.length_append, List.length_singleton]
    by_cases e : a = h.2.1 + cs.length
    · rw [if_pos e, if_pos (by omega), e, Nat.add_sub_cancel_left, List.getElem?_append_right (Nat.le_refl _), Nat.sub_self]
      rfl
    · rw [if_neg e]
      by_cases e2 : h.2.1 ≤ a ∧ a < h.2.1 + cs.length
      · rw [if_pos e2, if_pos (by omega), List.getElem?_append_left (by omega)]
      · rw [if_neg e2, if_neg (by omega)]
  · show h.2.1 + cs.length + 1 = h.2.1 + (cs ++ [c]).length
    rw [List.length_append, List.length_singleton]
    omega
theorem nH_set (hk : k < cs.length) : iSet (nH h cs sl) (h.2.1 + k) c = nH h (cs.set k c) sl := by
  refine Prod.ext (funext fun a => ?_) (Prod.ext ?_ rfl)
  · show (if a = h.2.1 + k then some c else (if h.2.1 ≤ a ∧ a < h.2.1 + cs.length then cs[a - h.2.1]? else h.1 a)) = (if h.2.1 ≤ a ∧ a < h.2.1 + (cs.set k c).length then (cs.set k c)[a - h.2.1]? else h.1 a)
    rw [List.length_set]
    by_cases e : a = h.2.1 + k
    · rw [if_pos e, if_pos (by omega), e, Nat.add_sub_cancel_left, List.getElem?_set_self hk]
    · rw [if_neg e]
      by_cases e2 : h.2.1 ≤ a ∧ a < h.2.1 + cs.length
      · rw [if_pos e2, if_pos e2, List.getElem?_set_ne (by omega)]
      · rw [if_neg e2, if_neg e2]
  · show h.2.1 + cs.length = h.2.1 + (cs.set k c).length
    rw [List.length_set]
theorem nH_put {ci f : Nat} {fs : List Value} {v : Value} (hk : cs[k]? = some (.inr (ci, fs))) (hf : f < fs.length) : iPut (nH h cs sl) (h.2.1 + k) ci f v = some (nH h (cs.set k (.inr (ci, fs.set f v))) sl) := by
  have hl : k < cs.length := (List.getElem?_eq_some_iff.mp hk).1
  unfold iPut
  rw [nH_at hl, hk]
  dsimp only
  rw [if_pos ⟨rfl, hf⟩, nH_set hl]
theorem nH_put0 {ci f : Nat} {fs : List Value} {v : Value} (hk : cs[0]? = some (.inr (ci, fs))) (hf : f < fs.length) : iPut (nH h cs sl) h.2.1 ci f v = some (nH h (cs.set 0 (.inr (ci, fs.set f v))) sl) := nH_put (k := 0) hk hf
theorem nH_get0 {ci f : Nat} {fs : List Value} (hk : cs[0]? = some (.inr (ci, fs))) : iGet (nH h cs sl) h.2.1 ci f = fs[f]? := iGet_of ((nH_at (k := 0) (List.getElem?_eq_some_iff.mp hk).1).trans hk)
theorem nH_o {ci : Nat} : iNewO h ci = nH h [.inr (ci, iDefs ci)] (h.2.2 + iN ci) := by
  have e := nH_new (h := h) (cs := []) (sl := h.2.2) (c := .inr (ci, iDefs ci)) (m := iN ci)
  rw [nH_0] at e
  exact e
theorem nH_ai (hm : m ≤ 60000000) : iNewA (nH h cs sl) .int (nI m) = some (nH h (cs ++ [.inl (0, m, .inl (fun _ => 0))]) (sl + m)) := by
  unfold iNewA
  rw [nI_clamp (show m < 2 ^ 31 by omega), if_pos ⟨nI_pos (by omega), hm⟩]
  exact congrArg some nH_new
theorem nH_al (hm : m ≤ 60000000) : iNewA (nH h cs sl) .long (nI m) = some (nH h (cs ++ [.inl (1, m, .inr (.inl (fun _ => 0)))]) (sl + m)) := by
  unfold iNewA
  rw [nI_clamp (show m < 2 ^ 31 by omega), if_pos ⟨nI_pos (by omega), hm⟩]
  exact congrArg some nH_new
theorem nH_ab (hm : m ≤ 60000000) : iNewA (nH h cs sl) .boolean (nI m) = some (nH h (cs ++ [.inl (2, m, .inl (fun _ => 0))]) (sl + m)) := by
  unfold iNewA
  rw [nI_clamp (show m < 2 ^ 31 by omega), if_pos ⟨nI_pos (by omega), hm⟩]
  exact congrArg some nH_new
theorem nH_aq {ci : Nat} (hm : m ≤ 60000000) (hr : iRK (10 + ci) = true) : iNewQ (nH h cs sl) ci (nI m) = some (nH h (cs ++ [.inl (10 + ci, m, .inr (.inr (.inr (.inr (fun _ => none)))))]) (sl + m)) := by
  unfold iNewQ
  rw [nI_clamp (show m < 2 ^ 31 by omega), if_pos ⟨nI_pos (by omega), hm, hr⟩]
  exact congrArg some nH_new
theorem nH_p4 {ci : Nat} {a0 a1 a2 a3 v : Value} (hk : k < 4) : iPut (nH h (.inr (ci, [a0, a1, a2, a3]) :: cs) sl) h.2.1 ci k v = some (nH h (.inr (ci, [a0, a1, a2, a3].set k v) :: cs) sl) := nH_put0 rfl hk
theorem iDefs7 : iDefs 7 = [.null, .null, .null, .int 0] := rfl
/-- a new Tree, empty -/
theorem ev_tinit : iEv mX7_init [.ref h.2.1] (iNewO h 7) none (nH h [.inr (7, [.ref (h.2.1 + 1), .ref (h.2.1 + 2), .ref (h.2.1 + 3), .int 0]), .inl (0, 80, .inl (fun _ => 0)), .inl (0, 80, .inl (fun _ => 0)), .inl (0, 80, .inl (fun _ => 0))] (h.2.2 + 244)) := by
  refine J7_init ?_
  rw [nH_o, iDefs7]
  simp only [X7_init_0, X7_init_1, X7_init_4, X7_init_5, X7_init_7, X7_init_9, X7_init_9n, X7_init_12, X7_init_13, X7_init_15, X7_init_17, X7_init_17n, X7_init_20, X7_init_21, X7_init_23, X7_init_25, X7_init_25n, X7_init_28, X7_init_29, X7_init_30, X7_init_33, iOb_some, iClr_i, iClr_r, iClr_n, iClr_u, iClr_l, rf_s, rf_n, iB_0, iSum_nil, show (80 : Int32) = nI 80 from rfl, nH_ai (show 80 ≤ 60000000 by decide), nH_next, List.length_cons, List.length_nil, List.length_append, List.cons_append, List.nil_append, nH_p4 (show 0 < 4 by decide), nH_p4 (show 1 < 4 by decide), nH_p4 (show 2 < 4 by decide), nH_p4 (show 3 < 4 by decide), List.set_cons_zero, List.set_cons_succ]
  exact ⟨trivial, rfl⟩
end NH

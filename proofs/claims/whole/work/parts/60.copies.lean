/-! copies and rows made -/
section COPY
variable {h : iHp} {cs : List iPC} {sl k m n p s t tc pc : Nat} {f g : Nat → Int32} {K B D : Nat → Int32} {se : Int32} {T P : Nat → Option Nat}
theorem nH_cpy (e : h.1 p = some (.inl (0, m, .inl f))) (hp : p < h.2.1) (e2 : cs[k]? = some (.inl (0, m, .inl g))) (hm : m < 2 ^ 31) : iCpy (nH h cs sl) p (nI 0) (h.2.1 + k) (nI 0) (nI m) = some (nH h (cs.set k (.inl (0, m, .inl (va_cpy f g 0 0 m)))) sl) := by
  have hk : k < cs.length := (List.getElem?_eq_some_iff.mp e2).1
  rw [iCpy_two (f := f) (g := g) ((nH_off hp).trans e) ((nH_at hk).trans e2) (by omega) (by omega) hm hm, nH_set hk]
theorem nH_g4 {ci j : Nat} {a0 a1 a2 a3 : Value} : iGet (nH h (.inr (ci, [a0, a1, a2, a3]) :: cs) sl) h.2.1 ci j = [a0, a1, a2, a3][j]? := nH_get0 rfl
theorem nH_goff {ci j : Nat} {fs : List Value} (e : h.1 p = some (.inr (ci, fs))) (hp : p < h.2.1) : iGet (nH h cs sl) p ci j = fs[j]? := iGet_of ((nH_off hp).trans e)
def cpyOf (f : Nat → Int32) : Nat → Int32 := va_cpy f (fun _ => 0) 0 0 80
theorem cpyOf_at {j : Nat} (hj : j < 80) : cpyOf f j = f j := by
  unfold cpyOf
  rw [pk_cpy_in (by omega) (by omega)]
  exact congrArg f (by omega)
theorem nH_cp80 (e : h.1 p = some (.inl (0, 80, .inl f))) (hp : p < h.2.1) (e2 : cs[k]? = some (.inl (0, 80, .inl (fun _ => 0)))) : iCpy (nH h cs sl) p 0 (h.2.1 + k) 0 80 = some (nH h (cs.set k (.inl (0, 80, .inl (cpyOf f)))) sl) := nH_cpy e hp e2 (by decide)
/-- a Tree copied -/
theorem ev_tcopy (hT : trAt h t n K B D) (ht : t + 4 ≤ h.2.1) : iEv mX7_init_ [.ref h.2.1, .ref t] (iNewO h 7) none (nH h [trC h.2.1 n (cpyOf K) (cpyOf B) (cpyOf D) 0, trC h.2.1 n (cpyOf K) (cpyOf B) (cpyOf D) 1, trC h.2.1 n (cpyOf K) (cpyOf B) (cpyOf D) 2, trC h.2.1 n (cpyOf K) (cpyOf B) (cpyOf D) 3] (h.2.2 + 244)) := by
  refine J7_init_ (cat_r t) ?_
  rw [nH_o, iDefs7]
  have g0 {cs : List iPC} {sl j : Nat} := nH_goff (cs := cs) (sl := sl) (j := j) hT.1 (show t < h.2.1 by omega)
  have c1 := nH_cp80 (k := 1) (sl := h.2.2 + iN 7 + 80 + 80 + 80) (cs := [.inr (7, [.ref (h.2.1 + 1), .ref (h.2.1 + 2), .ref (h.2.1 + 3), .int 0]), .inl (0, 80, .inl (fun _ => 0)), .inl (0, 80, .inl (fun _ => 0)), .inl (0, 80, .inl (fun _ => 0))]) hT.2.1 (by omega) rfl
  have c2 := nH_cp80 (k := 2) (sl := h.2.2 + iN 7 + 80 + 80 + 80) (cs := [.inr (7, [.ref (h.2.1 + 1), .ref (h.2.1 + 2), .ref (h.2.1 + 3), .int 0]), .inl (0, 80, .inl (cpyOf K)), .inl (0, 80, .inl (fun _ => 0)), .inl (0, 80, .inl (fun _ => 0))]) hT.2.2.1 (by omega) rfl
  have c3 := nH_cp80 (k := 3) (sl := h.2.2 + iN 7 + 80 + 80 + 80) (cs := [.inr (7, [.ref (h.2.1 + 1), .ref (h.2.1 + 2), .ref (h.2.1 + 3), .int 0]), .inl (0, 80, .inl (cpyOf K)), .inl (0, 80, .inl (cpyOf B)), .inl (0, 80, .inl (fun _ => 0))]) hT.2.2.2.1 (by omega) rfl
  simp only [List.set_cons_zero, List.set_cons_succ] at c1 c2 c3
  have a1 {cs : List iPC} {sl : Nat} : iNewA (nH h cs sl) .int 80 = some (nH h (cs ++ [.inl (0, 80, .inl (fun _ => 0))]) (sl + 80)) := nH_ai (m := 80) (by decide)
  simp only [X7_init__0, X7_init__1, X7_init__4, X7_init__5, X7_init__7, X7_init__9, X7_init__9n, X7_init__12, X7_init__13, X7_init__15, X7_init__17, X7_init__17n, X7_init__20, X7_init__21, X7_init__23, X7_init__25, X7_init__25n, X7_init__28, X7_init__29, X7_init__30, X7_init__33, X7_init__33n, X7_init__34, X7_init__37, X7_init__38, X7_init__39, X7_init__42, X7_init__43, X7_init__45, X7_init__48, X7_init__48n, X7_init__49, X7_init__52, X7_init__53, X7_init__54, X7_init__57, X7_init__58, X7_init__60, X7_init__63, X7_init__63n, X7_init__64, X7_init__67, X7_init__68, X7_init__69, X7_init__72, X7_init__73, X7_init__75, X7_init__78, X7_init__79, X7_init__79n, X7_init__80, X7_init__83, X7_init__86, iOb_some, iClr_i, iClr_r, iClr_n, iClr_u, iClr_l, rf_s, rf_n, iB_0, iSum_nil, a1, g0, nH_g4, nH_next, List.length_cons, List.length_nil, List.length_append, List.cons_append, List.nil_append, nH_p4 (show 0 < 4 by decide), nH_p4 (show 1 < 4 by decide), nH_p4 (show 2 < 4 by decide), nH_p4 (show 3 < 4 by decide), List.set_cons_zero, List.set_cons_succ, List.getElem?_cons_zero, List.getElem?_cons_succ, c1, c2, c3]
  exact ⟨trivial, rfl⟩
end COPY

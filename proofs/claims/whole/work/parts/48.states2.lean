/-! the class's State: adding, dropping, drawing, and its making -/
section STATE2
variable {h b : iHp} {s tc pc q x a k m j : Nat} {se : Int32} {T P F : Nat → Option Nat}
theorem i_sub1 (hk : 0 < k) : nI k - 1 = nI (k - 1) := by
  obtain ⟨j, rfl⟩ : ∃ j, k = j + 1 := ⟨k - 1, by omega⟩
  rw [nI_pred]
  rfl
theorem ev_saddTree (ht : tc < 16) (hp : pc ≤ 16) (ho : iObj (stH b s tc pc se T P) x 7 = true) : iEv mX6_addTree [.ref s, .ref x] (stH b s tc pc se T P) (some (.int (nI tc))) (stH b s (tc + 1) pc se (va_up T tc (some x)) P) := by
  refine J6_addTree (cat_r x) ?_
  have h1 : stAt (stH b s tc pc se T P) s tc pc se T P := stH_st (by omega) hp
  have h2 : stAt (stH b s tc pc se (va_up T tc (some x)) P) s tc pc se (va_up T tc (some x)) P := stH_st (by omega) hp
  have h3 : stAt (stH b s (tc + 1) pc se (va_up T tc (some x)) P) s (tc + 1) pc se (va_up T tc (some x)) P := stH_st (by omega) hp
  simp only [X6_addTree_0, X6_addTree_1, X6_addTree_4, X6_addTree_7, X6_addTree_8, X6_addTree_11, X6_addTree_13, X6_addTree_16, X6_addTree_17, X6_addTree_18, X6_addTree_19, X6_addTree_22, X6_addTree_23, X6_addTree_26, X6_addTree_26n, X6_addTree_27, X6_addTree_27n, X6_addTree_28, X6_addTree_29, X6_addTree_30, X6_addTree_33, X6_addTree_34, X6_addTree_35, X6_addTree_38, X6_addTree_39, X6_addTree_42, X6_addTree_43, X6_addTree_44, iOb_some, iClr_i, iClr_r, iClr_n, iClr_u, iClr_l, rf_s, rf_n, iB_0, iSum_nil, h1.g2, h1.g0, h2.g2, h3.g2, st_st (v := some x) ht ho, if_neg (show ¬ nI tc < 0 from nI_pos (by omega)), if_pos (show nI tc < 16 from nI_lt (b := 16) ht (by decide)), ← nI_succ, st_pt, nI_pred, and_self]
theorem ev_saddTreeN (hp : pc ≤ 16) (v : Value) (hv : v.category = 1) : iEv mX6_addTree [.ref s, v] (stH b s 16 pc se T P) (some (.int (-1))) (stH b s 16 pc se T P) := by
  refine J6_addTree hv ?_
  have h1 : stAt (stH b s 16 pc se T P) s 16 pc se T P := stH_st (by omega) hp
  simp only [X6_addTree_0, X6_addTree_1, X6_addTree_4, X6_addTree_7, X6_addTree_8, X6_addTree_11, X6_addTree_13, X6_addTree_16, X6_addTree_17, X6_addTree_18, X6_addTree_19, X6_addTree_22, X6_addTree_23, X6_addTree_26, X6_addTree_26n, X6_addTree_27, X6_addTree_27n, X6_addTree_28, X6_addTree_29, X6_addTree_30, X6_addTree_33, X6_addTree_34, X6_addTree_35, X6_addTree_38, X6_addTree_39, X6_addTree_42, X6_addTree_43, X6_addTree_44, iOb_some, iClr_i, iClr_r, iClr_n, iClr_u, iClr_l, rf_s, rf_n, iB_0, iSum_nil, h1.g2, if_neg (show ¬ nI 16 < 0 from nI_pos (by omega)), if_neg (show ¬ nI 16 < (16 : Int32) by decide), and_self]
theorem ev_saddPatch (ht : tc ≤ 16) (hp : pc < 16) (ho : iObj (stH b s tc pc se T P) x 3 = true) : iEv mX6_addPatch [.ref s, .ref x] (stH b s tc pc se T P) (some (.int (nI pc))) (stH b s tc (pc + 1) se T (va_up P pc (some x))) := by
  refine J6_addPatch (cat_r x) ?_
  have h1 : stAt (stH b s tc pc se T P) s tc pc se T P := stH_st ht (by omega)
  have h2 : stAt (stH b s tc pc se T (va_up P pc (some x))) s tc pc se T (va_up P pc (some x)) := stH_st ht (by omega)
  have h3 : stAt (stH b s tc (pc + 1) se T (va_up P pc (some x))) s tc (pc + 1) se T (va_up P pc (some x)) := stH_st ht (by omega)
  simp only [X6_addPatch_0, X6_addPatch_1, X6_addPatch_4, X6_addPatch_7, X6_addPatch_8, X6_addPatch_11, X6_addPatch_13, X6_addPatch_16, X6_addPatch_17, X6_addPatch_18, X6_addPatch_19, X6_addPatch_22, X6_addPatch_23, X6_addPatch_26, X6_addPatch_26n, X6_addPatch_27, X6_addPatch_27n, X6_addPatch_28, X6_addPatch_29, X6_addPatch_30, X6_addPatch_33, X6_addPatch_34, X6_addPatch_35, X6_addPatch_38, X6_addPatch_39, X6_addPatch_42, X6_addPatch_43, X6_addPatch_44, iOb_some, iClr_i, iClr_r, iClr_n, iClr_u, iClr_l, rf_s, rf_n, iB_0, iSum_nil, h1.g3, h1.g1, h2.g3, h3.g3, st_sp (v := some x) hp ho, if_neg (show ¬ nI pc < 0 from nI_pos (by omega)), if_pos (show nI pc < 16 from nI_lt (b := 16) hp (by decide)), ← nI_succ, st_pp, nI_pred, and_self]
theorem ev_saddPatchN (ht : tc ≤ 16) (v : Value) (hv : v.category = 1) : iEv mX6_addPatch [.ref s, v] (stH b s tc 16 se T P) (some (.int (-1))) (stH b s tc 16 se T P) := by
  refine J6_addPatch hv ?_
  have h1 : stAt (stH b s tc 16 se T P) s tc 16 se T P := stH_st ht (by omega)
  simp only [X6_addPatch_0, X6_addPatch_1, X6_addPatch_4, X6_addPatch_7, X6_addPatch_8, X6_addPatch_11, X6_addPatch_13, X6_addPatch_16, X6_addPatch_17, X6_addPatch_18, X6_addPatch_19, X6_addPatch_22, X6_addPatch_23, X6_addPatch_26, X6_addPatch_26n, X6_addPatch_27, X6_addPatch_27n, X6_addPatch_28, X6_addPatch_29, X6_addPatch_30, X6_addPatch_33, X6_addPatch_34, X6_addPatch_35, X6_addPatch_38, X6_addPatch_39, X6_addPatch_42, X6_addPatch_43, X6_addPatch_44, iOb_some, iClr_i, iClr_r, iClr_n, iClr_u, iClr_l, rf_s, rf_n, iB_0, iSum_nil, h1.g3, if_neg (show ¬ nI 16 < 0 from nI_pos (by omega)), if_neg (show ¬ nI 16 < (16 : Int32) by decide), and_self]
theorem ev_sreplace (ht : tc ≤ 16) (hp : pc ≤ 16) (hj : j < tc) (ho : iObj (stH b s tc pc se T P) x 7 = true) : iEv mX6_replaceTree [.ref s, .int (nI j), .ref x] (stH b s tc pc se T P) none (stH b s tc pc se (va_up T j (some x)) P) := by
  refine J6_replaceTree (cat_r x) ?_
  have h1 : stAt (stH b s tc pc se T P) s tc pc se T P := stH_st ht hp
  simp only [X6_replaceTree_0, X6_replaceTree_1, X6_replaceTree_4, X6_replaceTree_5, X6_replaceTree_6, X6_replaceTree_9, X6_replaceTree_12, X6_replaceTree_13, X6_replaceTree_15, X6_replaceTree_18, X6_replaceTree_19, X6_replaceTree_22, X6_replaceTree_23, X6_replaceTree_23n, X6_replaceTree_24, X6_replaceTree_24n, X6_replaceTree_25, iOb_some, iClr_i, iClr_r, iClr_n, iClr_u, iClr_l, rf_s, rf_n, iB_0, iSum_nil, h1.g2, h1.g0, st_st (v := some x) (show j < 16 by omega) ho, if_neg (show ¬ nI j < 0 from nI_pos (by omega)), if_neg (nI_ge hj (by omega)), if_neg (show ¬ (16 : Int32) ≤ nI j from nI_ge (b := 16) (by omega) (by decide)), and_self]
theorem ev_sdrop (ht : tc < 16) (hp : pc ≤ 16) : iEv mX6_dropTree [.ref s] (stH b s (tc + 1) pc se T P) none (stH b s tc pc se (va_up T tc none) P) := by
  refine J6_dropTree ?_
  have h1 : stAt (stH b s (tc + 1) pc se T P) s (tc + 1) pc se T P := stH_st (by omega) hp
  have h2 : stAt (stH b s tc pc se T P) s tc pc se T P := stH_st (by omega) hp
  simp only [X6_dropTree_0, X6_dropTree_1, X6_dropTree_4, X6_dropTree_7, X6_dropTree_8, X6_dropTree_11, X6_dropTree_13, X6_dropTree_16, X6_dropTree_17, X6_dropTree_18, X6_dropTree_21, X6_dropTree_22, X6_dropTree_23, X6_dropTree_26, X6_dropTree_27, X6_dropTree_30, X6_dropTree_31, X6_dropTree_34, X6_dropTree_35, X6_dropTree_35n, X6_dropTree_36, iOb_some, iClr_i, iClr_r, iClr_n, iClr_u, iClr_l, rf_s, rf_n, iB_0, iSum_nil, h1.g2, h2.g2, h2.g0, if_neg (nI_nle (show 0 < tc + 1 by omega) (by omega)), if_neg (show ¬ (16 : Int32) < nI (tc + 1) from Int32.not_lt.mpr (nI_le (b := 16) (by omega) (by decide))), nI_pred, st_pt, st_st (v := none) ht rfl, and_self]
theorem ev_sdrop0 (hp : pc ≤ 16) : iEv mX6_dropTree [.ref s] (stH b s 0 pc se T P) none (stH b s 0 pc se T P) := by
  refine J6_dropTree ?_
  have h1 : stAt (stH b s 0 pc se T P) s 0 pc se T P := stH_st (by omega) hp
  simp only [X6_dropTree_0, X6_dropTree_1, X6_dropTree_4, X6_dropTree_7, X6_dropTree_8, X6_dropTree_11, X6_dropTree_13, X6_dropTree_16, X6_dropTree_17, X6_dropTree_18, X6_dropTree_21, X6_dropTree_22, X6_dropTree_23, X6_dropTree_26, X6_dropTree_27, X6_dropTree_30, X6_dropTree_31, X6_dropTree_34, X6_dropTree_35, X6_dropTree_35n, X6_dropTree_36, iOb_some, iClr_i, iClr_r, iClr_n, iClr_u, iClr_l, rf_s, rf_n, iB_0, iSum_nil, h1.g2, if_pos (show nI 0 ≤ 0 by decide), and_self]
theorem ev_sforget (ht : tc ≤ 16) (hp : pc < 16) : iEv mX6_forgetPatch [.ref s] (stH b s tc (pc + 1) se T P) none (stH b s tc pc se T (va_up P pc none)) := by
  refine J6_forgetPatch ?_
  have h1 : stAt (stH b s tc (pc + 1) se T P) s tc (pc + 1) se T P := stH_st ht (by omega)
  have h2 : stAt (stH b s tc pc se T P) s tc pc se T P := stH_st ht (by omega)
  simp only [X6_forgetPatch_0, X6_forgetPatch_1, X6_forgetPatch_4, X6_forgetPatch_7, X6_forgetPatch_8, X6_forgetPatch_11, X6_forgetPatch_13, X6_forgetPatch_16, X6_forgetPatch_17, X6_forgetPatch_18, X6_forgetPatch_21, X6_forgetPatch_22, X6_forgetPatch_23, X6_forgetPatch_26, X6_forgetPatch_27, X6_forgetPatch_30, X6_forgetPatch_31, X6_forgetPatch_34, X6_forgetPatch_35, X6_forgetPatch_35n, X6_forgetPatch_36, iOb_some, iClr_i, iClr_r, iClr_n, iClr_u, iClr_l, rf_s, rf_n, iB_0, iSum_nil, h1.g3, h2.g3, h2.g1, if_neg (nI_nle (show 0 < pc + 1 by omega) (by omega)), if_neg (show ¬ (16 : Int32) < nI (pc + 1) from Int32.not_lt.mpr (nI_le (b := 16) (by omega) (by decide))), nI_pred, st_pp, st_sp (v := none) hp rfl, and_self]
theorem ev_sforget0 (ht : tc ≤ 16) : iEv mX6_forgetPatch [.ref s] (stH b s tc 0 se T P) none (stH b s tc 0 se T P) := by
  refine J6_forgetPatch ?_
  have h1 : stAt (stH b s tc 0 se T P) s tc 0 se T P := stH_st ht (by omega)
  simp only [X6_forgetPatch_0, X6_forgetPatch_1, X6_forgetPatch_4, X6_forgetPatch_7, X6_forgetPatch_8, X6_forgetPatch_11, X6_forgetPatch_13, X6_forgetPatch_16, X6_forgetPatch_17, X6_forgetPatch_18, X6_forgetPatch_21, X6_forgetPatch_22, X6_forgetPatch_23, X6_forgetPatch_26, X6_forgetPatch_27, X6_forgetPatch_30, X6_forgetPatch_31, X6_forgetPatch_34, X6_forgetPatch_35, X6_forgetPatch_35n, X6_forgetPatch_36, iOb_some, iClr_i, iClr_r, iClr_n, iClr_u, iClr_l, rf_s, rf_n, iB_0, iSum_nil, h1.g3, if_pos (show nI 0 ≤ 0 by decide), and_self]
/-- the next of the seeds, and a number drawn of one -/
def sNext (se : Int32) : Int32 := se * 1103515245 + 12345
def sDraw (se w : Int32) : Int32 := (se.toUInt32 >>> (Int32.toUInt32 16 &&& Int32.toUInt32 31)).toInt32 - (se.toUInt32 >>> (Int32.toUInt32 16 &&& Int32.toUInt32 31)).toInt32 / w * w
theorem ev_sdraw (ht : tc ≤ 16) (hp : pc ≤ 16) {w : Int32} (hw : ¬ w ≤ 0) : iEv mX6_draw [.ref s, .int w] (stH b s tc pc se T P) (some (.int (sDraw (sNext se) w))) (stH b s tc pc (sNext se) T P) := by
  refine J6_draw ?_
  have h1 : stAt (stH b s tc pc se T P) s tc pc se T P := stH_st ht hp
  have h2 : stAt (stH b s tc pc (se * 1103515245 + 12345) T P) s tc pc (se * 1103515245 + 12345) T P := stH_st ht hp
  have h3 : ¬ w = 0 := fun e => hw (e ▸ Int32.le_refl _)
  simp only [X6_draw_0, X6_draw_1, X6_draw_2, X6_draw_5, X6_draw_7, X6_draw_8, X6_draw_11, X6_draw_12, X6_draw_15, X6_draw_16, X6_draw_19, X6_draw_20, X6_draw_23, X6_draw_25, X6_draw_26, X6_draw_27 h3, X6_draw_28, X6_draw_31, X6_draw_32, iOb_some, iClr_i, iClr_r, iClr_n, iClr_u, iClr_l, rf_s, rf_n, iB_0, iSum_nil, h1.g4, st_ps, h2.g4, if_neg hw]
  exact ⟨rfl, rfl⟩
theorem ev_sdraw0 (ht : tc ≤ 16) (hp : pc ≤ 16) {w : Int32} (hw : w ≤ 0) : iEv mX6_draw [.ref s, .int w] (stH b s tc pc se T P) (some (.int 0)) (stH b s tc pc (sNext se) T P) := by
  refine J6_draw ?_
  have h1 : stAt (stH b s tc pc se T P) s tc pc se T P := stH_st ht hp
  simp only [X6_draw_0, X6_draw_1, X6_draw_2, X6_draw_5, X6_draw_7, X6_draw_8, X6_draw_11, X6_draw_12, X6_draw_15, X6_draw_16, X6_draw_19, X6_draw_20, X6_draw_23, X6_draw_25, X6_draw_26, X6_draw_28, X6_draw_31, X6_draw_32, iOb_some, iClr_i, iClr_r, iClr_n, iClr_u, iClr_l, rf_s, rf_n, iB_0, iSum_nil, h1.g4, st_ps, if_pos hw]
  exact ⟨trivial, rfl⟩
/-- a new State -/
theorem iDefs6 : iDefs 6 = [.null, .null, .int 0, .int 0, .int 0] := rfl
theorem nH_p5 {cs : List iPC} {sl ci : Nat} {a0 a1 a2 a3 a4 v : Value} (hk : k < 5) : iPut (nH h (.inr (ci, [a0, a1, a2, a3, a4]) :: cs) sl) h.2.1 ci k v = some (nH h (.inr (ci, [a0, a1, a2, a3, a4].set k v) :: cs) sl) := nH_put0 rfl hk
theorem ev_sinit : iEv mX6_init [.ref h.2.1] (iNewO h 6) none (nH h [stC h.2.1 0 0 1 (fun _ => none) (fun _ => none) 0, stC h.2.1 0 0 1 (fun _ => none) (fun _ => none) 1, stC h.2.1 0 0 1 (fun _ => none) (fun _ => none) 2] (h.2.2 + 37)) := by
  refine J6_init ?_
  rw [nH_o, iDefs6]
  simp only [X6_init_0, X6_init_1, X6_init_4, X6_init_5, X6_init_7, X6_init_10, X6_init_10n, X6_init_13, X6_init_14, X6_init_16, X6_init_19, X6_init_19n, X6_init_22, X6_init_23, X6_init_24, X6_init_27, X6_init_28, X6_init_29, X6_init_32, X6_init_33, X6_init_34, X6_init_37, iOb_some, iClr_i, iClr_r, iClr_n, iClr_u, iClr_l, rf_s, rf_n, iB_0, iSum_nil, show (16 : Int32) = nI 16 from rfl, nH_aq (ci := 7) (show 16 ≤ 60000000 by decide) rfl, nH_aq (ci := 3) (show 16 ≤ 60000000 by decide) rfl, nH_next, List.length_cons, List.length_nil, List.length_append, List.cons_append, List.nil_append, nH_p5 (show 0 < 5 by decide), nH_p5 (show 1 < 5 by decide), nH_p5 (show 2 < 5 by decide), nH_p5 (show 3 < 5 by decide), nH_p5 (show 4 < 5 by decide), List.set_cons_zero, List.set_cons_succ]
  exact ⟨trivial, rfl⟩
end STATE2

/-! calls that only read trees: fault, nodes, find, node, child -/
section READS
variable {h : iHp} {o sN n k i j x : Nat} {im : Option Nat} {R E P : Nat → Option Nat} {sh rf C : Nat → Int32} {W : wW} {b : iHp} {s : mS} {w : sT} {K B D : Nat → Int32} {d : Nat → Nat} {g pl : Nat}
theorem i_any (y : Int32) : ∃ n, y = nI n := ⟨y.toBitVec.toNat, by
  apply Int32.toBitVec_inj.mp
  apply BitVec.eq_of_toNat_eq
  rw [pk_tn y.toBitVec.isLt]⟩
/-- the working tree is this one -/
def wIs (s : mS) (T : tT) : Prop := s.1 18 = nI T.1 ∧ s.2.1 19 = T.2.1 ∧ s.2.1 20 = T.2.2.1 ∧ s.2.1 21 = T.2.2.2
theorem wIs_wS {T : tT} {C E F : Nat → Int32} : wIs (wS s T.1 T.2.1 T.2.2.1 T.2.2.2 C E F) T := ⟨rfl, rfl, rfl, rfl⟩
theorem wIs.eq {T : tT} (h : wIs s T) : s = wS s T.1 T.2.1 T.2.2.1 T.2.2.2 (s.2.1 22) (s.2.1 23) (s.2.1 24) := by
  have := wS_self h.1
  rw [h.2.1, h.2.2.1, h.2.2.2] at this
  exact this.symm
theorem ev9_loadsR (hN : mNow s w) (hW : sOk w) {t : Nat} (ht : t < w.1) : ∃ (T : tT) (s' : mS), iEv mX9_loads [.ref x, .int (nI t)] (mH b x s) none (mH b x s') ∧ wIs s' T ∧ tEq T (w.2.1 t) ∧ sEx LW s s' := by
  obtain ⟨n, hn⟩ := i_any (s.1 18)
  have h60 := (hW.2.2.1 t ht).1.le
  obtain ⟨e1, e2⟩ := hN.2.2.2.1 t ht
  have ev := ev9_loads (b := b) (x := x) (s := s) (n := n) (K := s.2.1 19) (B := s.2.1 20) (D := s.2.1 21) (C := s.2.1 22) (E := s.2.1 23) (F := s.2.1 24) (show t < 16 by have := hW.1; omega) (show (w.2.1 t).1 ≤ 64 by omega) e1
  rw [wS_self hn] at ev
  refine ⟨((w.2.1 t).1, tCp (s.2.1 19) (s.2.1 2) (64 * t) (w.2.1 t).1, tCp (s.2.1 20) (s.2.1 3) (64 * t) (w.2.1 t).1, tCp (s.2.1 21) (s.2.1 4) (64 * t) (w.2.1 t).1), _, ev, ⟨rfl, rfl, rfl, rfl⟩, ⟨rfl, fun i hi => ?_⟩, wS_ex⟩
  obtain ⟨f1, f2, f3⟩ := e2 i hi
  have hi : i < (w.2.1 t).1 := hi
  unfold tCp
  dsimp only
  rw [if_pos hi, if_pos hi, if_pos hi]
  exact ⟨f1, f2, f3⟩
theorem LWX : ∀ k, k ∈ LW → k ∈ LX := by decide
theorem ev9_noV {v : Int32} {r : Nat} (hr : r < 8) (hv : v = -nI r) : iEv mX9_no [.ref x, .int v] (mH b x s) (some (.int v)) (mH b x (mRf s r)) := by
  subst hv
  exact ev9_no hr
theorem ev9_no10V {v : Int32} {r : Nat} (hr : r < 8) (hv : v = -nI r) : iEv mX9_no10 [.ref x, .int v] (mH b x s) (some (.int (v - 10))) (mH b x (mRf s r)) := by
  subst hv
  exact ev9_no10 hr
theorem m9_rf (hR : mRel s W) {r : Nat} (hr : r < 8) {v : Int32} : m9P b x (v, wRef W r) (some (.int v)) (mH b x (mRf s r)) := ⟨rfl, _, rfl, mRf_rel hR hr⟩
theorem m9_same (hR : mRel s W) {v : Int32} : m9P b x (v, W) (some (.int v)) (mH b x s) := ⟨rfl, _, rfl, hR⟩
theorem m9_ex {s' : mS} (hR : mRel s W) (he : sEx LX s s') {v : Int32} : m9P b x (v, W) (some (.int v)) (mH b x s') := ⟨rfl, _, rfl, hR.ex he⟩
-- fault
def aFault (W : wW) : Int32 × wW := (W.2.2.2.2.1, W)
theorem c8_fault (hR : cRep h o W) : ∃ r h1, iEv mX8_fault [.ref o] h r h1 ∧ c8P h o (aFault W) r h1 := by
  obtain ⟨sN, im, R, sh, rf, n, k, E, C, T, P, hR⟩ := hR
  refine I8_fault ?_
  simp only [X8_fault_0, X8_fault_1, X8_fault_4, iOb_some, iClr_i, iClr_r, iClr_n, iClr_u, iClr_l, rf_s, rf_n, iB_0, iSum_nil, hR.g6]
  exact c8_same hR
theorem m9_fault (hR : mRel s W) : ∃ r h1, iEv mX9_fault [.ref x] (mH b x s) r h1 ∧ m9P b x (aFault W) r h1 := by
  refine I9_fault ?_
  simp only [X9_fault_0, X9_fault_1, X9_fault_4, iOb_some, iClr_i, iClr_r, iClr_n, iClr_u, iClr_l, rf_s, rf_n, iB_0, iSum_nil, mg14, hR.2.2.2.2.1]
  exact m9_same hR
-- nodes
def aNodes (W : wW) (t : Int32) : Int32 × wW := match iIx t W.1.1 with
  | none => (-1, wRef W 1)
  | some j => (nI (W.1.2.1 j).1, W)
theorem c8_nodes (hR : cRep h o W) (hW : wOk W) (t : Int32) : ∃ r h1, iEv mX8_nodes [.ref o, .int t] h r h1 ∧ c8P h o (aNodes W t) r h1 := by
  obtain ⟨sN, im, R, sh, rf, n, k, E, C, T, P, hR⟩ := hR
  refine I8_nodes ?_
  unfold aNodes
  rcases iIx_cases t (n := W.1.1) (by have := hW.1.1; omega) with ⟨e, z⟩ | ⟨j, hj, rfl, e⟩
  · rw [e]
    simp only [X8_nodes_0, X8_nodes_1, X8_nodes_2 (c8_treeN hR z) hR.ob, X8_nodes_5, X8_nodes_5n, X8_nodes_6, X8_nodes_6n, X8_nodes_7, X8_nodes_7n, X8_nodes_10, X8_nodes_11, X8_nodes_12 (ev8_refuse hR (v := -1) (r := 1) (by decide) (by decide) rfl) hR.ob, X8_nodes_15, X8_nodes_18, X8_nodes_18n, X8_nodes_19, X8_nodes_22, iOb_some, iClr_i, iClr_r, iClr_n, iClr_u, iClr_l, rf_s, rf_n, iB_0, iSum_nil]
    exact c8_end hR (by decide)
  · rw [e]
    obtain ⟨a, K, B, D, e1, e2, e3, e4⟩ := c8_tree hR hj
    simp only [X8_nodes_0, X8_nodes_1, X8_nodes_2 e1 hR.ob, X8_nodes_5, X8_nodes_5n, X8_nodes_6, X8_nodes_6n, X8_nodes_7, X8_nodes_7n, X8_nodes_10, X8_nodes_11, X8_nodes_15, X8_nodes_18, X8_nodes_18n, X8_nodes_19, X8_nodes_22, iOb_some, iClr_i, iClr_r, iClr_n, iClr_u, iClr_l, rf_s, rf_n, iB_0, iSum_nil, e2.s]
    exact c8_same hR
theorem m9_nodes (hR : mRel s W) (hW : wOk W) (t : Int32) : ∃ r h1, iEv mX9_nodes [.ref x, .int t] (mH b x s) r h1 ∧ m9P b x (aNodes W t) r h1 := by
  refine I9_nodes ?_
  unfold aNodes
  have et := ev9_isTree (b := b) (x := x) hR.1 hW.1.1 (t := t)
  rcases iIx_cases t (n := W.1.1) (by have := hW.1.1; omega) with ⟨e, z⟩ | ⟨j, hj, rfl, e⟩
  · rw [e] at et ⊢
    simp only [X9_nodes_0, X9_nodes_1, X9_nodes_2 et mH_obj, X9_nodes_5, X9_nodes_8, X9_nodes_9, X9_nodes_12, X9_nodes_13, X9_nodes_14, X9_nodes_17, X9_nodes_18, X9_nodes_19 (ev9_noV (v := -1) (r := 1) (by decide) rfl) mH_obj, X9_nodes_22, iOb_some, iClr_i, iClr_r, iClr_n, iClr_u, iClr_l, rf_s, rf_n, iB_0, iSum_nil, Option.isSome_none, if_true]
    exact m9_rf hR (by decide)
  · rw [e] at et ⊢
    simp only [X9_nodes_0, X9_nodes_1, X9_nodes_2 et mH_obj, X9_nodes_5, X9_nodes_8, X9_nodes_9, X9_nodes_12, X9_nodes_13, X9_nodes_14, X9_nodes_17, X9_nodes_18, X9_nodes_22, iOb_some, iClr_i, iClr_r, iClr_n, iClr_u, iClr_l, rf_s, rf_n, iB_0, iSum_nil, Option.isSome_some, Bool.true_eq_false, if_false, mg1, ml1 (show j < 16 by have := hW.1.1; omega), (hR.1.2.2.2.1 j hj).1]
    exact m9_same hR
-- find
def aFind (W : wW) (t ky : Int32) : Int32 × wW := match iIx t W.1.1 with
  | none => (-11, wRef W 1)
  | some j => (oI (tWhere (W.1.2.1 j).2.1 (W.1.2.1 j).1 ky), W)
theorem c8_find (hR : cRep h o W) (hW : wOk W) (t ky : Int32) : ∃ r h1, iEv mX8_find [.ref o, .int t, .int ky] h r h1 ∧ c8P h o (aFind W t ky) r h1 := by
  obtain ⟨sN, im, R, sh, rf, n, k, E, C, T, P, hR⟩ := hR
  refine I8_find ?_
  unfold aFind
  rcases iIx_cases t (n := W.1.1) (by have := hW.1.1; omega) with ⟨e, z⟩ | ⟨j, hj, rfl, e⟩
  · rw [e]
    simp only [X8_find_0, X8_find_1, X8_find_2 (c8_treeN hR z) hR.ob, X8_find_5, X8_find_5n, X8_find_6, X8_find_6n, X8_find_7, X8_find_7n, X8_find_10, X8_find_11, X8_find_12 (ev8_refuseLower hR (v := -1) (r := 1) (by decide) (by decide) rfl) hR.ob, X8_find_15, X8_find_18, X8_find_18n, X8_find_19, X8_find_23, iOb_some, iClr_i, iClr_r, iClr_n, iClr_u, iClr_l, rf_s, rf_n, iB_0, iSum_nil]
    exact c8_end hR (by decide)
  · rw [e]
    obtain ⟨a, K, B, D, e1, e2, e3, e4⟩ := c8_tree hR hj
    simp only [X8_find_0, X8_find_1, X8_find_2 e1 hR.ob, X8_find_5, X8_find_5n, X8_find_6, X8_find_6n, X8_find_7, X8_find_7n, X8_find_10, X8_find_11, X8_find_15, X8_find_18, X8_find_18n, X8_find_19, X8_find_20 (ev_whereOf e2 ky) e2.o, X8_find_23, iOb_some, iClr_i, iClr_r, iClr_n, iClr_u, iClr_l, rf_s, rf_n, iB_0, iSum_nil]
    rw [tWhere_congr (fun j hj => (e3.2 j hj).1)]
    exact c8_same hR
theorem m9_find (hR : mRel s W) (hW : wOk W) (t ky : Int32) : ∃ r h1, iEv mX9_find_ [.ref x, .int t, .int ky] (mH b x s) r h1 ∧ m9P b x (aFind W t ky) r h1 := by
  refine I9_find_ ?_
  unfold aFind
  have et := ev9_isTree (b := b) (x := x) hR.1 hW.1.1 (t := t)
  rcases iIx_cases t (n := W.1.1) (by have := hW.1.1; omega) with ⟨e, z⟩ | ⟨j, hj, rfl, e⟩
  · rw [e] at et ⊢
    simp only [X9_find__0, X9_find__1, X9_find__2 et mH_obj, X9_find__5, X9_find__8, X9_find__9, X9_find__10 (ev9_no10V (v := -1) (r := 1) (by decide) rfl) mH_obj, X9_find__13, X9_find__14, X9_find__15, X9_find__19, X9_find__20, X9_find__24, iOb_some, iClr_i, iClr_r, iClr_n, iClr_u, iClr_l, rf_s, rf_n, iB_0, iSum_nil, Option.isSome_none, if_true]
    exact m9_rf hR (by decide)
  · rw [e] at et ⊢
    obtain ⟨T, s', e1, e2, e3, e4⟩ := ev9_loadsR (b := b) (x := x) hR.1 hW.1 hj
    have hT := e3.symm.ok (hW.1.2.2.1 j hj)
    have e5 := ev9_find (b := b) (x := x) e2.1 (by have := hT.1.le; omega) ky
    simp only [X9_find__0, X9_find__1, X9_find__2 et mH_obj, X9_find__5, X9_find__8, X9_find__9, X9_find__13, X9_find__14, X9_find__15, X9_find__16 e1 mH_obj, X9_find__19, X9_find__20, X9_find__21 e5 mH_obj, X9_find__24, iOb_some, iClr_i, iClr_r, iClr_n, iClr_u, iClr_l, rf_s, rf_n, iB_0, iSum_nil, Option.isSome_some, Bool.true_eq_false, if_false]
    rw [e2.2.1, tWhere_congr (fun j hj => (e3.2 j hj).1), e3.1]
    exact m9_ex hR (e4.mono LWX)
end READS

/-! tree: what comes of it; the reference -/
def rdT (z : Int32 × Nat × (Nat → Int64)) : Option Nat × tT := rd (fun j => (z.2.2 j).toInt32) z.2.1 0 0 0 (0, fun _ => 0, fun _ => 0, fun _ => 0)
def wFa (W : wW) (v : Int32) : wW := (W.1, W.2.1, W.2.2.1, W.2.2.2.1, v, W.2.2.2.2.2)
/-- a world with a tree more -/
def wAd (W : wW) (U : tT) : wW := wNow W (W.1.1 + 1, va_up W.1.2.1 W.1.1 U, W.1.2.2)
def aTree (W : wW) (s : Int32) : Int32 × wW := match iIx s 8 with
  | none => (-1, wRef W 1)
  | some i => match (W.2.2.1 i).1 with
    | none => if (W.2.2.1 i).2 = -1 then (-3, wRef W 3) else (-2, wRef W 2)
    | some z => match (rdT z).1 with
      | some x => (-6, wRef (wFa W (nI x)) 6)
      | none => if W.1.1 = 16 then (-7, wRef (wFa W (-1)) 7) else (nI W.1.1, wAd (wFa W (-1)) (rdT z).2)
section TREE9
variable {h : iHp} {i j k l x m a c p q r t n d L st : Nat} {W : wW} {b : iHp} {s s0 s1 s2 s' : mS} {T U V : tT} {f : Nat → Int32} {ky v : Int32}
theorem rdK_c (h : tEq T U) {a' : Nat} : (∃ x, rdK f a d T ky a' = .inl x ∧ rdK f a d U ky a' = .inl x) ∨ ∃ y z, rdK f a d T ky a' = .inr y ∧ rdK f a d U ky a' = .inr z ∧ y.1 = z.1 ∧ tEq y.2 z.2 := by
  obtain ⟨n, K, B, D⟩ := T
  obtain ⟨n', K', B', D'⟩ := U
  obtain ⟨h1, h2⟩ := h
  dsimp only at h1 h2
  subst h1
  unfold rdK
  dsimp only
  rw [← tWhere_congr (K := K) (K' := K') (fun j hj => (h2 j hj).1)]
  by_cases c : 1 ≤ ky ∧ ky ≤ 60 ∧ tWhere K n ky = none
  · refine Or.inr ⟨_, _, if_pos c, if_pos c, rfl, rfl, fun q hq => ?_⟩
    have hq : q < n + 1 := hq
    show upd K n ky q = upd K' n ky q ∧ upd B n (f a) q = upd B' n (f a) q ∧ upd D n (nI d) q = upd D' n (nI d) q
    unfold upd
    by_cases cq : q = n
    · rw [if_pos cq, if_pos cq, if_pos cq, if_pos cq, if_pos cq, if_pos cq]
      exact ⟨rfl, rfl, rfl⟩
    · rw [if_neg cq, if_neg cq, if_neg cq, if_neg cq, if_neg cq, if_neg cq]
      exact h2 q (by omega)
  · exact Or.inl ⟨_, if_neg c, if_neg c⟩
theorem rdN_c (h : tEq T U) : (∃ x, rdN f L a d T = .inl x ∧ rdN f L a d U = .inl x) ∨ ∃ y z, rdN f L a d T = .inr y ∧ rdN f L a d U = .inr z ∧ y.1 = z.1 ∧ tEq y.2 z.2 := by
  unfold rdN
  rw [← h.1]
  split
  · split
    · split
      · exact rdK_c h
      · exact rdK_c h
    · exact Or.inl ⟨_, rfl, rfl⟩
  · exact Or.inl ⟨_, rfl, rfl⟩
theorem rdM_c : ∀ k a d st T U, tEq T U → (rdM f L k a d st T).1 = (rdM f L k a d st U).1 ∧ tEq (rdM f L k a d st T).2 (rdM f L k a d st U).2 := by
  have he : ∀ d st T U, tEq T U → (rdE L d st T).1 = (rdE L d st U).1 ∧ tEq (rdE L d st T).2 (rdE L d st U).2 := by
    intro d st T U h
    unfold rdE
    split
    · exact ⟨rfl, h⟩
    · exact ⟨rfl, h⟩
  intro k
  induction k with
  | zero => intro a d st T U h; exact he d st T U h
  | succ k ih =>
    intro a d st T U h
    rw [rdM_s, rdM_s]
    by_cases c : a < L
    · rw [if_pos c, if_pos c]
      by_cases c1 : st = 0
      · rw [if_pos c1, if_pos c1]
        rcases rdN_c (f := f) (L := L) (a := a) (d := d) h with ⟨x, e1, e2⟩ | ⟨y, z, e1, e2, e3, e4⟩
        · rw [e1, e2]
          exact ⟨rfl, h⟩
        · rw [e1, e2]
          dsimp only
          rw [e3]
          exact ih z.1 d 1 y.2 z.2 e4
      · rw [if_neg c1, if_neg c1]
        split
        · exact ih _ _ _ T U h
        · split
          · exact ih _ _ _ T U h
          · split
            · exact ih _ _ _ T U h
            · exact ⟨rfl, h⟩
    · rw [if_neg c, if_neg c]
      exact he d st T U h
theorem mRel.fa (hR : mRel s W) : mRel (mSet s 14 v) (wFa W v) := ⟨hR.1, hR.2.1, hR.2.2.1, hR.2.2.2.1, rfl, hR.2.2.2.2.2⟩
theorem mRel.ad (hR : mRel s (wTr W W.1.1 U)) (h1 : s.2.1 1 W.1.1 = nI U.1) (h2 : mTr (s.2.1 2) (s.2.1 3) (s.2.1 4) W.1.1 U) : mRel (mSet s 0 (nI (W.1.1 + 1))) (wAd W U) := by
  refine ⟨⟨rfl, hR.1.2.1, hR.1.2.2.1, fun t ht => ?_, hR.1.2.2.2.2⟩, hR.2.1, hR.2.2.1, hR.2.2.2.1, hR.2.2.2.2.1, hR.2.2.2.2.2⟩
  have ht : t < W.1.1 + 1 := ht
  show s.2.1 1 t = nI (va_up W.1.2.1 W.1.1 U t).1 ∧ mTr (s.2.1 2) (s.2.1 3) (s.2.1 4) t (va_up W.1.2.1 W.1.1 U t)
  by_cases c : t = W.1.1
  · subst c
    rw [show va_up W.1.2.1 W.1.1 U W.1.1 = U from if_pos rfl]
    exact ⟨h1, h2⟩
  · exact hR.1.2.2.2.1 t (show t < W.1.1 by omega)
theorem wFa_ok (hW : wOk W) : wOk (wFa W v) := hW
theorem m9_tree (hR : mRel s W) (hW : wOk W) (y : Int32) : ∃ r h1, iEv mX9_tree [.ref x, .int y] (mH b x s) r h1 ∧ m9P b x (aTree W y) r h1 := by
  refine I9_tree ?_
  unfold aTree
  have en := ev9_noRow (b := b) (x := x) hR hW (i := y)
  unfold aNoRow at en
  rcases iIx_cases y (n := 8) (by decide) with ⟨e, z⟩ | ⟨i, hi, rfl, e⟩
  · rw [e] at en ⊢
    simp only [X9_tree_0, X9_tree_1, X9_tree_2 en mH_obj, X9_tree_5, X9_tree_6, X9_tree_7, X9_tree_10, X9_tree_11, X9_tree_12 (ev9_noV (v := -1) (r := 1) (by decide) rfl) mH_obj, X9_tree_15, iOb_some, iClr_i, iClr_r, iClr_n, iClr_u, iClr_l, rf_s, rf_n, iB_0, iSum_nil, if_neg (show ¬ (0 : Int32) ≤ -1 by decide)]
    exact m9_rf hR (by decide)
  · rw [e] at en ⊢
    dsimp only at en ⊢
    cases hz : (W.2.2.1 i).1 with
    | none =>
      rw [hz] at en
      dsimp only at en ⊢
      by_cases c : (W.2.2.1 i).2 = -1
      · rw [if_pos c] at en ⊢
        simp only [X9_tree_0, X9_tree_1, X9_tree_2 en mH_obj, X9_tree_5, X9_tree_6, X9_tree_7, X9_tree_10, X9_tree_11, X9_tree_12 (ev9_noV (v := -3) (r := 3) (by decide) rfl) mH_obj, X9_tree_15, iOb_some, iClr_i, iClr_r, iClr_n, iClr_u, iClr_l, rf_s, rf_n, iB_0, iSum_nil, if_neg (show ¬ (0 : Int32) ≤ -3 by decide)]
        exact m9_rf hR (by decide)
      · rw [if_neg c] at en ⊢
        simp only [X9_tree_0, X9_tree_1, X9_tree_2 en mH_obj, X9_tree_5, X9_tree_6, X9_tree_7, X9_tree_10, X9_tree_11, X9_tree_12 (ev9_noV (v := -2) (r := 2) (by decide) rfl) mH_obj, X9_tree_15, iOb_some, iClr_i, iClr_r, iClr_n, iClr_u, iClr_l, rf_s, rf_n, iB_0, iSum_nil, if_neg (show ¬ (0 : Int32) ≤ -2 by decide)]
        exact m9_rf hR (by decide)
    | some z =>
      rw [hz] at en
      dsimp only at en ⊢
      have hsh := (hR.2.2.1 i hi).2 z hz
      have hL : z.2.1 ≤ 160 := by
        have := hW.2.2 i hi
        unfold shOk at this
        rw [hz] at this
        exact this.2.1
      have x0 : sEx LX s (mSet (mSet (mSet s 15 (nI i)) 16 0) 18 0) := ((mSet_ex (by decide)).trans (mSet_ex (by decide))).trans (mSet_ex (by decide))
      have hS : rsR (mSet (mSet (mSet s 15 (nI i)) 16 0) 18 0) i z.2.1 (fun j => (z.2.2 j).toInt32) := ⟨rfl, hsh.1, fun j hj => congrArg Int64.toInt32 (hsh.2 j hj)⟩
      obtain ⟨r, h1, ev, s2, rfl, y1, y2⟩ := ev9_node (b := b) (x := x) hi hL 40 (0, s.2.1 19, s.2.1 20, s.2.1 21) 0 0 (mSet (mSet (mSet s 15 (nI i)) 16 0) 18 0) (by show 40 - 0 ≤ 40; omega) (Nat.le_refl _) (by show 0 ≤ 40; omega) hS rfl (Nat.zero_le _) ⟨rfl, rfl, rfl, rfl⟩
      have hS2 := hS.ex y1
      have x2 : sEx LX s s2 := x0.trans (y1.mono (by decide))
      obtain ⟨g1, g2⟩ := rdM_c (f := fun j => (z.2.2 j).toInt32) (L := z.2.1) (z.2.1 - 0) 0 0 0 (0, s.2.1 19, s.2.1 20, s.2.1 21) (0, fun _ => 0, fun _ => 0, fun _ => 0) ⟨rfl, fun q hq => absurd hq (Nat.not_lt_zero q)⟩
      have rk : iRank mX9_node [.ref x, .int 0] < 49 := Nat.le_of_ble_eq_true rfl
      have ev : iEv mX9_node [.ref x, .int 0] (mH b x (mSet (mSet (mSet s 15 (nI i)) 16 0) 18 0)) r (mH b x s2) := ev
      have n10 : ¬ (1 : Int32) = 0 := by decide
      have bad : ∀ u : Nat, u ≤ z.2.1 → s2.1 16 = nI u → (rdT z).1 = some u → iWp 49 mX9_tree 58 [.ref x, .int (nI i), .int 0, .int 0] [] (mH b x s2) (m9P b x (match (rdT z).1 with
          | some x => (-6, wRef (wFa W (nI x)) 6)
          | none => if W.1.1 = 16 then (-7, wRef (wFa W (-1)) 7) else (nI W.1.1, wAd (wFa W (-1)) (rdT z).2))) := by
        intro u h1 h2 h3
        rw [h3]
        dsimp only
        simp only [X9_tree_58, X9_tree_59, X9_tree_60, X9_tree_63, X9_tree_64, X9_tree_67, X9_tree_68, X9_tree_71, X9_tree_74, X9_tree_75, X9_tree_78, X9_tree_79, X9_tree_81 (ev9_noV (v := -6) (r := 6) (by decide) rfl) mH_obj, X9_tree_84, iOb_some, iClr_i, iClr_r, iClr_n, iClr_u, iClr_l, rf_s, rf_n, iB_0, iSum_nil, if_true, mg16, h2, mp14]
        exact m9_rf ((hR.ex x2).fa (v := nI u)) (by decide)
      rcases y2 with ⟨rfl, a', V, z1, z2, z3, z4, z5, z6⟩ | ⟨rfl, u, z1, z2, z3⟩
      · rw [rd_root z2] at z6
        have z6 : rdM (fun j => (z.2.2 j).toInt32) z.2.1 (z.2.1 - 0) 0 0 0 (0, s.2.1 19, s.2.1 20, s.2.1 21) = if a' = z.2.1 then (none, V) else (some a', V) := z6
        by_cases cA : a' = z.2.1
        · rw [if_pos cA] at z6
          rw [z6] at g1 g2
          have t1 : (rdT z).1 = none := g1.symm
          have t2 : tEq V (rdT z).2 := g2
          rw [t1]
          dsimp only
          have hRf := (hR.ex x2).fa (v := -1)
          simp only [X9_tree_0, X9_tree_1, X9_tree_2 en mH_obj, X9_tree_5, X9_tree_6, X9_tree_7, X9_tree_10, X9_tree_11, X9_tree_15, X9_tree_16, X9_tree_17, X9_tree_18, X9_tree_21, X9_tree_22, X9_tree_23, X9_tree_26, X9_tree_27, X9_tree_28, X9_tree_31, X9_tree_32, X9_tree_33 ev mH_obj rk, X9_tree_36, X9_tree_39, X9_tree_40, X9_tree_43, X9_tree_44, X9_tree_47, X9_tree_48, X9_tree_49, X9_tree_52, X9_tree_53, X9_tree_56, X9_tree_57, X9_tree_58, X9_tree_59, X9_tree_60, X9_tree_63, X9_tree_64, X9_tree_67, X9_tree_68, X9_tree_71, iOb_some, iClr_i, iClr_r, iClr_n, iClr_u, iClr_l, rf_s, rf_n, iB_0, iSum_nil, if_pos (show (0 : Int32) ≤ 0 by decide), mp15, mp16, mp18, if_neg n10, mg16, mg12, z1, ml12 hi, hS2.2.1, if_pos (congrArg nI cA), mp14]
          by_cases c16 : W.1.1 = 16
          · rw [if_pos c16]
            have e0 : (mSet s2 14 (-1)).1 0 = 16 := by
              rw [show (mSet s2 14 (-1)).1 0 = nI W.1.1 from hRf.1.1, c16]
              rfl
            simp only [X9_tree_74, X9_tree_75, X9_tree_78, X9_tree_79, X9_tree_84, X9_tree_85, X9_tree_86, X9_tree_89, X9_tree_91, X9_tree_94, X9_tree_95, X9_tree_97 (ev9_noV (v := -7) (r := 7) (by decide) rfl) mH_obj, X9_tree_100, iOb_some, iClr_i, iClr_r, iClr_n, iClr_u, iClr_l, rf_s, rf_n, iB_0, iSum_nil, if_neg n10, mg0, e0, if_true]
            exact m9_rf hRf (by decide)
          · rw [if_neg c16]
            have ht := hW.1.1
            have e0 : (mSet s2 14 (-1)).1 0 = nI W.1.1 := hRf.1.1
            have ne : ¬ nI W.1.1 = 16 := fun w => by
              have q1 := (nI_leI (a := 16) (b := W.1.1) (by decide) (by omega)).mp (show (16 : Int32) ≤ nI W.1.1 by rw [w]; exact Int32.le_refl _)
              omega
            have ht16 : W.1.1 < 16 := by omega
            obtain ⟨s3, l1, l2, l3, l4, l5⟩ := ev9_laysR (b := b) (x := x) hRf (wFa_ok hW) (Nat.le_refl W.1.1) ht16 ⟨z3.1, z3.2.1, z3.2.2.1, z3.2.2.2⟩ (show V.1 ≤ 60 by omega) t2
            have e3 : s3.1 0 = nI W.1.1 := by
              rw [l3]
              exact e0
            simp only [X9_tree_74, X9_tree_75, X9_tree_78, X9_tree_79, X9_tree_84, X9_tree_85, X9_tree_86, X9_tree_89, X9_tree_91, X9_tree_94, X9_tree_95, X9_tree_100, X9_tree_101, X9_tree_102, X9_tree_103, X9_tree_106 l1 mH_obj, X9_tree_109, X9_tree_110, X9_tree_111, X9_tree_114, X9_tree_115, X9_tree_116, X9_tree_117, X9_tree_120, iOb_some, iClr_i, iClr_r, iClr_n, iClr_u, iClr_l, rf_s, rf_n, iB_0, iSum_nil, if_neg n10, mg0, e0, if_neg ne, e3, nI_1, mp0]
            refine ⟨rfl, _, rfl, mRel.ad (W := wFa W (-1)) l2 ?_ (l5 rfl)⟩
            rw [← t2.1]
            exact l4
        · rw [if_neg cA] at z6
          rw [z6] at g1
          have nA : ¬ nI a' = nI z.2.1 := fun w => cA (by
            have q1 := (nI_leI (a := a') (b := z.2.1) (by omega) (by omega)).mp (by rw [w]; exact Int32.le_refl _)
            have q2 := (nI_leI (a := z.2.1) (b := a') (by omega) (by omega)).mp (by rw [w]; exact Int32.le_refl _)
            omega)
          simp only [X9_tree_0, X9_tree_1, X9_tree_2 en mH_obj, X9_tree_5, X9_tree_6, X9_tree_7, X9_tree_10, X9_tree_11, X9_tree_15, X9_tree_16, X9_tree_17, X9_tree_18, X9_tree_21, X9_tree_22, X9_tree_23, X9_tree_26, X9_tree_27, X9_tree_28, X9_tree_31, X9_tree_32, X9_tree_33 ev mH_obj rk, X9_tree_36, X9_tree_39, X9_tree_40, X9_tree_43, X9_tree_44, X9_tree_47, X9_tree_48, X9_tree_49, X9_tree_52, X9_tree_53, X9_tree_56, X9_tree_57, iOb_some, iClr_i, iClr_r, iClr_n, iClr_u, iClr_l, rf_s, rf_n, iB_0, iSum_nil, if_pos (show (0 : Int32) ≤ 0 by decide), mp15, mp16, mp18, if_neg n10, mg16, mg12, z1, ml12 hi, hS2.2.1, if_neg nA]
          exact bad a' z2 z1 g1.symm
      · have z3 : (rdM (fun j => (z.2.2 j).toInt32) z.2.1 (z.2.1 - 0) 0 0 0 (0, s.2.1 19, s.2.1 20, s.2.1 21)).1 = some u := congrArg Prod.fst z3
        simp only [X9_tree_0, X9_tree_1, X9_tree_2 en mH_obj, X9_tree_5, X9_tree_6, X9_tree_7, X9_tree_10, X9_tree_11, X9_tree_15, X9_tree_16, X9_tree_17, X9_tree_18, X9_tree_21, X9_tree_22, X9_tree_23, X9_tree_26, X9_tree_27, X9_tree_28, X9_tree_31, X9_tree_32, X9_tree_33 ev mH_obj rk, X9_tree_36, X9_tree_39, X9_tree_40, X9_tree_43, X9_tree_44, X9_tree_47, X9_tree_48, X9_tree_49, X9_tree_52, X9_tree_53, X9_tree_56, X9_tree_57, iOb_some, iClr_i, iClr_r, iClr_n, iClr_u, iClr_l, rf_s, rf_n, iB_0, iSum_nil, if_pos (show (0 : Int32) ≤ 0 by decide), mp15, mp16, mp18, if_true]
        exact bad u z2 z1 (g1.symm.trans z3)
end TREE9

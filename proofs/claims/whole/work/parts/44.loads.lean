/-! the reference: a tree comes to the working tree, and back -/
def lS (s : mS) (c f2 f3 f4 : Nat → Int32) : mS := (s.1, (fun k => match k with
  | 1 => c
  | 2 => f2
  | 3 => f3
  | 4 => f4
  | k => s.2.1 k), s.2.2)
section LOADS
variable {b : iHp} {x n m u : Nat} {s : mS} {K B D C E F c f2 f3 f4 : Nat → Int32} {j : Nat} {v : Int32}
theorem lS_self : lS s (s.2.1 1) (s.2.1 2) (s.2.1 3) (s.2.1 4) = s := by
  refine wS_ext rfl (fun k => ?_) rfl
  unfold lS
  dsimp only
  split <;> rfl
theorem lS_off {k : Nat} (h : k = 0 ∨ 4 < k) : (lS s c f2 f3 f4).2.1 k = s.2.1 k := by
  unfold lS
  dsimp only
  split <;> first | omega | rfl
theorem lS_1 : (wS (lS s c f2 f3 f4) n K B D C E F).2.1 1 = c := rfl
theorem lS_2 : (wS (lS s c f2 f3 f4) n K B D C E F).2.1 2 = f2 := rfl
theorem lS_3 : (wS (lS s c f2 f3 f4) n K B D C E F).2.1 3 = f3 := rfl
theorem lS_4 : (wS (lS s c f2 f3 f4) n K B D C E F).2.1 4 = f4 := rfl
theorem l_put {c' f2' f3' f4' : Nat → Int32} {k : Nat} (hk : k < 19) (h1 : (lS s c' f2' f3' f4').2.1 k = upd ((lS s c f2 f3 f4).2.1 k) j v) (h2 : ∀ q, q ≠ k → (lS s c' f2' f3' f4').2.1 q = (lS s c f2 f3 f4).2.1 q) : mPut (wS (lS s c f2 f3 f4) n K B D C E F) k j v = wS (lS s c' f2' f3' f4') n K B D C E F := by
  refine wS_ext rfl (fun q => ?_) rfl
  show va_up _ k _ q = _
  unfold va_up
  by_cases h : q = k
  · subst h
    rw [if_pos rfl, wS_off (Or.inl hk), wS_off (Or.inl hk), h1]
  · rw [if_neg h]
    by_cases hq : q < 19 ∨ 24 < q
    · rw [wS_off hq, wS_off hq, h2 q h]
    · have : q = 19 ∨ q = 20 ∨ q = 21 ∨ q = 22 ∨ q = 23 ∨ q = 24 := by omega
      rcases this with rfl | rfl | rfl | rfl | rfl | rfl <;> rfl
theorem l1 : mPut (wS (lS s c f2 f3 f4) n K B D C E F) 1 j v = wS (lS s (upd c j v) f2 f3 f4) n K B D C E F := l_put (by decide) rfl (fun q hq => by
  unfold lS
  dsimp only
  split <;> first | (exfalso; exact hq rfl) | rfl)
theorem l2 : mPut (wS (lS s c f2 f3 f4) n K B D C E F) 2 j v = wS (lS s c (upd f2 j v) f3 f4) n K B D C E F := l_put (by decide) rfl (fun q hq => by
  unfold lS
  dsimp only
  split <;> first | (exfalso; exact hq rfl) | rfl)
theorem l3 : mPut (wS (lS s c f2 f3 f4) n K B D C E F) 3 j v = wS (lS s c f2 (upd f3 j v) f4) n K B D C E F := l_put (by decide) rfl (fun q hq => by
  unfold lS
  dsimp only
  split <;> first | (exfalso; exact hq rfl) | rfl)
theorem l4 : mPut (wS (lS s c f2 f3 f4) n K B D C E F) 4 j v = wS (lS s c f2 f3 (upd f4 j v)) n K B D C E F := l_put (by decide) rfl (fun q hq => by
  unfold lS
  dsimp only
  split <;> first | (exfalso; exact hq rfl) | rfl)
theorem i64 (u j : Nat) : 64 * nI u + nI j = nI (64 * u + j) := by
  rw [show (64 : Int32) = nI 64 from rfl, pk_mul, nI_add]
theorem loads_loop (hu : u < 16) (hm : m ≤ 64) (Q : Option Value → iHp → Prop) : ∀ k i, i + k = m → iWp 1 mX9_loads 12 [.ref x, .int (nI u), .int (nI i)] [] (mH b x (wS s m (tCp K (s.2.1 2) (64 * u) i) (tCp B (s.2.1 3) (64 * u) i) (tCp D (s.2.1 4) (64 * u) i) C E F)) Q = Q none (mH b x (wS s m (tCp K (s.2.1 2) (64 * u) m) (tCp B (s.2.1 3) (64 * u) m) (tCp D (s.2.1 4) (64 * u) m) C E F)) := by
  intro k
  induction k with
  | zero =>
    intro i hi
    have e : i = m := by omega
    subst e
    rw [X9_loads_12]
    simp only [X9_loads_0, X9_loads_1, X9_loads_2, X9_loads_5, X9_loads_6, X9_loads_7, X9_loads_10, X9_loads_11, X9_loads_13, X9_loads_14, X9_loads_17, X9_loads_20, X9_loads_21, X9_loads_24, X9_loads_25, X9_loads_26, X9_loads_29, X9_loads_31, X9_loads_32, X9_loads_33, X9_loads_34, X9_loads_35, X9_loads_36, X9_loads_37, X9_loads_38, X9_loads_41, X9_loads_42, X9_loads_43, X9_loads_46, X9_loads_48, X9_loads_49, X9_loads_50, X9_loads_51, X9_loads_52, X9_loads_53, X9_loads_54, X9_loads_55, X9_loads_58, X9_loads_59, X9_loads_60, X9_loads_63, X9_loads_65, X9_loads_66, X9_loads_67, X9_loads_68, X9_loads_69, X9_loads_70, X9_loads_71, X9_loads_74, X9_loads_77, iOb_some, iClr_i, iClr_r, iClr_n, iClr_u, iClr_l, rf_s, rf_n, iB_0, iSum_nil, mg18, wS_n, if_pos (nI_le (Nat.le_refl i) (by omega))]
  | succ k ih =>
    intro i hi
    rw [X9_loads_12]
    simp only [X9_loads_0, X9_loads_1, X9_loads_2, X9_loads_5, X9_loads_6, X9_loads_7, X9_loads_10, X9_loads_11, X9_loads_13, X9_loads_14, X9_loads_17, X9_loads_20, X9_loads_21, X9_loads_24, X9_loads_25, X9_loads_26, X9_loads_29, X9_loads_31, X9_loads_32, X9_loads_33, X9_loads_34, X9_loads_35, X9_loads_36, X9_loads_37, X9_loads_38, X9_loads_41, X9_loads_42, X9_loads_43, X9_loads_46, X9_loads_48, X9_loads_49, X9_loads_50, X9_loads_51, X9_loads_52, X9_loads_53, X9_loads_54, X9_loads_55, X9_loads_58, X9_loads_59, X9_loads_60, X9_loads_63, X9_loads_65, X9_loads_66, X9_loads_67, X9_loads_68, X9_loads_69, X9_loads_70, X9_loads_71, X9_loads_74, X9_loads_77, iOb_some, iClr_i, iClr_r, iClr_n, iClr_u, iClr_l, rf_s, rf_n, iB_0, iSum_nil, mg18, wS_n, if_neg (nI_ge (show i < m by omega) (by omega)), mg19, mg20, mg21, mg2, mg3, mg4, i64, ml2 (show 64 * u + i < 1024 by omega), ml3 (show 64 * u + i < 1024 by omega), ml4 (show 64 * u + i < 1024 by omega), ms19 (show i < 66 by omega), ms20 (show i < 66 by omega), ms21 (show i < 66 by omega), w19, w20, w21, wS_off (show 2 < 19 ∨ 24 < 2 by decide), wS_off (show 3 < 19 ∨ 24 < 3 by decide), wS_off (show 4 < 19 ∨ 24 < 4 by decide), nI_1, tCp_s]
    exact ih (i + 1) (by omega)
theorem wS_n18 : mSet (wS s n K B D C E F) 18 (nI m) = wS s m K B D C E F := wS_set
theorem ev9_loads (hu : u < 16) (hm : m ≤ 64) (hz : s.2.1 1 u = nI m) : iEv mX9_loads [.ref x, .int (nI u)] (mH b x (wS s n K B D C E F)) none (mH b x (wS s m (tCp K (s.2.1 2) (64 * u) m) (tCp B (s.2.1 3) (64 * u) m) (tCp D (s.2.1 4) (64 * u) m) C E F)) := by
  refine J9_loads ?_
  simp only [X9_loads_0, X9_loads_1, X9_loads_2, X9_loads_5, X9_loads_6, X9_loads_7, X9_loads_10, X9_loads_11, X9_loads_13, X9_loads_14, X9_loads_17, X9_loads_20, X9_loads_21, X9_loads_24, X9_loads_25, X9_loads_26, X9_loads_29, X9_loads_31, X9_loads_32, X9_loads_33, X9_loads_34, X9_loads_35, X9_loads_36, X9_loads_37, X9_loads_38, X9_loads_41, X9_loads_42, X9_loads_43, X9_loads_46, X9_loads_48, X9_loads_49, X9_loads_50, X9_loads_51, X9_loads_52, X9_loads_53, X9_loads_54, X9_loads_55, X9_loads_58, X9_loads_59, X9_loads_60, X9_loads_63, X9_loads_65, X9_loads_66, X9_loads_67, X9_loads_68, X9_loads_69, X9_loads_70, X9_loads_71, X9_loads_74, X9_loads_77, iOb_some, iClr_i, iClr_r, iClr_n, iClr_u, iClr_l, rf_s, rf_n, iB_0, iSum_nil, mg1, ml1 (show u < 16 from hu), wS_off (show 1 < 19 ∨ 24 < 1 by decide), hz, mp18, wS_set]
  have := loads_loop (b := b) (x := x) (s := s) (K := K) (B := B) (D := D) (C := C) (E := E) (F := F) hu hm (fun r' h' => r' = none ∧ h' = mH b x (wS s m (tCp K (s.2.1 2) (64 * u) m) (tCp B (s.2.1 3) (64 * u) m) (tCp D (s.2.1 4) (64 * u) m) C E F)) m 0 (by omega)
  rw [tCp_0, tCp_0, tCp_0] at this
  exact this.mpr ⟨rfl, rfl⟩
theorem lays_loop (hu : u < 16) (hm : n ≤ 64) (Q : Option Value → iHp → Prop) : ∀ k i, i + k = n → iWp 1 mX9_lays 12 [.ref x, .int (nI u), .int (nI i)] [] (mH b x (wS (lS s c (tPt f2 K (64 * u) i) (tPt f3 B (64 * u) i) (tPt f4 D (64 * u) i)) n K B D C E F)) Q = Q none (mH b x (wS (lS s c (tPt f2 K (64 * u) n) (tPt f3 B (64 * u) n) (tPt f4 D (64 * u) n)) n K B D C E F)) := by
  intro k
  induction k with
  | zero =>
    intro i hi
    have e : i = n := by omega
    subst e
    rw [X9_lays_12]
    simp only [X9_lays_0, X9_lays_1, X9_lays_4, X9_lays_5, X9_lays_6, X9_lays_9, X9_lays_10, X9_lays_11, X9_lays_13, X9_lays_14, X9_lays_17, X9_lays_20, X9_lays_21, X9_lays_24, X9_lays_26, X9_lays_27, X9_lays_28, X9_lays_29, X9_lays_30, X9_lays_31, X9_lays_34, X9_lays_35, X9_lays_36, X9_lays_37, X9_lays_38, X9_lays_41, X9_lays_43, X9_lays_44, X9_lays_45, X9_lays_46, X9_lays_47, X9_lays_48, X9_lays_51, X9_lays_52, X9_lays_53, X9_lays_54, X9_lays_55, X9_lays_58, X9_lays_60, X9_lays_61, X9_lays_62, X9_lays_63, X9_lays_64, X9_lays_65, X9_lays_68, X9_lays_69, X9_lays_70, X9_lays_71, X9_lays_74, X9_lays_77, iOb_some, iClr_i, iClr_r, iClr_n, iClr_u, iClr_l, rf_s, rf_n, iB_0, iSum_nil, mg18, wS_n, if_pos (nI_le (Nat.le_refl i) (by omega))]
  | succ k ih =>
    intro i hi
    rw [X9_lays_12]
    simp only [X9_lays_0, X9_lays_1, X9_lays_4, X9_lays_5, X9_lays_6, X9_lays_9, X9_lays_10, X9_lays_11, X9_lays_13, X9_lays_14, X9_lays_17, X9_lays_20, X9_lays_21, X9_lays_24, X9_lays_26, X9_lays_27, X9_lays_28, X9_lays_29, X9_lays_30, X9_lays_31, X9_lays_34, X9_lays_35, X9_lays_36, X9_lays_37, X9_lays_38, X9_lays_41, X9_lays_43, X9_lays_44, X9_lays_45, X9_lays_46, X9_lays_47, X9_lays_48, X9_lays_51, X9_lays_52, X9_lays_53, X9_lays_54, X9_lays_55, X9_lays_58, X9_lays_60, X9_lays_61, X9_lays_62, X9_lays_63, X9_lays_64, X9_lays_65, X9_lays_68, X9_lays_69, X9_lays_70, X9_lays_71, X9_lays_74, X9_lays_77, iOb_some, iClr_i, iClr_r, iClr_n, iClr_u, iClr_l, rf_s, rf_n, iB_0, iSum_nil, mg18, wS_n, if_neg (nI_ge (show i < n by omega) (by omega)), mg19, mg20, mg21, mg2, mg3, mg4, i64, ml19 (show i < 66 by omega), ml20 (show i < 66 by omega), ml21 (show i < 66 by omega), ms2 (show 64 * u + i < 1024 by omega), ms3 (show 64 * u + i < 1024 by omega), ms4 (show 64 * u + i < 1024 by omega), wr19, wr20, wr21, l2, l3, l4, nI_1, tPt_s]
    exact ih (i + 1) (by omega)
theorem ev9_lays (hu : u < 16) (hm : n ≤ 64) : iEv mX9_lays [.ref x, .int (nI u)] (mH b x (wS s n K B D C E F)) none (mH b x (wS (lS s (upd (s.2.1 1) u (nI n)) (tPt (s.2.1 2) K (64 * u) n) (tPt (s.2.1 3) B (64 * u) n) (tPt (s.2.1 4) D (64 * u) n)) n K B D C E F)) := by
  refine J9_lays ?_
  have hs : wS s n K B D C E F = wS (lS s (s.2.1 1) (s.2.1 2) (s.2.1 3) (s.2.1 4)) n K B D C E F := by rw [lS_self]
  rw [hs]
  simp only [X9_lays_0, X9_lays_1, X9_lays_4, X9_lays_5, X9_lays_6, X9_lays_9, X9_lays_10, X9_lays_11, X9_lays_13, X9_lays_14, X9_lays_17, X9_lays_20, X9_lays_21, X9_lays_24, X9_lays_26, X9_lays_27, X9_lays_28, X9_lays_29, X9_lays_30, X9_lays_31, X9_lays_34, X9_lays_35, X9_lays_36, X9_lays_37, X9_lays_38, X9_lays_41, X9_lays_43, X9_lays_44, X9_lays_45, X9_lays_46, X9_lays_47, X9_lays_48, X9_lays_51, X9_lays_52, X9_lays_53, X9_lays_54, X9_lays_55, X9_lays_58, X9_lays_60, X9_lays_61, X9_lays_62, X9_lays_63, X9_lays_64, X9_lays_65, X9_lays_68, X9_lays_69, X9_lays_70, X9_lays_71, X9_lays_74, X9_lays_77, iOb_some, iClr_i, iClr_r, iClr_n, iClr_u, iClr_l, rf_s, rf_n, iB_0, iSum_nil, mg1, mg18, wS_n, ms1 (show u < 16 from hu), l1]
  have := lays_loop (b := b) (x := x) (s := s) (c := upd (s.2.1 1) u (nI n)) (f2 := s.2.1 2) (f3 := s.2.1 3) (f4 := s.2.1 4) (K := K) (B := B) (D := D) (C := C) (E := E) (F := F) hu hm (fun r' h' => r' = none ∧ h' = mH b x (wS (lS s (upd (s.2.1 1) u (nI n)) (tPt (s.2.1 2) K (64 * u) n) (tPt (s.2.1 3) B (64 * u) n) (tPt (s.2.1 4) D (64 * u) n)) n K B D C E F)) n 0 (by omega)
  rw [tPt_0, tPt_0, tPt_0] at this
  exact this.mpr ⟨rfl, rfl⟩
end LOADS

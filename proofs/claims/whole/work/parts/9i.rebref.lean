/-! rebase: the reference's loop -/
section REBREF
variable {h : iHp} {i j k l x m a c p q r t n : Nat} {W : wW} {G H : Nat → Nat → Int32} {e f : Nat → Int32} {b : iHp} {s s0 s1 s2 s' : mS} {Z : pP} {U V T : tT} {K B D C : Nat → Int32} {d : Nat → Nat} {S : rbX}
abbrev LRB : List Nat := [18, 19, 20, 21, 22, 23, 24, 25, 26, 27, 28]
theorem i2 (u : Nat) : 2 * nI u = nI (2 * u) := by rw [show (2 : Int32) = nI 2 from rfl, pk_mul]
theorem rbS_m (h : fateT e S.1 = -1) : rbS e i S = S := by
  unfold rbS
  rw [if_neg (by rw [h]; decide), if_pos h]
theorem rbS_c (h : fateT e S.1 ≠ 0) (h' : fateT e S.1 ≠ -1) : rbS e i S = (S.1, S.2.1, S.2.2.1, S.2.2.2.1 + 1, upd (upd S.2.2.2.2 (2 * S.2.2.2.1) (nI i)) (2 * S.2.2.2.1 + 1) (fateT e S.1)) := by
  unfold rbS
  rw [if_neg h, if_neg h']
/-- what holds of the abstract run -/
def rbO (S : rbX) (i : Nat) : Prop := tOk S.1 ∧ S.2.1 ≤ i ∧ S.2.2.2.1 ≤ i
theorem rbO_step (hO : rbO S i) (he : eOk e) : rbO (rbS e i S) (i + 1) := by
  obtain ⟨h1, h2, h3⟩ := hO
  by_cases c : fateT e S.1 = 0
  · rw [rbS_0 c]
    obtain ⟨g1, g2⟩ := oFit_ok h1 he c
    exact ⟨perf_ok h1 g1 g2, Nat.succ_le_succ h2, Nat.le_succ_of_le h3⟩
  · by_cases c2 : fateT e S.1 = -1
    · rw [rbS_m c2]
      exact ⟨h1, Nat.le_succ_of_le h2, Nat.le_succ_of_le h3⟩
    · rw [rbS_c c c2]
      exact ⟨h1, Nat.le_succ_of_le h2, Nat.succ_le_succ h3⟩
theorem rbO_run (he : ∀ i, i < n → eOk (G i)) : ∀ k i S, i + k = n → rbO S i → rbO (rbT G k i S) n := by
  intro k
  induction k with
  | zero =>
    intro i S hi hO
    obtain rfl : i = n := by omega
    exact hO
  | succ k ih =>
    intro i S hi hO
    exact ih (i + 1) _ (by omega) (rbO_step hO (he i (by omega)))
/-- the reference's fields during the run -/
def rbI (s0 s1 : mS) (S : rbX) : Prop := sEx LRB s0 s1 ∧ (∃ U, wIs s1 U ∧ tEq U S.1) ∧ mMd s1 S.2.1 S.2.2.1 ∧ s1.1 27 = nI S.2.2.2.1 ∧ ∀ j, j < 2 * S.2.2.2.1 → s1.2.1 28 j = S.2.2.2.2 j
def rbQ (b : iHp) (x : Nat) (s0 : mS) (q : Int32 → iHp → Prop) (S : rbX) : Prop := ∀ s1, rbI s0 s1 S → q 0 (mH b x s1)
theorem rebase9_loop (hp : p < 16) (hZ : mPt (s0.2.1 7) (s0.2.1 8) (s0.2.1 9) p Z) (h12 : Z.1 ≤ 120) (he : ∀ i, i < Z.1 → eOk (Z.2.2.2.2.2.1 i)) {y : Int32} {Q : Option Value → iHp → Prop} : ∀ k i s1 S w, i + k = Z.1 → rbO S i → rbI s0 s1 S → (∀ s2 w, rbI s0 s2 (rbT Z.2.2.2.2.2.1 k i S) → iWp 9 mX9_rebase 116 [.ref x, .int (nI p), .int y, .int (nI Z.1), w] [] (mH b x s2) Q) → iWp 9 mX9_rebase 39 [.ref x, .int (nI p), .int y, .int (nI i), w] [] (mH b x s1) Q := by
  intro k
  induction k with
  | zero =>
    intro i s1 S w hi hO hI hQ
    obtain rfl : i = Z.1 := by omega
    have eo := ev9_of0 (b := b) (x := x) (s := s1) hp
    rw [(congrFun (hI.1.2.1 7 (by decide)) p).trans hZ.1] at eo
    rw [X9_rebase_39]
    simp only [X9_rebase_40, X9_rebase_41, X9_rebase_42, X9_rebase_43 eo mH_obj, X9_rebase_46, iOb_some, iClr_i, iClr_r, iClr_n, iClr_u, iClr_l, rf_s, rf_n, iB_0, iSum_nil, if_pos (Int32.le_refl (nI Z.1))]
    exact hQ s1 w hI
  | succ k ih =>
    intro i s1 S w hi hO hI hQ
    have eo := ev9_of0 (b := b) (x := x) (s := s1) hp
    rw [(congrFun (hI.1.2.1 7 (by decide)) p).trans hZ.1] at eo
    obtain ⟨x1, ⟨U, w1, w2⟩, x3, x4, x5⟩ := hI
    have hUk := w2.symm.ok hO.1
    have hin := inAt_edits (b := b) (x := x) (s := s1) (i := i) hp (hZ.ex x1 (by decide) (by decide) (by decide)) (by omega) h12
    have hei := he i (by omega)
    obtain ⟨r, h1, ev, hr, s2, U2, e1, e2, e3, e4⟩ := ev9_keeps w1 hUk x3 (by have := hO.2.1; omega) hin hei
    subst hr
    subst e1
    have hfc := fate_congr (e := Z.2.2.2.2.2.1 i) w2 hUk
    have hoc := oFit_congr (e := Z.2.2.2.2.2.1 i) w2 hUk
    rw [X9_rebase_39]
    rw [hfc] at ev e4
    have hnx := hO
    rcases e4 with ⟨f0, f1, f2⟩ | ⟨f0, f1, f2⟩
    · rw [f0, show rbW 0 = 0 from rfl] at ev
      simp only [X9_rebase_40, X9_rebase_41, X9_rebase_42, X9_rebase_43 eo mH_obj, X9_rebase_46, X9_rebase_49, X9_rebase_50, X9_rebase_53, X9_rebase_54, X9_rebase_55, X9_rebase_57, X9_rebase_58, X9_rebase_59, X9_rebase_60 ev mH_obj, X9_rebase_63, X9_rebase_65, X9_rebase_67, X9_rebase_70, iOb_some, iClr_i, iClr_r, iClr_n, iClr_u, iClr_l, rf_s, rf_n, iB_0, iSum_nil, if_neg (nI_ge (show i < Z.1 by omega) (show Z.1 < 2 ^ 31 by omega)), i7, i840, if_true]
      simp only [X9_rebase_110, X9_rebase_113, iOb_some, iClr_i, iClr_r, iClr_n, iClr_u, iClr_l, rf_s, rf_n, iB_0, iSum_nil, nI_1]
      refine ih (i + 1) s2 (rbS (Z.2.2.2.2.2.1 i) i S) (.int 0) (by omega) (rbO_step hO hei) ?_ hQ
      rw [rbS_0 f0]
      obtain ⟨-, g2⟩ := oFit_ok hUk hei (hfc.trans f0)
      rw [hoc] at f1 f2 g2
      exact ⟨x1.trans (e3.mono (by decide)), ⟨U2, e2, f1.trans (perf_congr w2 hUk g2)⟩, f2, (e3.1 27 (by decide)).trans x4, fun j hj => (congrFun (e3.2.1 28 (by decide)) j).trans (x5 j hj)⟩
    · subst f2
      subst f1
      by_cases c2 : fateT (Z.2.2.2.2.2.1 i) S.1 = -1
      · rw [c2, show rbW (-1) = 0 from rfl] at ev
        simp only [X9_rebase_40, X9_rebase_41, X9_rebase_42, X9_rebase_43 eo mH_obj, X9_rebase_46, X9_rebase_49, X9_rebase_50, X9_rebase_53, X9_rebase_54, X9_rebase_55, X9_rebase_57, X9_rebase_58, X9_rebase_59, X9_rebase_60 ev mH_obj, X9_rebase_63, X9_rebase_65, X9_rebase_67, X9_rebase_70, iOb_some, iClr_i, iClr_r, iClr_n, iClr_u, iClr_l, rf_s, rf_n, iB_0, iSum_nil, if_neg (nI_ge (show i < Z.1 by omega) (show Z.1 < 2 ^ 31 by omega)), i7, i840, if_true]
        simp only [X9_rebase_110, X9_rebase_113, iOb_some, iClr_i, iClr_r, iClr_n, iClr_u, iClr_l, rf_s, rf_n, iB_0, iSum_nil, nI_1]
        refine ih (i + 1) s2 (rbS (Z.2.2.2.2.2.1 i) i S) (.int 0) (by omega) (rbO_step hO hei) ?_ hQ
        rw [rbS_m c2]
        exact ⟨x1, ⟨_, w1, w2⟩, x3, x4, x5⟩
      · rw [show rbW (fateT (Z.2.2.2.2.2.1 i) S.1) = fateT (Z.2.2.2.2.2.1 i) S.1 from if_neg c2] at ev
        have hc : 2 * S.2.2.2.1 + 1 < 240 := by have := hO.2.2; omega
        simp only [X9_rebase_40, X9_rebase_41, X9_rebase_42, X9_rebase_43 eo mH_obj, X9_rebase_46, X9_rebase_49, X9_rebase_50, X9_rebase_53, X9_rebase_54, X9_rebase_55, X9_rebase_57, X9_rebase_58, X9_rebase_59, X9_rebase_60 ev mH_obj, X9_rebase_63, X9_rebase_65, X9_rebase_67, iOb_some, iClr_i, iClr_r, iClr_n, iClr_u, iClr_l, rf_s, rf_n, iB_0, iSum_nil, if_neg (nI_ge (show i < Z.1 by omega) (show Z.1 < 2 ^ 31 by omega)), i7, i840, if_neg f0]
        simp only [X9_rebase_73, X9_rebase_74, X9_rebase_77, X9_rebase_78, X9_rebase_79, X9_rebase_82, X9_rebase_83, X9_rebase_84, X9_rebase_85, X9_rebase_86, X9_rebase_89, X9_rebase_90, X9_rebase_91, X9_rebase_94, X9_rebase_95, X9_rebase_96, X9_rebase_97, X9_rebase_99, X9_rebase_100, X9_rebase_101, X9_rebase_102, X9_rebase_105, X9_rebase_106, X9_rebase_107, X9_rebase_110, X9_rebase_113, iOb_some, iClr_i, iClr_r, iClr_n, iClr_u, iClr_l, rf_s, rf_n, iB_0, iSum_nil, mg28, mg27, x4, i2, nI_1, ms28 (show 2 * S.2.2.2.1 < 240 by omega), ms28 hc, mp27, mPut_nm]
        refine ih (i + 1) _ (rbS (Z.2.2.2.2.2.1 i) i S) (.int (fateT (Z.2.2.2.2.2.1 i) S.1)) (by omega) (rbO_step hO hei) ?_ hQ
        rw [rbS_c f0 c2]
        refine ⟨x1.trans (((mPut_ex (by decide)).trans (mPut_ex (by decide))).trans (mSet_ex (by decide))), ⟨_, ⟨w1.1, w1.2.1, w1.2.2.1, w1.2.2.2⟩, w2⟩, ⟨x3.1, x3.2⟩, rfl, fun j hj => ?_⟩
        show (mPut (mPut s2 28 (2 * S.2.2.2.1) (nI i)) 28 (2 * S.2.2.2.1 + 1) (fateT (Z.2.2.2.2.2.1 i) S.1)).2.1 28 j = upd (upd S.2.2.2.2 (2 * S.2.2.2.1) (nI i)) (2 * S.2.2.2.1 + 1) (fateT (Z.2.2.2.2.2.1 i) S.1) j
        rw [mPut_at, if_pos rfl]
        unfold upd
        have hj : j < 2 * (S.2.2.2.1 + 1) := hj
        by_cases cj : j = 2 * S.2.2.2.1 + 1
        · rw [if_pos cj, if_pos cj]
        · rw [if_neg cj, if_neg cj, mPut_at, if_pos rfl]
          by_cases ck : j = 2 * S.2.2.2.1
          · rw [if_pos ck, if_pos ck]
          · rw [if_neg ck, if_neg ck]
            exact x5 j (by omega)
abbrev rbZ (Z : pP) (T : tT) : rbX := rbT Z.2.2.2.2.2.1 Z.1 0 (T, 0, fun _ _ => 0, 0, fun _ => 0)
def aRebase (W : wW) (q t : Int32) : Int32 × wW := match iIx q W.1.2.2.1, iIx t W.1.1 with
  | some i, some j => aNew W (rbZ (W.1.2.2.2.1 i) (W.1.2.1 j)).2.1 (rbZ (W.1.2.2.2.1 i) (W.1.2.1 j)).2.2.2.1 3 q (rbZ (W.1.2.2.2.1 i) (W.1.2.1 j)).2.2.1 (rbZ (W.1.2.2.2.1 i) (W.1.2.1 j)).2.2.2.2
  | _, _ => (-1, wRef W 1)
theorem m9_rebase (hR : mRel s W) (hW : wOk W) (v u : Int32) : ∃ r h1, iEv mX9_rebase [.ref x, .int v, .int u] (mH b x s) r h1 ∧ m9P b x (aRebase W v u) r h1 := by
  refine I9_rebase ?_
  unfold aRebase
  have hn : W.1.2.2.1 < 2 ^ 31 := by have := hW.1.2.1; omega
  have hm : W.1.1 < 2 ^ 31 := by have := hW.1.1; omega
  have et := ev9_isPatch (b := b) (x := x) hR.1 hW.1.2.1 (t := v)
  have eu := ev9_isTree (b := b) (x := x) hR.1 hW.1.1 (t := u)
  rcases iIx_cases v hn with ⟨e, z⟩ | ⟨i, hi, rfl, e⟩
  · rw [e] at et ⊢
    simp only [X9_rebase_0, X9_rebase_1, X9_rebase_2 et mH_obj, X9_rebase_5, X9_rebase_8, X9_rebase_9, X9_rebase_13, X9_rebase_16, X9_rebase_17, X9_rebase_18 (ev9_noV (v := -1) (r := 1) (by decide) rfl) mH_obj, X9_rebase_21, iOb_some, iClr_i, iClr_r, iClr_n, iClr_u, iClr_l, rf_s, rf_n, iB_0, iSum_nil, Option.isSome_none, if_true]
    exact m9_rf hR (by decide)
  · rw [e] at et ⊢
    rcases iIx_cases u hm with ⟨f, y⟩ | ⟨j, hj, rfl, f⟩
    · rw [f] at eu ⊢
      simp only [X9_rebase_0, X9_rebase_1, X9_rebase_2 et mH_obj, X9_rebase_5, X9_rebase_8, X9_rebase_9, X9_rebase_10 eu mH_obj, X9_rebase_13, X9_rebase_16, X9_rebase_17, X9_rebase_18 (ev9_noV (v := -1) (r := 1) (by decide) rfl) mH_obj, X9_rebase_21, iOb_some, iClr_i, iClr_r, iClr_n, iClr_u, iClr_l, rf_s, rf_n, iB_0, iSum_nil, Option.isSome_none, Option.isSome_some, Bool.true_eq_false, if_false, if_true]
      exact m9_rf hR (by decide)
    · rw [f] at eu ⊢
      dsimp only
      have hi16 : i < 16 := by have := hW.1.2.1; omega
      have hO := hW.1.2.2.2 i hi
      have hT := hW.1.2.2.1 j hj
      have hZ := hR.1.2.2.2.2 i hi
      generalize W.1.2.2.2.1 i = Z at hO hZ ⊢
      obtain ⟨U, s1, l1, l2, l3, l4⟩ := ev9_loadsR (b := b) (x := x) hR.1 hW.1 hj
      generalize W.1.2.1 j = T at hT l3 ⊢
      simp only [X9_rebase_0, X9_rebase_1, X9_rebase_2 et mH_obj, X9_rebase_5, X9_rebase_8, X9_rebase_9, X9_rebase_10 eu mH_obj, X9_rebase_13, X9_rebase_16, X9_rebase_17, X9_rebase_21, X9_rebase_22, X9_rebase_23, X9_rebase_24 l1 mH_obj, X9_rebase_27, X9_rebase_28, X9_rebase_29, X9_rebase_32, X9_rebase_33, X9_rebase_34, X9_rebase_37, X9_rebase_38, iOb_some, iClr_i, iClr_r, iClr_n, iClr_u, iClr_l, rf_s, rf_n, iB_0, iSum_nil, Option.isSome_some, Bool.true_eq_false, if_false, mp25, mp27]
      have x0 : sEx LX s s1 := l4.mono (by decide)
      have x1 : sEx LX s (mSet (mSet s1 25 0) 27 0) := (x0.trans (mSet_ex (by decide))).trans (mSet_ex (by decide))
      have hO0 : rbO (T, 0, fun _ _ => 0, 0, fun _ => 0) 0 := ⟨hT, Nat.le_refl 0, Nat.le_refl 0⟩
      have hO1 := rbO_run (G := Z.2.2.2.2.2.1) hO.2.2.1 Z.1 0 _ (Nat.zero_add _) hO0
      refine rebase9_loop (s0 := mSet (mSet s1 25 0) 27 0) (Z := Z) hi16 (hZ.ex x1 (by decide) (by decide) (by decide)) hO.1 hO.2.2.1 Z.1 0 _ _ iU (Nat.zero_add _) hO0 ⟨sEx.refl, ⟨U, ⟨l2.1, l2.2.1, l2.2.2.1, l2.2.2.2⟩, l3⟩, ⟨rfl, fun i k hi hk => absurd hi (Nat.not_lt_zero i)⟩, rfl, fun j hj => absurd hj (Nat.not_lt_zero j)⟩ (fun s2 w hI => ?_)
      obtain ⟨y1, y2, y3, y4, y5⟩ := hI
      have h12 := hO.1
      have b1 := hO1.2.1
      have b2 := hO1.2.2
      obtain ⟨h4, k4, s4, rfl, k5⟩ := ev9_newPatch (b := b) (x := x) (so := 3) (sr := nI i) (hR.ex (x1.trans (y1.mono (by decide)))) hW y3 (by omega) (by omega) (fun _ => ⟨y4, y5⟩) (fun z => absurd rfl z)
      simp only [X9_rebase_116, X9_rebase_117, X9_rebase_118, X9_rebase_119 k4 mH_obj, X9_rebase_122, iOb_some, iClr_i, iClr_r, iClr_n, iClr_u, iClr_l, rf_s, rf_n, iB_0, iSum_nil]
      exact ⟨rfl, s4, rfl, k5⟩
end REBREF

/-! the world stays as it should be -/
section KEPTOK
variable {W : wW} {i j n c k : Nat} {U T : tT} {G H : Nat → Nat → Int32} {C : Nat → Int32} {so sr y : Int32} {e f : Nat → Int32} {Z Y : pP} {X : sqX}
theorem wRef_ok (hW : wOk W) : wOk (wRef W k) := hW
theorem wTr_ok (hW : wOk W) (hU : tOk U) : wOk (wTr W j U) := by
  refine ⟨⟨hW.1.1, hW.1.2.1, fun t ht => ?_, hW.1.2.2.2⟩, hW.2⟩
  show tOk (va_up W.1.2.1 j U t)
  unfold va_up
  split
  · exact hU
  · exact hW.1.2.2.1 t ht
theorem wAd_ok (hW : wOk W) (ht : W.1.1 < 16) (hU : tOk U) : wOk (wAd W U) := by
  refine ⟨⟨ht, hW.1.2.1, fun t h => ?_, hW.1.2.2.2⟩, hW.2⟩
  show tOk (va_up W.1.2.1 W.1.1 U t)
  unfold va_up
  by_cases c : t = W.1.1
  · rw [if_pos c]
    exact hU
  · rw [if_neg c]
    have h : t < W.1.1 + 1 := h
    exact hW.1.2.2.1 t (by omega)
theorem shOk.more {a b : Nat} {s : hS} (h : shOk a s) (hab : a ≤ b) : shOk b s := by
  unfold shOk at h ⊢
  cases e : s.1 with
  | none =>
    rw [e] at h
    rcases h with z | ⟨p, hp, z⟩
    · exact Or.inl z
    · exact Or.inr ⟨p, by omega, z⟩
  | some r =>
    rw [e] at h
    exact h
theorem aNew_ok (hW : wOk W) (h : n ≤ 120 → pOk (n, c, 0, so, sr, G, C)) : wOk (aNew W n c so sr G C).2 := by
  unfold aNew
  by_cases c1 : 120 < n ∨ 16 ≤ W.1.2.2.1
  · rw [if_pos c1]
    exact hW
  · rw [if_neg c1]
    refine ⟨⟨hW.1.1, by show W.1.2.2.1 + 1 ≤ 16; omega, hW.1.2.2.1, fun p hp => ?_⟩, hW.2.1, fun i hi => (hW.2.2 i hi).more (Nat.le_succ _)⟩
    show pOk (va_up W.1.2.2.2.1 W.1.2.2.1 _ p)
    unfold va_up
    by_cases cp : p = W.1.2.2.1
    · rw [if_pos cp]
      exact h (by omega)
    · rw [if_neg cp]
      have hp : p < W.1.2.2.1 + 1 := hp
      exact hW.1.2.2.2 p (by omega)
theorem aTree_ok (hW : wOk W) : wOk (aTree W y).2 := by
  unfold aTree
  split
  · exact hW
  · split
    · split
      · exact hW
      · exact hW
    · rename_i z _
      split
      · exact hW
      · rename_i h
        by_cases c : W.1.1 = 16
        · rw [if_pos c]
          exact hW
        · rw [if_neg c]
          have := hW.1.1
          exact wAd_ok (W := wFa W (-1)) hW (show W.1.1 < 16 by omega) (rdT_ok h)
theorem aDays_ok (hW : wOk W) {t : Int32} : wOk (aDays W t y).2 := by
  unfold aDays
  cases h : iIx t W.1.1 with
  | none => exact hW
  | some j =>
    dsimp only
    have hj : j < W.1.1 := by
      have := hW.1.1
      rcases iIx_cases t (n := W.1.1) (by omega) with ⟨e, z⟩ | ⟨i, hi, rfl, e⟩
      · rw [e] at h
        cases h
      · rw [e] at h
        cases h
        exact hi
    split
    · exact wTr_ok (W := wSd W _) hW (dyN_ok _ _ (hW.1.2.2.1 j hj))
    · exact hW
theorem eTurn_ok (h : eOk e) : eOk (eTurn e) := by
  obtain ⟨k1, k2, k3, k5, k4, k6, z0, z1, z3⟩ := h
  rcases k2 with c | c | c | c
  · rw [eTurn_0 c]
    exact ⟨k1, Or.inl rfl, fun z => absurd rfl z, fun z => absurd z (by decide : ¬ (0 : Int32) = 3), (by decide : ¬ (0 : Int32) < 0), (by decide : ¬ (0 : Int32) < 0), fun _ => ⟨rfl, rfl, rfl⟩, fun z => z.elim (fun z => absurd z (by decide : ¬ (0 : Int32) = 1)) (fun z => absurd z (by decide : ¬ (0 : Int32) = 2)), fun z => absurd z (by decide : ¬ (0 : Int32) = 3)⟩
  · have e1 : eTurn e = e7 2 (e 1) (e 2) (e 3) (e 4) 0 0 := (if_neg (by rw [c]; decide)).trans (if_pos c)
    rw [e1]
    exact ⟨k1, Or.inr (Or.inr (Or.inl rfl)), fun _ => k3 (by rw [c]; decide), fun z => absurd z (by decide : ¬ (2 : Int32) = 3), k4, (by decide : ¬ (0 : Int32) < 0), fun z => absurd z (by decide : ¬ (2 : Int32) = 0), fun _ => ⟨rfl, rfl⟩, fun z => absurd z (by decide : ¬ (2 : Int32) = 3)⟩
  · have e1 : eTurn e = e7 1 (e 1) (e 2) (e 3) (e 4) 0 0 := (if_neg (by rw [c]; decide)).trans ((if_neg (by rw [c]; decide)).trans (if_pos c))
    rw [e1]
    exact ⟨k1, Or.inr (Or.inl rfl), fun _ => k3 (by rw [c]; decide), fun z => absurd z (by decide : ¬ (1 : Int32) = 3), k4, (by decide : ¬ (0 : Int32) < 0), fun z => absurd z (by decide : ¬ (1 : Int32) = 0), fun _ => ⟨rfl, rfl⟩, fun z => absurd z (by decide : ¬ (1 : Int32) = 3)⟩
  · have e1 : eTurn e = e7 3 (e 1) 0 (e 5) (e 6) (e 3) (e 4) := (if_neg (by rw [c]; decide)).trans ((if_neg (by rw [c]; decide)).trans (if_neg (by rw [c]; decide)))
    rw [e1]
    exact ⟨k1, Or.inr (Or.inr (Or.inr rfl)), fun _ => k5 c, fun _ => k3 (by rw [c]; decide), k6, k4, fun z => absurd z (by decide : ¬ (3 : Int32) = 0), fun z => z.elim (fun z => absurd z (by decide : ¬ (3 : Int32) = 1)) (fun z => absurd z (by decide : ¬ (3 : Int32) = 2)), fun _ => rfl⟩
theorem iIx_lt {t : Int32} (hn : n < 2 ^ 31) (h : iIx t n = some j) : j < n := by
  rcases iIx_cases t hn with ⟨e, z⟩ | ⟨i, hi, rfl, e⟩
  · rw [e] at h
    cases h
  · rw [e] at h
    cases h
    exact hi
theorem aInvert_ok (hW : wOk W) {p : Int32} : wOk (aInvert W p).2 := by
  unfold aInvert
  cases h : iIx p W.1.2.2.1 with
  | none => exact hW
  | some j =>
    have hO := hW.1.2.2.2 j (iIx_lt (by have := hW.1.2.1; omega) h)
    exact aNew_ok hW (fun hn => ⟨hn, Nat.zero_le _, fun i hi => eTurn_ok (hO.2.2.1 _ (by have hi : i < (W.1.2.2.2.1 j).1 := hi; omega)), Or.inr (Or.inr (Or.inl rfl)), fun _ => rfl⟩)
theorem aBehind_ok (hW : wOk W) {p q : Int32} : wOk (aBehind W p q).2 := by
  unfold aBehind
  cases h : iIx p W.1.2.2.1 with
  | none => exact hW
  | some i =>
    cases h2 : iIx q W.1.2.2.1 with
    | none => exact hW
    | some j =>
      have hO := hW.1.2.2.2 i (iIx_lt (by have := hW.1.2.1; omega) h)
      have hO2 := hW.1.2.2.2 j (iIx_lt (by have := hW.1.2.1; omega) h2)
      refine aNew_ok hW (fun hn => ⟨hn, Nat.zero_le _, fun k hk => ?_, Or.inl rfl, fun _ => rfl⟩)
      have hk : k < (W.1.2.2.2.1 i).1 + (W.1.2.2.2.1 j).1 := hk
      show eOk (gApp _ _ _ k)
      unfold gApp
      by_cases c : k < (W.1.2.2.2.1 i).1
      · rw [if_pos c]
        exact hO.2.2.1 k c
      · rw [if_neg c]
        exact hO2.2.2.1 _ (by omega)
theorem aApply_ok (hW : wOk W) {p t : Int32} : wOk (aApply W p t).2 := by
  unfold aApply
  cases h : iIx p W.1.2.2.1 with
  | none => exact hW
  | some i =>
    cases h2 : iIx t W.1.1 with
    | none => exact hW
    | some j =>
      have hO := hW.1.2.2.2 i (iIx_lt (by have := hW.1.2.1; omega) h)
      have hT := hW.1.2.2.1 j (iIx_lt (by have := hW.1.1; omega) h2)
      have hu := (unt_congr (G := (W.1.2.2.2.1 i).2.2.2.2.2.1) (W.1.2.2.2.1 i).1 0 (W.1.2.1 j) (W.1.2.1 j) tEq.refl hT (fun q _ hq => hO.2.2.1 q (by omega))).2.2
      dsimp only
      cases (untT (W.1.2.2.2.1 i).2.2.2.2.2.1 (W.1.2.2.2.1 i).1 0 (W.1.2.1 j)).2 with
      | none => exact wTr_ok hW hu
      | some q => exact hW
def sqO (X : sqX) : Prop := ∀ i, i < X.1 → eOk (X.2 i)
theorem sqC_ok (hX : sqO X) (hf : eOk f) : sqO (sqC f X) := by
  obtain ⟨m, H⟩ := X
  have up : ∀ q e, eOk e → q ≤ m → sqO (q + 1, va_up H q e) := by
    intro q e he hq i hi
    show eOk (va_up H q e i)
    unfold va_up
    have hi : i < q + 1 := hi
    by_cases c : i = q
    · rw [if_pos c]
      exact he
    · rw [if_neg c]
      exact hX i (show i < m by omega)
  cases m with
  | zero => exact up 0 f hf (Nat.le_refl _)
  | succ m =>
    have hm := hX m (Nat.lt_succ_self m)
    show sqO (if eNames (H m) f = true then (if H m 2 = f 3 then (m, H) else (m + 1, va_up H m (e7 0 (H m 1) (H m 2) (f 3) 0 0 0))) else if eLike f (eTurn (H m)) = true then (m, H) else (m + 2, va_up H (m + 1) f))
    have lo : sqO (m, H) := fun i hi => hX i (Nat.lt_succ_of_lt hi)
    split
    · split
      · exact lo
      · exact up m _ ⟨hm.1, Or.inl rfl, fun z => absurd rfl z, fun z => absurd z (by decide : ¬ (0 : Int32) = 3), (by decide : ¬ (0 : Int32) < 0), (by decide : ¬ (0 : Int32) < 0), fun _ => ⟨rfl, rfl, rfl⟩, fun z => z.elim (fun z => absurd z (by decide : ¬ (0 : Int32) = 1)) (fun z => absurd z (by decide : ¬ (0 : Int32) = 2)), fun z => absurd z (by decide : ¬ (0 : Int32) = 3)⟩ (Nat.le_succ m)
    · split
      · exact lo
      · exact up (m + 1) f hf (Nat.le_refl _)
theorem sqF_ok (hG : ∀ i, i < n → eOk (G i)) : ∀ k i X, i + k = n → sqO X → sqO (sqF G k i X) := by
  intro k
  induction k with
  | zero => intro i X _ h; exact h
  | succ k ih => intro i X hi h; exact ih (i + 1) _ (by omega) (sqC_ok h (hG i (by omega)))
theorem aSqueeze_ok (hW : wOk W) {p : Int32} : wOk (aSqueeze W p).2 := by
  unfold aSqueeze
  cases h : iIx p W.1.2.2.1 with
  | none => exact hW
  | some j =>
    have hO := hW.1.2.2.2 j (iIx_lt (by have := hW.1.2.1; omega) h)
    exact aNew_ok hW (fun hn => ⟨hn, Nat.zero_le _, sqF_ok hO.2.2.1 _ 0 _ (Nat.zero_add _) (fun i hi => absurd hi (Nat.not_lt_zero i)), Or.inr (Or.inr (Or.inl rfl)), fun _ => rfl⟩)
theorem rbT_ok (hG : ∀ i, i < n → eOk (G i)) : ∀ k i (S : rbX), i + k = n → rbO S i → (∀ q, q < S.2.1 → eOk (S.2.2.1 q)) → ∀ q, q < (rbT G k i S).2.1 → eOk ((rbT G k i S).2.2.1 q) := by
  intro k
  induction k with
  | zero => intro i S _ _ h; exact h
  | succ k ih =>
    intro i S hi hO h
    have he := hG i (by omega)
    refine ih (i + 1) _ (by omega) (rbO_step hO he) ?_
    by_cases c : fateT (G i) S.1 = 0
    · rw [rbS_0 c]
      intro q hq
      have hq : q < S.2.1 + 1 := hq
      show eOk (va_up S.2.2.1 S.2.1 (oFit (G i) S.1) q)
      unfold va_up
      by_cases cq : q = S.2.1
      · rw [if_pos cq]
        exact (oFit_ok hO.1 he c).1
      · rw [if_neg cq]
        exact h q (by omega)
    · by_cases c2 : fateT (G i) S.1 = -1
      · rw [rbS_m c2]
        exact h
      · rw [rbS_c c c2]
        exact h
theorem aRebase_ok (hW : wOk W) {q t : Int32} : wOk (aRebase W q t).2 := by
  unfold aRebase
  cases h : iIx q W.1.2.2.1 with
  | none => exact hW
  | some i =>
    cases h2 : iIx t W.1.1 with
    | none => exact hW
    | some j =>
      have hO := hW.1.2.2.2 i (iIx_lt (by have := hW.1.2.1; omega) h)
      have hT := hW.1.2.2.1 j (iIx_lt (by have := hW.1.1; omega) h2)
      have hO0 : rbO (W.1.2.1 j, 0, fun _ _ => 0, 0, fun _ => 0) 0 := ⟨hT, Nat.le_refl 0, Nat.le_refl 0⟩
      have hO1 := rbO_run (G := (W.1.2.2.2.1 i).2.2.2.2.2.1) hO.2.2.1 (W.1.2.2.2.1 i).1 0 _ (Nat.zero_add _) hO0
      have h12 := hO.1
      have b2 := hO1.2.2
      exact aNew_ok hW (fun hn => ⟨hn, Nat.le_trans b2 h12, rbT_ok hO.2.2.1 _ 0 _ (Nat.zero_add _) hO0 (fun i hi => absurd hi (Nat.not_lt_zero i)), Or.inr (Or.inr (Or.inr rfl)), fun z => absurd rfl z⟩)
theorem aNodes_ok (hW : wOk W) {t : Int32} : wOk (aNodes W t).2 := by
  unfold aNodes
  repeat' split
  all_goals exact hW
theorem aFind_ok (hW : wOk W) {t ky : Int32} : wOk (aFind W t ky).2 := by
  unfold aFind
  repeat' split
  all_goals exact hW
theorem aNode_ok (hW : wOk W) {t i w : Int32} : wOk (aNode W t i w).2 := by
  unfold aNode
  repeat' split
  all_goals exact hW
theorem aChild_ok (hW : wOk W) {t ky pl : Int32} : wOk (aChild W t ky pl).2 := by
  unfold aChild
  repeat' split
  all_goals exact hW
theorem aAbove_ok (hW : wOk W) {t ky ot : Int32} : wOk (aAbove W t ky ot).2 := by
  unfold aAbove
  repeat' split
  all_goals exact hW
theorem aSame_ok (hW : wOk W) {t u : Int32} : wOk (aSame W t u).2 := by
  unfold aSame
  repeat' split
  all_goals exact hW
theorem aPatchOf_ok (hW : wOk W) {p w : Int32} : wOk (aPatchOf W p w).2 := by
  unfold aPatchOf
  repeat' split
  all_goals exact hW
theorem aEdit_ok (hW : wOk W) {p i w : Int32} : wOk (aEdit W p i w).2 := by
  unfold aEdit
  repeat' split
  all_goals exact hW
theorem aTouched_ok (hW : wOk W) {p w : Int32} : wOk (aTouched W p w).2 := by
  unfold aTouched
  repeat' split
  all_goals exact hW
theorem aConflict_ok (hW : wOk W) {p i w : Int32} : wOk (aConflict W p i w).2 := by
  unfold aConflict
  repeat' split
  all_goals exact hW
theorem aHolds_ok (hW : wOk W) {s : Int32} : wOk (aHolds W s).2 := by
  unfold aHolds
  repeat' split
  all_goals exact hW
theorem aSays_ok (hW : wOk W) {s a : Int32} : wOk (aSays W s a).2 := by
  unfold aSays
  repeat' split
  all_goals exact hW
theorem aSticks_ok (hW : wOk W) {p t : Int32} : wOk (aSticks W p t).2 := by
  unfold aSticks
  repeat' split
  all_goals exact hW
theorem aJudge_ok (hW : wOk W) {v t z : Int32} : wOk (aJudge W v t z).2 := by
  unfold aJudge
  repeat' split
  all_goals exact hW
theorem aElement_ok (hW : wOk W) {s i : Int32} : wOk (aElement W s i).2 := by
  unfold aElement
  repeat' split
  all_goals exact hW
end KEPTOK

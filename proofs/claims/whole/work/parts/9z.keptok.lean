/-! the world stays as it should be -/
section KEPTOK
variable {W : wW} {i j n c k : Nat} {U T : tT} {G H : Nat → Nat → Int32} {C : Nat → Int32} {so sr y : Int32} {e f : Nat → Int32} {Z Y : pP} {X : sqX}
theorem wRef_ok (hW : wOk W) : wOk (wRef W k) := hW
theorem wTr_ok (hW : wOk W) (hU : tOk U) : wOk (wTr W j U) := by
  refine ⟨⟨hW.1.1, hW.1.2.1, fun t ht => ?_, hW.1.2.2.2⟩, hW.2⟩
  show tOk (va_up W.1.2.1 j U t)
  unfold va_up
  split
  · exact hU
  · exact hW.1.2.2.1 t ht
theorem wAd_ok (hW : wOk W) (ht : W.1.1 < 16) (hU : tOk U) : wOk (wAd W U) := by
  refine ⟨⟨ht, hW.1.2.1, fun t h => ?_, hW.1.2.2.2⟩, hW.2⟩
  show tOk (va_up W.1.2.1 W.1.1 U t)
  unfold va_up
  by_cases c : t = W.1.1
  · rw [if_pos c]
    exact hU
  · rw [if_neg c]
    have h : t < W.1.1 + 1 := h
    exact hW.1.2.2.1 t (by omega)
theorem shOk.more {a b : Nat} {s : hS} (h : shOk a s) (hab : a ≤ b) : shOk b s := by
  unfold shOk at h ⊢
  cases e : s.1 with
  | none =>
    rw [e] at h
    rcases h with z | ⟨p, hp, z⟩
    · exact Or.inl z
    · exact Or.inr ⟨p, by omega, z⟩
  | some r =>
    rw [e] at h
    exact h
theorem aNew_ok (hW : wOk W) (h : n ≤ 120 → pOk (n, c, 0, so, sr, G, C)) : wOk (aNew W n c so sr G C).2 := by
  unfold aNew
  by_cases c1 : 120 < n ∨ 16 ≤ W.1.2.2.1
  · rw [if_pos c1]
    exact hW
  · rw [if_neg c1]
    refine ⟨⟨hW.1.1, by show W.1.2.2.1 + 1 ≤ 16; omega, hW.1.2.2.1, fun p hp => ?_⟩, hW.2.1, fun i hi => (hW.2.2 i hi).more (Nat.le_succ _)⟩
    show pOk (va_up W.1.2.2.2.1 W.1.2.2.1 _ p)
    unfold va_up
    by_cases cp : p = W.1.2.2.1
    · rw [if_pos cp]
      exact h (by omega)
    · rw [if_neg cp]
      have hp : p < W.1.2.2.1 + 1 := hp
      exact hW.1.2.2.2 p (by omega)
theorem aTree_ok (hW : wOk W) : wOk (aTree W y).2 := by
  unfold aTree
  split
  · exact hW
  · split
    · split
      · exact hW
      · exact hW
    · rename_i z _
      split
      · exact hW
      · rename_i h
        by_cases c : W.1.1 = 16
        · rw [if_pos c]
          exact hW
        · rw [if_neg c]
          have := hW.1.1
          exact wAd_ok (W := wFa W (-1)) hW (show W.1.1 < 16 by omega) (rdT_ok h)
theorem aDays_ok (hW : wOk W) {t : Int32} : wOk (aDays W t y).2 := by
  unfold aDays
  cases h : iIx t W.1.1 with
  | none => exact hW
  | some j =>
    dsimp only
    have hj : j < W.1.1 := by
      have := hW.1.1
      rcases iIx_cases t (n := W.1.1) (by omega) with ⟨e, z⟩ | ⟨i, hi, rfl, e⟩
      · rw [e] at h
        cases h
      · rw [e] at h
        cases h
        exact hi
    split
    · exact wTr_ok (W := wSd W _) hW (dyN_ok _ _ (hW.1.2.2.1 j hj))
    · exact hW
theorem eTurn_ok (h : eOk e) : eOk (eTurn e) := by
  obtain ⟨k1, k2, k3, k5, k4, k6, z0, z1, z3⟩ := h
  rcases k2 with c | c | c | c
  · rw [eTurn_0 c]
    exact ⟨k1, Or.inl rfl, fun z => absurd rfl z, fun z => absurd z (by decide : ¬ (0 : Int32) = 3), (by decide : ¬ (0 : Int32) < 0), (by decide : ¬ (0 : Int32) < 0), fun _ => ⟨rfl, rfl, rfl⟩, fun z => z.elim (fun z => absurd z (by decide : ¬ (0 : Int32) = 1)) (fun z => absurd z (by decide : ¬ (0 : Int32) = 2)), fun z => absurd z (by decide : ¬ (0 : Int32) = 3)⟩
  · have e1 : eTurn e = e7 2 (e 1) (e 2) (e 3) (e 4) 0 0 := (if_neg (by rw [c]; decide)).trans (if_pos c)
    rw [e1]
    exact ⟨k1, Or.inr (Or.inr (Or.inl rfl)), fun _ => k3 (by rw [c]; decide), fun z => absurd z (by decide : ¬ (2 : Int32) = 3), k4, (by decide : ¬ (0 : Int32) < 0), fun z => absurd z (by decide : ¬ (2 : Int32) = 0), fun _ => ⟨rfl, rfl⟩, fun z => absurd z (by decide : ¬ (2 : Int32) = 3)⟩
  · have e1 : eTurn e = e7 1 (e 1) (e 2) (e 3) (e 4) 0 0 := (if_neg (by rw [c]; decide)).trans ((if_neg (by rw [c]; decide)).trans (if_pos c))
    rw [e1]
    exact ⟨k1, Or.inr (Or.inl rfl), fun _ => k3 (by rw [c]; decide), fun z => absurd z (by decide : ¬ (1 : Int32) = 3), k4, (by decide : ¬ (0 : Int32) < 0), fun z => absurd z (by decide : ¬ (1 : Int32) = 0), fun _ => ⟨rfl, rfl⟩, fun z => absurd z (by decide : ¬ (1 : Int32) = 3)⟩
  · have e1 : eTurn e = e7 3 (e 1) 0 (e 5) (e 6) (e 3) (e 4) := (if_neg (by rw [c]; decide)).trans ((if_neg (by rw [c]; decide)).trans (if_neg (by rw [c]; decide)))
    rw [e1]
    exact ⟨k1, Or.inr (Or.inr (Or.inr rfl)), fun _ => k5 c, fun _ => k3 (by rw [c]; decide), k6, k4, fun z => absurd z (by decide : ¬ (3 : Int32) = 0), fun z => z.elim (fun z => absurd z (by decide : ¬ (3 : Int32) = 1)) (fun z => absurd z (by decide : ¬ (3 : Int32) = 2)), fun _ => rfl⟩
end KEPTOK

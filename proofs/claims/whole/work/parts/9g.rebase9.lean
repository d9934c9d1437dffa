/-! rebase: what comes of it; the reference -/
section REBASE9
variable {h : iHp} {i j k l x m a c p q r t n : Nat} {W : wW} {G H : Nat → Nat → Int32} {e f : Nat → Int32} {b : iHp} {s s0 s1 s' : mS} {Z : pP} {U V T : tT} {K B D K' B' D' C : Nat → Int32} {d : Nat → Nat}
theorem ev9_goes (hw : wIs s U) (hU : tOk U) (hM : mMd s n H) (hn : n < 199) (e : Nat → Int32) : ∃ s' U', iEv mX9_goes [.ref x, .int (e 0), .int (e 1), .int (e 2), .int (e 3), .int (e 4), .int (e 5), .int (e 6)] (mH b x s) none (mH b x s') ∧ wIs s' U' ∧ tEq U' (doT e U) ∧ mMd s' (n + 1) (va_up H n e) ∧ sEx [18, 19, 20, 21, 22, 23, 24, 25, 26] s s' := by
  obtain ⟨s1, m1, m2, m3⟩ := ev9_makes (b := b) (x := x) hM hn e
  have w1 : wIs s1 U := ⟨(m3.1 18 (by decide)).trans hw.1, (m3.2.1 19 (by decide)).trans hw.2.1, (m3.2.1 20 (by decide)).trans hw.2.2.1, (m3.2.1 21 (by decide)).trans hw.2.2.2⟩
  have hin : inAt b x s1 (x + 18) (7 * n) e := by
    have := inAt_making (b := b) (x := x) m2 (show n < n + 1 by omega) (by omega)
    rwa [show va_up H n e n = e from if_pos rfl] at this
  obtain ⟨s2, U', d1, d2, d3, d4⟩ := ev9_doesR w1 hU hin
  refine ⟨s2, U', ?_, d2, d3, m2.ex d4 (by decide) (by decide), (m3.mono (by decide)).trans (d4.mono (by decide))⟩
  refine J9_goes ?_
  have e7n : nI (7 * (n + 1)) - 7 = nI (7 * n) := by
    rw [show (7 : Int32) = nI 7 from rfl, pk_sub (by omega)]
    exact congrArg nI (by omega)
  simp only [X9_goes_0, X9_goes_1, X9_goes_2, X9_goes_3, X9_goes_4, X9_goes_6, X9_goes_8, X9_goes_10, X9_goes_12 m1 mH_obj, X9_goes_15, X9_goes_16, X9_goes_17, X9_goes_20, X9_goes_22, X9_goes_23, X9_goes_26, X9_goes_27, X9_goes_29, X9_goes_30 d1 mH_obj (cat_r (x + 18)), X9_goes_33, X9_goes_34, iOb_some, iClr_i, iClr_r, iClr_n, iClr_u, iClr_l, rf_s, rf_n, iB_0, iSum_nil, mg26, mg25, m2.1, i7, e7n, and_self]
/-- the tree, what is kept (how many, which), the conflicts (how many, which) -/
abbrev rbX : Type := tT × Nat × (Nat → Nat → Int32) × Nat × (Nat → Int32)
def rbS (e : Nat → Int32) (i : Nat) (S : rbX) : rbX := if fateT e S.1 = 0 then (ePerf (oFit e S.1) S.1, S.2.1 + 1, va_up S.2.2.1 S.2.1 (oFit e S.1), S.2.2.2) else if fateT e S.1 = -1 then S else (S.1, S.2.1, S.2.2.1, S.2.2.2.1 + 1, upd (upd S.2.2.2.2 (2 * S.2.2.2.1) (nI i)) (2 * S.2.2.2.1 + 1) (fateT e S.1))
def rbT (G : Nat → Nat → Int32) : Nat → Nat → rbX → rbX
  | 0, _, S => S
  | k + 1, i, S => rbT G k (i + 1) (rbS (G i) i S)
theorem tPK_key (hT : tOk (n, K, B, D)) (hi : i < n) (h0 : i ≠ 0) : kEy (tPK K D i) := by
  obtain ⟨hK, d, hd, h5⟩ := hT
  obtain ⟨p, e1, e2, -, -⟩ := h5.par hi (by omega)
  rw [tPK_some hd hi e1]
  exact hK.1 p (by have hi : i < n := hi; show p < n; omega)
theorem fate_congr (h : tEq T U) (hT : tOk T) : fateT e T = fateT e U := by
  obtain ⟨n, K, B, D⟩ := T
  obtain ⟨n', K', B', D'⟩ := U
  obtain ⟨h1, h2⟩ := h
  obtain ⟨h3, d, hd, h5⟩ := hT
  dsimp only at h1 h2 h3 hd h5
  subst h1
  have hK : ∀ j, j < n → K j = K' j := fun j hj => (h2 j hj).1
  have hB : ∀ j, j < n → B j = B' j := fun j hj => (h2 j hj).2.1
  have hD : ∀ j, j < n → D j = D' j := fun j hj => (h2 j hj).2.2
  unfold fateT oFate
  dsimp only
  rw [← tWhere_congr hK, ← tWhere_congr hK, ← tWhere_congr hK]
  split
  · cases hw : tWhere K n (e 1) with
    | none => rfl
    | some i =>
      unfold oName
      dsimp only
      rw [hB i (tWhere_lt hw).1]
  · split
    · cases hw : tWhere K n (e 1) with
      | none => rfl
      | some i =>
        unfold oTake
        dsimp only
        rw [hB i (tWhere_lt hw).1, cKids hd hD (tWhere_lt hw).1]
    · split
      · cases hw : tWhere K n (e 1) with
        | none => cases hg : tWhere K n (e 3) <;> rfl
        | some i =>
          unfold oGive
          dsimp only
          rw [hB i (tWhere_lt hw).1, cPK hd hD hK (tWhere_lt hw).1]
      · cases hw : tWhere K n (e 1) with
        | none => rfl
        | some i =>
          cases hg : tWhere K n (e 5) with
          | none => rfl
          | some g =>
            unfold oMove
            dsimp only
            rw [cPK hd hD hK (tWhere_lt hw).1, cEnd hd hD (tWhere_lt hw).1]
theorem oFit_congr (h : tEq T U) (hT : tOk T) : oFit e T = oFit e U := by
  obtain ⟨n, K, B, D⟩ := T
  obtain ⟨n', K', B', D'⟩ := U
  obtain ⟨h1, h2⟩ := h
  obtain ⟨h3, d, hd, h5⟩ := hT
  dsimp only at h1 h2 h3 hd h5
  subst h1
  have hK : ∀ j, j < n → K j = K' j := fun j hj => (h2 j hj).1
  have hD : ∀ j, j < n → D j = D' j := fun j hj => (h2 j hj).2.2
  unfold oFit
  dsimp only
  rw [← tWhere_congr hK, ← tWhere_congr hK, ← tWhere_congr hK]
  split
  · rfl
  · split
    · cases hw : tWhere K n (e 1) with
      | none => rfl
      | some i =>
        dsimp only
        rw [cPK hd hD hK (tWhere_lt hw).1, cPlace hd hD (tWhere_lt hw).1]
    · split
      · cases hg : tWhere K n (e 3) with
        | none => rfl
        | some g =>
          dsimp only
          rw [cKids hd hD (tWhere_lt hg).1]
      · cases hw : tWhere K n (e 1) with
        | none => rfl
        | some i =>
          cases hg : tWhere K n (e 5) with
          | none => rfl
          | some g =>
            dsimp only
            rw [cPlace hd hD (tWhere_lt hw).1, cLast hd hD (tWhere_lt hw).1 (tWhere_lt hg).1]
theorem nI_pl {D : Nat → Int32} (hd : dEq D d n) (hi : i < n) (hn : n ≤ 60) : ¬ nI (tPlace D i) < 0 := by
  have : ∀ (j c : Nat), tL D (D i) j c ≤ c + j := by
    intro j
    induction j with
    | zero => intro c; exact Nat.le_refl _
    | succ j ih =>
      intro c
      unfold tL
      split
      · omega
      · split
        · have := ih (c + 1)
          omega
        · have := ih c
          omega
  have := this i 0
  unfold tPlace
  exact nI_pos (by omega)
/-- what is kept fits, and is an edit as it should be -/
theorem oFit_ok (hT : tOk T) (he : eOk e) (hf : fateT e T = 0) : eOk (oFit e T) ∧ fitT (oFit e T) T = true := by
  obtain ⟨n, K, B, D⟩ := T
  obtain ⟨hK, d, hd, h5⟩ := id hT
  dsimp only at hK hd h5
  have hn := hK.le
  obtain ⟨k1, k2, k3, k5, k4, k6, z0, z1, z3⟩ := he
  by_cases c0 : e 0 = 0
  · rw [show oFit e (n, K, B, D) = e from if_pos c0]
    exact ⟨⟨k1, k2, k3, k5, k4, k6, z0, z1, z3⟩, kept_N c0 hf⟩
  · by_cases c1 : e 0 = 1
    · obtain ⟨i, hw, hi0, hft⟩ := kept_T c1 hf
      have e1 : oFit e (n, K, B, D) = e7 1 (e 1) (e 2) (tPK K D i) (nI (tPlace D i)) 0 0 := by
        unfold oFit
        rw [if_neg c0, if_pos c1]
        dsimp only
        rw [hw]
      rw [e1]
      have hi := (tWhere_lt hw).1
      exact ⟨⟨k1, Or.inr (Or.inl rfl), fun _ => tPK_key hT hi hi0, fun z => absurd z (by decide : ¬ (1 : Int32) = 3), nI_pl hd hi hn, (by decide : ¬ (0 : Int32) < 0), fun z => absurd z (by decide : ¬ (1 : Int32) = 0), fun _ => ⟨rfl, rfl⟩, fun z => absurd z (by decide : ¬ (1 : Int32) = 3)⟩, hft⟩
    · by_cases c2 : e 0 = 2
      · obtain ⟨g, hg, hft⟩ := kept_G c2 k4 hf (show n ≤ 80 by omega)
        have e1 : oFit e (n, K, B, D) = e7 2 (e 1) (e 2) (e 3) (iMn (e 4) (nI (tKids D n g))) 0 0 := by
          unfold oFit
          rw [if_neg c0, if_neg c1, if_pos c2]
          dsimp only
          rw [hg]
        rw [e1]
        have hkl := tKids_le (D := D) (n := n) (i := g)
        exact ⟨⟨k1, Or.inr (Or.inr (Or.inl rfl)), fun _ => k3 c0, fun z => absurd z (by decide : ¬ (2 : Int32) = 3), iMn_pos k4 (nI_pos (by omega)), (by decide : ¬ (0 : Int32) < 0), fun z => absurd z (by decide : ¬ (2 : Int32) = 0), fun _ => ⟨rfl, rfl⟩, fun z => absurd z (by decide : ¬ (2 : Int32) = 3)⟩, hft⟩
      · have c3 : e 0 = 3 := by
          rcases k2 with z | z | z | z
          · exact absurd z c0
          · exact absurd z c1
          · exact absurd z c2
          · exact z
        obtain ⟨i, g, hw, hi0, hg, -, hft⟩ := kept_M c0 c1 c2 k6 (fun i g hi hg => eLast_pos h5 hd hn hi hg) hf
        have e1 : oFit e (n, K, B, D) = e7 3 (e 1) 0 (e 3) (nI (tPlace D i)) (e 5) (iMn (e 6) (eLast n D i g)) := by
          unfold oFit
          rw [if_neg c0, if_neg c1, if_neg c2]
          dsimp only
          rw [hw, hg]
        rw [e1]
        have hi := (tWhere_lt hw).1
        have hgn := (tWhere_lt hg).1
        exact ⟨⟨k1, Or.inr (Or.inr (Or.inr rfl)), fun _ => k3 c0, fun _ => k5 c3, nI_pl hd hi hn, iMn_pos k6 (eLast_pos h5 hd hn hi hgn), fun z => absurd z (by decide : ¬ (3 : Int32) = 0), fun z => z.elim (fun z => absurd z (by decide : ¬ (3 : Int32) = 1)) (fun z => absurd z (by decide : ¬ (3 : Int32) = 2)), fun _ => rfl⟩, hft⟩
/-- the reference's answer for an edit: why not, or 0 -/
def rbW (v : Int32) : Int32 := if v = -1 then 0 else v
theorem rbS_0 {S : rbX} (h : fateT e S.1 = 0) : rbS e i S = (ePerf (oFit e S.1) S.1, S.2.1 + 1, va_up S.2.2.1 S.2.1 (oFit e S.1), S.2.2.2) := if_pos h
end REBASE9

/-! the world stays as it should be: difference, far, moves; a call of the law, both sides -/
section FRAMES
variable {h h1 h2 b : iHp} {o sN x i j k L : Nat} {W : wW} {s s' : mS} {t u : Int32} {f : dfX → Int32 × wW} {xs : Nat → Int32} {bb : Nat}
theorem aDf_ok (hW : wOk W) (hf : ∀ X, dfI X → X.2.1 ≤ 120 → wOk (f X).2) : wOk (aDf W t u f).2 := by
  unfold aDf
  have hn : W.1.1 < 2 ^ 31 := by have := hW.1.1; omega
  cases e : iIx t W.1.1 with
  | none => exact hW
  | some i =>
    cases e2 : iIx u W.1.1 with
    | none => exact hW
    | some j =>
      dsimp only
      by_cases c : (W.1.2.1 i).2.1 0 = (W.1.2.1 j).2.1 0
      · rw [if_pos c]
        obtain ⟨g1, g2⟩ := dfR_ok (hW.1.2.2.1 i (iIx_lt hn e)) (hW.1.2.2.1 j (iIx_lt hn e2)) c
        exact hf _ g1 g2
      · rw [if_neg c]
        exact hW
theorem aDiff_ok (hW : wOk W) : wOk (aDiff W t u).2 := aDf_ok hW (fun X h1 h2 => aNew_ok hW (fun _ => ⟨h2, Nat.zero_le _, h1.2, Or.inr (Or.inl rfl), fun _ => rfl⟩))
theorem aFar_ok (hW : wOk W) : wOk (aFar W t u).2 := aDf_ok hW (fun X _ _ => hW)
theorem aMoves_ok (hW : wOk W) : wOk (aMoves W t u).2 := aDf_ok hW (fun X _ _ => hW)
/-- what the reference does leaves the class alone -/
theorem cRep_same (hR : cRep h o W) (hc : ∀ q, (q < o + 10 ∨ o + 38 ≤ q) → h1.1 q = h.1 q) (hn : h1.2 = h.2) : cRep h1 o W := by
  obtain ⟨sN, im, R, sh, rf, n, k, E, C, T, P, ⟨a1, a2, a3, a4⟩, hd, hs, hl, hb, hi, hw, hf⟩ := hR
  have n1 : h1.2.1 = h.2.1 := congrArg Prod.fst hn
  have ag : agt h h1 o sN sN := fun q hq => ⟨⟨hq.1, by rw [n1]; exact hq.2.1, hq.2.2⟩, hc q (Or.inr hq.1)⟩
  have hsN : sN = o + 7 ∨ o + 38 ≤ sN := by have := hl.2; omega
  refine ⟨sN, im, R, sh, rf, n, k, E, C, T, P, ⟨(hc _ (by omega)).trans a1, (hc _ (by omega)).trans a2, (hc _ (by omega)).trans a3, (hc _ (by omega)).trans a4⟩, ⟨(hc _ (by omega)).trans hd.1, (hc _ (by omega)).trans hd.2.1, (hc _ (by omega)).trans hd.2.2.1, hd.2.2.2⟩, ⟨(hc _ (by omega)).trans hs.1, (hc _ (by omega)).trans hs.2.1, (hc _ (by omega)).trans hs.2.2.1, hs.2.2.2⟩, ?_, ag.agr.st hb, ag.agr.img hi, ag.rw hw, hf⟩
  unfold cLo at hl ⊢
  rw [n1]
  exact hl
theorem cRep_mH (hR : cRep h o W) : cRep (mH h (o + 10) s) o W := cRep_same hR (fun q hq => if_neg (by omega)) rfl
theorem cRep_o (hR : cRep h o W) : iObj h o 8 = true := by
  obtain ⟨sN, im, R, sh, rf, n, k, E, C, T, P, hR⟩ := hR
  exact hR.ob
theorem cRep_lo (hR : cRep h o W) : o + 38 ≤ h.2.1 := by
  obtain ⟨sN, im, R, sh, rf, n, k, E, C, T, P, hR⟩ := hR
  exact hR.lo
/-- what the class does leaves the reference alone -/
theorem mH_keep (e : mH h x s = h) (hc : ∀ q, x ≤ q → q < x + 28 → h1.1 q = h.1 q) : mH h1 x s = h1 := by
  refine Prod.ext (funext fun q => ?_) rfl
  show (if x ≤ q ∧ q < x + 28 then some (mCell x s (q - x)) else h1.1 q) = h1.1 q
  by_cases c : x ≤ q ∧ q < x + 28
  · rw [if_pos c, hc q c.1 c.2, ← e]
    exact (if_pos c).symm
  · rw [if_neg c]
def lwI (bb o L : Nat) (xs : Nat → Int32) (W : wW) (k : Nat) (h : iHp) : Prop := h.1 bb = some (.inl (7, L, .inl xs)) ∧ (∃ s, mH h (o + 10) s = h ∧ mRel s W) ∧ cRep h o W ∧ wOk W ∧ h.2.1 ≤ o + 38 + 1000 * k ∧ h.2.2 ≤ 50000 + 14000 * k
theorem lw_ar {a c p m u : Nat} (h1 : a ≤ c + u) (h2 : c ≤ p + m) : a ≤ p + (m + u) := by omega
theorem lw_ar1 {a c o k : Nat} (h1 : a ≤ c + 1000) (h2 : c ≤ o + 38 + 1000 * k) : a ≤ o + 38 + 1000 * (k + 1) := by
  rw [show 1000 * (k + 1) = 1000 * k + 1000 from Nat.mul_succ 1000 k]
  exact lw_ar h1 h2
theorem lw_ar2 {a c k : Nat} (h1 : a ≤ c + 14000) (h2 : c ≤ 50000 + 14000 * k) : a ≤ 50000 + 14000 * (k + 1) := by
  rw [show 14000 * (k + 1) = 14000 * k + 14000 from Nat.mul_succ 14000 k]
  exact lw_ar h1 h2
theorem lw_fram (hb : bb < o) (hI : lwI bb o L xs W k h) {W' : wW} (hv : wOk W') (hf : cFr h h1 o) (hR : cRep h1 o W') (hs : mRel s' W') (hx : h2 = mH h1 (o + 10) s') : lwI bb o L xs W' (k + 1) h2 := by
  obtain ⟨i1, i2, i3, i4, i5, i6⟩ := hI
  obtain ⟨f1, f2, f3, f4, f5⟩ := hf
  subst hx
  refine ⟨(if_neg (by omega)).trans ((f1 bb (Or.inl hb)).trans i1), ⟨s', mH_keep (h := mH h1 (o + 10) s') ?_ (fun q _ _ => rfl), hs⟩, cRep_mH hR, hv, ?_, ?_⟩
  · refine Prod.ext (funext fun q => ?_) rfl
    show (if o + 10 ≤ q ∧ q < o + 10 + 28 then some (mCell (o + 10) s' (q - (o + 10))) else (if o + 10 ≤ q ∧ q < o + 10 + 28 then some (mCell (o + 10) s' (q - (o + 10))) else h1.1 q)) = (if o + 10 ≤ q ∧ q < o + 10 + 28 then some (mCell (o + 10) s' (q - (o + 10))) else h1.1 q)
    by_cases c : o + 10 ≤ q ∧ q < o + 10 + 28
    · rw [if_pos c, if_pos c]
    · rw [if_neg c, if_neg c]
  · exact lw_ar1 f3 i5
  · exact lw_ar2 f5 i6
/-- one call of the law, on both sides -/
theorem lw_call {M8 M9 : iM} {a8 a9 : List Value} (hb : bb < o) (hI : lwI bb o L xs W k h) (v : Int32 × wW) (hv : wOk v.2) (c8 : ∃ r h1, iEv M8 a8 h r h1 ∧ c8P h o v r h1) (m9 : ∀ (g : iHp) s, mRel s W → ∃ r h2, iEv M9 a9 (mH g (o + 10) s) r h2 ∧ m9P g (o + 10) v r h2) : ∃ h1 h2, iEv M8 a8 h (some (.int v.1)) h1 ∧ iEv M9 a9 h1 (some (.int v.1)) h2 ∧ h1.1 bb = some (.inl (7, L, .inl xs)) ∧ iObj h1 (o + 10) 9 = true ∧ lwI bb o L xs v.2 (k + 1) h2 := by
  obtain ⟨r, h1, e1, rfl, c1, c2⟩ := c8
  obtain ⟨i1, ⟨s, i2, i3⟩, i4⟩ := id hI
  have e := mH_keep (h1 := h1) i2 (fun q q1 q2 => c2.1 q (Or.inr ⟨q1, by omega⟩))
  obtain ⟨r, h2, e2, rfl, s', hx, m2⟩ := m9 h1 s i3
  rw [e] at e2
  refine ⟨h1, h2, e1, e2, (c2.1 bb (Or.inl hb)).trans i1, ?_, lw_fram hb hI hv c2 c1 m2 hx⟩
  rw [← e]
  exact mH_obj
theorem lw_callL {M8 M9 : iM} {a8 a9 : List Value} (hb : bb < o) (hI : lwI bb o L xs W k h) (v : Int64 × wW) (hv : wOk v.2) (c8 : ∃ r h1, iEv M8 a8 h r h1 ∧ c8L h o v r h1) (m9 : ∀ (g : iHp) s, mRel s W → ∃ r h2, iEv M9 a9 (mH g (o + 10) s) r h2 ∧ m9L g (o + 10) v r h2) : ∃ h1 h2, iEv M8 a8 h (some (.long v.1)) h1 ∧ iEv M9 a9 h1 (some (.long v.1)) h2 ∧ h1.1 bb = some (.inl (7, L, .inl xs)) ∧ iObj h1 (o + 10) 9 = true ∧ lwI bb o L xs v.2 (k + 1) h2 := by
  obtain ⟨r, h1, e1, rfl, c1, c2⟩ := c8
  obtain ⟨i1, ⟨s, i2, i3⟩, i4⟩ := id hI
  have e := mH_keep (h1 := h1) i2 (fun q q1 q2 => c2.1 q (Or.inr ⟨q1, by omega⟩))
  obtain ⟨r, h2, e2, rfl, s', hx, m2⟩ := m9 h1 s i3
  rw [e] at e2
  refine ⟨h1, h2, e1, e2, (c2.1 bb (Or.inl hb)).trans i1, ?_, lw_fram hb hI hv c2 c1 m2 hx⟩
  rw [← e]
  exact mH_obj
/-- the script read -/
theorem ldS (e : h.1 bb = some (.inl (7, L, .inl xs))) (hj : j < L) (hL : L ≤ 3072) : iLdI h bb (nI j) = some (xs j) := by
  unfold iLdI
  rw [e]
  dsimp only
  rw [if_pos ⟨Or.inr rfl, nI_in hj (by omega)⟩, nI_clamp (by omega)]
theorem lnS (e : h.1 bb = some (.inl (7, L, .inl xs))) : iLen h bb = some (nI L) := by
  unfold iLen
  rw [e]
  rfl
end FRAMES

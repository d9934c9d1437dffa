/-! days: what a day makes of a tree and of the seed -/
abbrev dyX : Type := tT × Int32
def dyK (se : Int32) : Int32 := sDraw (sNext se) 60 + 1
def dyP (se : Int32) (n : Nat) : Nat := (sDraw se (nI n)).toNatClampNeg
def dyI (k v : Int32) (p : Nat) (T : tT) : tT := (T.1 + 1, tI1 T.2.1 T.1 (p + 1) k, tI1 T.2.2.1 T.1 (p + 1) v, tI1 T.2.2.2 T.1 (p + 1) (T.2.2.2 p + 1))
def dyC (i : Nat) (T : tT) : tT := (T.1 - 1, tO1 T.2.1 T.1 i, tO1 T.2.2.1 T.1 i, tO1 T.2.2.2 T.1 i)
def dyR (i : Nat) (v : Int32) (T : tT) : tT := (T.1, T.2.1, upd T.2.2.1 i v, T.2.2.2)
def dyT (X : dyX) : dyX := match tWhere X.1.2.1 X.1.1 (dyK X.2) with
  | none => if X.1.1 < 40 then (dyI (dyK X.2) (97 + sDraw (sNext (sNext X.2)) 26) (dyP (sNext (sNext (sNext X.2))) X.1.1) X.1, sNext (sNext (sNext X.2))) else (X.1, sNext X.2)
  | some i => if i ≠ 0 ∧ tKids X.1.2.2.2 X.1.1 i = 0 then (if sDraw (sNext (sNext X.2)) 2 = 0 then (dyC i X.1, sNext (sNext X.2)) else (dyR i (97 + sDraw (sNext (sNext (sNext X.2))) 26) X.1, sNext (sNext (sNext X.2)))) else (dyR i (97 + sDraw (sNext (sNext X.2)) 26) X.1, sNext (sNext X.2))
section DAYS
variable {n i p : Nat} {k v se : Int32} {K B D : Nat → Int32} {T U : tT} {X Y : dyX}
theorem fitT_G {e : Nat → Int32} (h : e 0 = 2) : fitT e (n, K, B, D) = eFitG e n K D (tWhere K n (e 1)) (tWhere K n (e 3)) := (if_neg (by rw [h]; decide)).trans ((if_neg (by rw [h]; decide)).trans (if_pos h))
theorem fitT_T {e : Nat → Int32} (h : e 0 = 1) : fitT e (n, K, B, D) = eFitT e n K B D (tWhere K n (e 1)) := (if_neg (by rw [h]; decide)).trans (if_pos h)
theorem ePerf_G {e : Nat → Int32} (h : e 0 = 2) {g : Nat} (hg : tWhere K n (e 3) = some g) : ePerf e (n, K, B, D) = (n + 1, tI1 K n (tSpot D n g (e 4) (-1)) (e 1), tI1 B n (tSpot D n g (e 4) (-1)) (e 2), tI1 D n (tSpot D n g (e 4) (-1)) (D g + 1)) := by
  unfold ePerf
  rw [if_neg (by rw [h]; decide), if_neg (by rw [h]; decide), if_pos h]
  dsimp only
  rw [hg]
theorem ePerf_T {e : Nat → Int32} (h : e 0 = 1) {g : Nat} (hg : tWhere K n (e 1) = some g) : ePerf e (n, K, B, D) = (n - 1, tO1 K n g, tO1 B n g, tO1 D n g) := by
  unfold ePerf
  rw [if_neg (by rw [h]; decide), if_pos h]
  dsimp only
  rw [hg]
theorem sDraw_n (h0 : 0 < n) (h1 : n < 2 ^ 16) : ∃ r, sDraw se (nI n) = nI r ∧ r < n := by
  have hy : (se.toUInt32 >>> (Int32.toUInt32 16 &&& Int32.toUInt32 31)).toNat < 65536 := by
    rw [UInt32.toNat_shiftRight, show ((Int32.toUInt32 16 &&& Int32.toUInt32 31).toNat % 32) = 16 from rfl, Nat.shiftRight_eq_div_pow]
    have := se.toUInt32.toNat_lt
    omega
  have e : (se.toUInt32 >>> (Int32.toUInt32 16 &&& Int32.toUInt32 31)).toInt32 = nI (se.toUInt32 >>> (Int32.toUInt32 16 &&& Int32.toUInt32 31)).toNat := by
    generalize (se.toUInt32 >>> (Int32.toUInt32 16 &&& Int32.toUInt32 31)) = y
    show y.toInt32 = Int32.ofNat y.toNat
    have : UInt32.ofNat y.toNat = y := UInt32.ofNat_toNat
    conv => lhs; rw [← this]
    rfl
  unfold sDraw
  rw [e]
  generalize (se.toUInt32 >>> (Int32.toUInt32 16 &&& Int32.toUInt32 31)).toNat = a at hy
  rw [pk_div (by omega) (by omega) (by omega), pk_mul]
  have hm : a / n * n ≤ a := Nat.div_mul_le_self a n
  rw [pk_sub hm]
  refine ⟨a - a / n * n, rfl, ?_⟩
  have := Nat.mod_lt a h0
  have h3 := Nat.mod_add_div a n
  rw [Nat.mul_comm] at h3
  omega
theorem dyP_n (h0 : 0 < n) (h1 : n < 2 ^ 16) : sDraw se (nI n) = nI (dyP se n) ∧ dyP se n < n := by
  obtain ⟨r, e, hr⟩ := sDraw_n (se := se) h0 h1
  unfold dyP
  rw [e, nI_clamp (by omega)]
  exact ⟨rfl, hr⟩
theorem dyK_key : kEy (dyK se) := by
  obtain ⟨r, e, hr⟩ := sDraw_n (n := 60) (se := sNext se) (by decide) (by decide)
  refine ⟨r + 1, ?_, by omega, by omega⟩
  unfold dyK
  rw [show (60 : Int32) = nI 60 from rfl, e, ← nI_succ r]
theorem dyI_ok (hT : tOk T) (hk : kEy k) (hw : tWhere T.2.1 T.1 k = none) (hp : p < T.1) (hn : T.1 < 40) : tOk (dyI k v p T) := by
  obtain ⟨n, K, B, D⟩ := T
  obtain ⟨hK, d, hd, h⟩ := id hT
  dsimp only at hK hd h hw hp hn
  have hg := tWhere_at hK hp rfl
  have hf : fitT (e7 2 k v (K p) 0 0 0) (n, K, B, D) = true := by
    rw [fitT_G rfl]
    show eFitG (e7 2 k v (K p) 0 0 0) n K D (tWhere K n k) (tWhere K n (K p)) = true
    rw [hw, hg]
    exact decide_eq_true ⟨rfl, show ¬ (0 : Int32) < 0 by decide, Int32.not_lt.mpr (nI_le (a := 0) (by omega) (by have := tKids_le (D := D) (n := n) (i := p); omega)), by omega⟩
  have z := perf_ok hT (e := e7 2 k v (K p) 0 0 0) ⟨hk, Or.inr (Or.inr (Or.inl rfl)), fun _ => hK.1 p hp, fun z => absurd z (by decide : ¬ (2 : Int32) = 3), (by decide : ¬ (0 : Int32) < 0), (by decide : ¬ (0 : Int32) < 0), fun z => absurd z (by decide : ¬ (2 : Int32) = 0), fun _ => ⟨rfl, rfl⟩, fun z => absurd z (by decide : ¬ (2 : Int32) = 3)⟩ hf
  have hf2 : eFitG (e7 2 k v (K p) 0 0 0) n K D (tWhere K n k) (some p) = true := by
    rw [fitT_G rfl] at hf
    rw [← hg]
    exact hf
  obtain ⟨pl, c, f1, f2, f3, f4, f5, f6⟩ := fitG_n hK hd h hp hf2
  have hpl : pl = 0 := by
    have : (0 : Int32) = nI pl := f2
    by_cases c0 : pl = 0
    · exact c0
    · have hkl := tKids_le (D := D) (n := n) (i := p)
      exact absurd this.symm (nI_ne0 (by omega) (by omega))
  subst hpl
  have hc : c = p + 1 := f5.symm
  subst hc
  have f4 : tSpot D n p 0 (-1) = p + 1 := f4
  have e1 : ePerf (e7 2 k v (K p) 0 0 0) (n, K, B, D) = dyI k v p (n, K, B, D) := by
    rw [ePerf_G rfl hg]
    show (n + 1, tI1 K n (tSpot D n p 0 (-1)) k, tI1 B n (tSpot D n p 0 (-1)) v, tI1 D n (tSpot D n p 0 (-1)) (D p + 1)) = _
    rw [f4]
    rfl
  rw [← e1]
  exact z
theorem dyC_ok (hT : tOk T) (hi : i < T.1) (h0 : i ≠ 0) (hk : tKids T.2.2.2 T.1 i = 0) : tOk (dyC i T) := by
  obtain ⟨n, K, B, D⟩ := T
  obtain ⟨hK, d, hd, h⟩ := id hT
  dsimp only at hK hd h hi hk
  have hw := tWhere_at hK hi rfl
  have hf : fitT (e7 1 (K i) (B i) (tPK K D i) (nI (tPlace D i)) 0 0) (n, K, B, D) = true := by
    rw [fitT_T rfl]
    show eFitT (e7 1 (K i) (B i) (tPK K D i) (nI (tPlace D i)) 0 0) n K B D (tWhere K n (K i)) = true
    rw [hw]
    exact decide_eq_true ⟨hk, rfl, rfl, rfl⟩
  have z := perf_ok hT (e := e7 1 (K i) (B i) (tPK K D i) (nI (tPlace D i)) 0 0) ⟨hK.1 i hi, Or.inr (Or.inl rfl), fun _ => tPK_key hT hi h0, fun z => absurd z (by decide : ¬ (1 : Int32) = 3), nI_pl hd hi hK.le, (by decide : ¬ (0 : Int32) < 0), fun z => absurd z (by decide : ¬ (1 : Int32) = 0), fun _ => ⟨rfl, rfl⟩, fun z => absurd z (by decide : ¬ (1 : Int32) = 3)⟩ hf
  have e1 : ePerf (e7 1 (K i) (B i) (tPK K D i) (nI (tPlace D i)) 0 0) (n, K, B, D) = dyC i (n, K, B, D) := by
    rw [ePerf_T rfl hw]
    rfl
  rw [← e1]
  exact z
theorem dyT_ok (hT : tOk X.1) : tOk (dyT X).1 := by
  have hp := hT.2
  obtain ⟨d, hd, h⟩ := hp
  have h0 := h.1
  unfold dyT
  cases hw : tWhere X.1.2.1 X.1.1 (dyK X.2) with
  | none =>
    dsimp only
    by_cases c : X.1.1 < 40
    · rw [if_pos c]
      exact dyI_ok hT dyK_key hw (dyP_n h0 (by omega)).2 c
    · rw [if_neg c]
      exact hT
  | some i =>
    dsimp only
    have hi := (tWhere_lt hw).1
    by_cases c : i ≠ 0 ∧ tKids X.1.2.2.2 X.1.1 i = 0
    · rw [if_pos c]
      split
      · exact dyC_ok hT hi c.1 c.2
      · exact ⟨hT.1, hT.2⟩
    · rw [if_neg c]
      exact ⟨hT.1, hT.2⟩
theorem dyT_congr (h : tEq U T) (hU : tOk U) : tEq (dyT (U, se)).1 (dyT (T, se)).1 ∧ (dyT (U, se)).2 = (dyT (T, se)).2 := by
  obtain ⟨n, K, B, D⟩ := U
  obtain ⟨n', K', B', D'⟩ := T
  obtain ⟨h1, h2⟩ := h
  obtain ⟨hK, d, hd, h5⟩ := hU
  dsimp only at h1 h2 hK hd h5
  subst h1
  have eK : ∀ j, j < n → K j = K' j := fun j hj => (h2 j hj).1
  have eB : ∀ j, j < n → B j = B' j := fun j hj => (h2 j hj).2.1
  have eD : ∀ j, j < n → D j = D' j := fun j hj => (h2 j hj).2.2
  have h0 := h5.1
  have h60 := hK.le
  unfold dyT
  dsimp only
  rw [tWhere_congr eK]
  cases hw : tWhere K' n (dyK se) with
  | none =>
    dsimp only
    by_cases c : n < 40
    · rw [if_pos c, if_pos c]
      refine ⟨⟨rfl, fun q hq => ?_⟩, rfl⟩
      obtain ⟨-, hp⟩ := dyP_n (se := sNext (sNext (sNext se))) h0 (by omega)
      have hq : q < n + 1 := hq
      have eDp := eD _ hp
      generalize dyP (sNext (sNext (sNext se))) n = p at hp eDp ⊢
      generalize 97 + sDraw (sNext (sNext se)) 26 = v
      show tI1 K n (p + 1) _ q = tI1 K' n (p + 1) _ q ∧ tI1 B n (p + 1) v q = tI1 B' n (p + 1) v q ∧ tI1 D n (p + 1) (D p + 1) q = tI1 D' n (p + 1) (D' p + 1) q
      rw [tI1_at (by omega), tI1_at (by omega), tI1_at (by omega), tI1_at (by omega), tI1_at (by omega), tI1_at (by omega), eDp]
      by_cases c1 : q < p + 1
      · rw [if_pos c1, if_pos c1, if_pos c1, if_pos c1, if_pos c1, if_pos c1]
        exact h2 q (by omega)
      · rw [if_neg c1, if_neg c1, if_neg c1, if_neg c1, if_neg c1, if_neg c1]
        by_cases c2 : q = p + 1
        · rw [if_pos c2, if_pos c2, if_pos c2, if_pos c2, if_pos c2, if_pos c2]
          exact ⟨rfl, rfl, rfl⟩
        · rw [if_neg c2, if_neg c2, if_neg c2, if_neg c2, if_neg c2, if_neg c2]
          exact h2 (q - 1) (by omega)
    · rw [if_neg c, if_neg c]
      exact ⟨⟨rfl, h2⟩, rfl⟩
  | some i =>
    dsimp only
    have hi := (tWhere_lt hw).1
    rw [cKids hd eD hi]
    have hr : ∀ w, tEq (dyR i w (n, K, B, D)) (dyR i w (n, K', B', D')) := fun w => ⟨rfl, fun q hq => ⟨eK q hq, by
      show upd B i w q = upd B' i w q
      unfold upd
      by_cases cq : q = i
      · rw [if_pos cq, if_pos cq]
      · rw [if_neg cq, if_neg cq]
        exact eB q hq, eD q hq⟩⟩
    by_cases c : i ≠ 0 ∧ tKids D' n i = 0
    · rw [if_pos c, if_pos c]
      split
      · refine ⟨⟨rfl, fun q hq => ?_⟩, rfl⟩
        have hq : q < n - 1 := hq
        show tO1 K n i q = tO1 K' n i q ∧ tO1 B n i q = tO1 B' n i q ∧ tO1 D n i q = tO1 D' n i q
        rw [tO1_at hq, tO1_at hq, tO1_at hq, tO1_at hq, tO1_at hq, tO1_at hq]
        by_cases c1 : q < i
        · rw [if_pos c1, if_pos c1, if_pos c1, if_pos c1, if_pos c1, if_pos c1]
          exact h2 q (by omega)
        · rw [if_neg c1, if_neg c1, if_neg c1, if_neg c1, if_neg c1, if_neg c1]
          exact h2 (q + 1) (by omega)
      · exact ⟨hr _, rfl⟩
    · rw [if_neg c, if_neg c]
      exact ⟨hr _, rfl⟩
end DAYS

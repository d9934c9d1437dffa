/-! difference: what holds while the children are brought, and while the others are taken -/
section DIFFC
variable {T U W : tT} {X : dfX} {i j k p c q a n A p' c' : Nat} {ah : Option Nat} {S : Nat → Bool} {e : Nat → Int32}
theorem tPar_lt (hU : tOk U) (ha : a < U.1) (h : tPar U.2.2.2 a = some p) : p < a := by
  obtain ⟨hK, d, hd, h5⟩ := hU
  rw [nPar_of hd ha] at h
  exact (nPar_some h).1
theorem tPar_ex (hU : tOk U) (ha : a < U.1) (h0 : 0 < a) : ∃ p, tPar U.2.2.2 a = some p ∧ p < a := by
  obtain ⟨hK, d, hd, h5⟩ := hU
  obtain ⟨p, e1, e2, -⟩ := h5.par ha h0
  exact ⟨p, by rw [nPar_of hd ha]; exact e1, e2⟩
theorem tPar_end (hU : tOk U) (ha : a < U.1) (h : tPar U.2.2.2 a = some p) : a < tEnd U.2.2.2 U.1 p := by
  have hp := tPar_lt hU ha h
  obtain ⟨hK, d, hd, h5⟩ := hU
  rw [nPar_of hd ha] at h
  rw [nEnd_of hd (by omega)]
  exact par_in ha h
/-- a parent's key that isn't 0: the parent -/
theorem par_of_key (hW : tOk W) {i g : Nat} (hi : i < W.1) (hg : g < W.1) (hk : tPK W.2.1 W.2.2.2 i = W.2.1 g) : tPar W.2.2.2 i = some g := by
  obtain ⟨hK, d, hd, h5⟩ := hW
  rw [nPar_of hd hi]
  rw [tPK_n hd hi] at hk
  cases w : nPar d i with
  | none =>
    rw [w] at hk
    exact absurd hk.symm (nI_kne (hK.1 g hg))
  | some q =>
    rw [w] at hk
    rw [hK.inj (by have := (nPar_some w).1; omega) hg hk]
/-- the root is where it was -/
theorem root_at (hW : tOk W) {x : Int32} (h : vP W x = some 0) : 0 < W.1 ∧ W.2.1 0 = x := by
  obtain ⟨i, e1, e2, e3, e4⟩ := vP_some h
  by_cases c : i = 0
  · rw [c] at e2 e3
    exact ⟨e2, e3⟩
  · obtain ⟨n, K, B, D⟩ := W
    exact absurd e4 (nI_kne (tPK_key hW e2 c))
theorem bAt_le (hW : tOk W) {o : Option Nat} (ho : ∀ a, o = some a → a < W.1) : bAt W.2.2.2 o ≤ 60 := by
  have h60 := hW.1.le
  obtain ⟨hK, d, hd, h5⟩ := hW
  cases o with
  | none => exact Nat.zero_le _
  | some a =>
    have ha := ho a rfl
    show tPlace W.2.2.2 a + 1 ≤ 60
    rw [nPlace_of hd ha]
    have := nPlace_le (d := d) ha
    omega
theorem dC_par (hU : tOk U) (h : dC T U p c A X) (hp : p < U.1) : ∃ g, tWhere X.1.2.1 X.1.1 (U.2.1 p) = some g ∧ g < X.1.1 ∧ X.1.2.1 g = U.2.1 p := by
  obtain ⟨h1, h2, h3, h4, h5, h6⟩ := h
  by_cases c0 : p = 0
  · subst c0
    obtain ⟨i, e1, e2, e3, -⟩ := vP_some h3
    exact ⟨i, e1, e2, e3⟩
  · obtain ⟨q, q1, q2⟩ := tPar_ex hU hp (by omega)
    obtain ⟨i, e1, e2, e3, -⟩ := vP_some (h4 p q hp q1 (Or.inl q2))
    exact ⟨i, e1, e2, e3⟩
/-- the one ahead stands among the children -/
theorem dC_ah (hU : tOk U) (h : dC T U p c A X) (hp : p < U.1) (hc : c ≤ U.1) (hah : dH U p c ah) {g : Nat} (hg : tWhere X.1.2.1 X.1.1 (U.2.1 p) = some g) {a : Nat} (ha : dfA U X.1 ah = some a) : a < X.1.1 ∧ tPar X.1.2.2.2 a = some g ∧ ∃ x, x < c ∧ X.1.2.1 a = U.2.1 x := by
  cases ah with
  | none => cases ha
  | some x =>
    obtain ⟨x1, x2⟩ := hah x rfl
    have ha : tWhere X.1.2.1 X.1.1 (U.2.1 x) = some a := ha
    obtain ⟨i, e1, e2, e3, e4⟩ := vP_some (h.2.2.2.1 x p (by omega) x2 (Or.inr ⟨rfl, x1⟩))
    rw [ha] at e1
    cases e1
    have := tWhere_lt hg
    exact ⟨e2, par_of_key h.1.1 e2 this.1 (by rw [e4, this.2]), x, x1, e3⟩
theorem dC_fit (hU : tOk U) (h : dC T U p c A X) (hah : dH U p c ah) (hc : c < U.1) (hpc : tPar U.2.2.2 c = some p) : eOk (dfB U X.1 p c ah) ∧ fitT (dfB U X.1 p c ah) X.1 = true ∧ ∀ k, vP (ePerf (dfB U X.1 p c ah) X.1) k = if k = U.2.1 c then some (U.2.1 p) else vP X.1 k := by
  have hplt := tPar_lt hU hc hpc
  have hp : p < U.1 := by omega
  obtain ⟨g, g1, g2, g3⟩ := dC_par hU h hp
  have hA := fun a ha => dC_ah hU h hp (by omega) hah g1 (a := a) ha
  have hb := bAt_le h.1.1 (o := dfA U X.1 ah) (fun a ha => (hA a ha).1)
  have kp := key_of hU hp
  have kc := key_of hU hc
  obtain ⟨h1, h2, h3, h4, h5, h6⟩ := h
  have hW := h1.1
  have h60 := hW.1.le
  unfold dfB
  cases hw : tWhere X.1.2.1 X.1.1 (U.2.1 c) with
  | none =>
    dsimp only
    have ek : eOk (e7 2 (U.2.1 c) (U.2.2.1 c) (U.2.1 p) (nI (bAt X.1.2.2.2 (dfA U X.1 ah))) 0 0) := ⟨kc, Or.inr (Or.inr (Or.inl rfl)), fun _ => kp, fun z => absurd z (by decide : ¬ (2 : Int32) = 3), nI_pos (by omega), (by decide : ¬ (0 : Int32) < 0), fun z => absurd z (by decide : ¬ (2 : Int32) = 0), fun _ => ⟨rfl, rfl⟩, fun z => absurd z (by decide : ¬ (2 : Int32) = 3)⟩
    have hf : fitT (e7 2 (U.2.1 c) (U.2.2.1 c) (U.2.1 p) (nI (bAt X.1.2.2.2 (dfA U X.1 ah))) 0 0) X.1 = true := brG_fits (n := X.1.1) (K := X.1.2.1) (B := X.1.2.2.1) (D := X.1.2.2.2) (g := g) (o := dfA U X.1 ah) hW (by omega) rfl hw g1 (fun a ha => ⟨(hA a ha).1, (hA a ha).2.1⟩) rfl
    exact ⟨ek, hf, fun k => vP_G hW ek hf rfl⟩
  | some i =>
    dsimp only
    have hi := tWhere_lt hw
    rw [g1]
    have i0 : i ≠ 0 := by
      intro z
      have r := (root_at hW h3).2
      rw [z, r] at hi
      have := hU.1.inj (i := 0) (j := c) (by omega) hc hi.2
      omega
    have hbl : bAt X.1.2.2.2 (dfA U X.1 ah) - bLs X.1.2.2.2 i (some g) (dfA U X.1 ah) ≤ 60 := by omega
    obtain ⟨hK, d, hd, h5'⟩ := id hW
    have hpk : kEy (tPK X.1.2.1 X.1.2.2.2 i) := tPK_key (n := X.1.1) (B := X.1.2.2.1) hW hi.1 i0
    have ek : eOk (e7 3 (U.2.1 c) 0 (tPK X.1.2.1 X.1.2.2.2 i) (nI (tPlace X.1.2.2.2 i)) (U.2.1 p) (nI (bAt X.1.2.2.2 (dfA U X.1 ah) - bLs X.1.2.2.2 i (some g) (dfA U X.1 ah)))) := ⟨kc, Or.inr (Or.inr (Or.inr rfl)), fun _ => hpk, fun _ => kp, nI_pl hd hi.1 h60, nI_pos (by omega), fun z => absurd z (by decide : ¬ (3 : Int32) = 0), fun z => z.elim (fun z => absurd z (by decide : ¬ (3 : Int32) = 1)) (fun z => absurd z (by decide : ¬ (3 : Int32) = 2)), fun _ => rfl⟩
    have hgi : ¬ (i ≤ g ∧ g < tEnd X.1.2.2.2 X.1.1 i) := by
      rintro ⟨z1, z2⟩
      rw [nEnd_of hd hi.1] at z2
      refine below_chain h5' hi.1 (P := fun q => ∃ a, a ≤ p ∧ X.1.2.1 q = U.2.1 a) (fun q p' hq hP hpar => ?_) (fun hP => ?_) g g (Nat.le_refl g) g2 z1 z2 ⟨p, Nat.le_refl p, g3⟩
      · obtain ⟨a, a1, a2⟩ := hP
        have v1 : vP X.1 (X.1.2.1 q) = some (X.1.2.1 p') := (vP_at (n := X.1.1) (B := X.1.2.2.1) hK hq).trans (by rw [tPK_some hd hq hpar])
        have hp' : p' < X.1.1 := by have := (nPar_some hpar).1; omega
        rw [a2] at v1
        by_cases a0 : a = 0
        · rw [a0, h3] at v1
          injection v1 with v1
          exact absurd v1.symm (nI_kne (hK.1 p' hp'))
        · obtain ⟨q', q1, q2⟩ := tPar_ex hU (show a < U.1 by omega) (by omega)
          rw [h4 a q' (by omega) q1 (Or.inl (by omega))] at v1
          injection v1 with v1
          exact ⟨q', by omega, v1.symm⟩
      · obtain ⟨a, a1, a2⟩ := hP
        rw [hi.2] at a2
        have := hU.1.inj hc (by omega) a2
        omega
    have hf : fitT (e7 3 (U.2.1 c) 0 (tPK X.1.2.1 X.1.2.2.2 i) (nI (tPlace X.1.2.2.2 i)) (U.2.1 p) (nI (bAt X.1.2.2.2 (dfA U X.1 ah) - bLs X.1.2.2.2 i (some g) (dfA U X.1 ah)))) X.1 = true := brM_fits (n := X.1.1) (K := X.1.2.1) (B := X.1.2.2.1) (D := X.1.2.2.2) (g := g) (i := i) (o := dfA U X.1 ah) hW rfl hw (by omega) g1 hgi (fun a ha => ⟨(hA a ha).1, fun z => by
      obtain ⟨x, x1, x2⟩ := (hA a ha).2.2
      rw [z, hi.2] at x2
      have := hU.1.inj hc (by omega) x2
      omega, (hA a ha).2.1⟩) rfl rfl rfl
    exact ⟨ek, hf, fun k => vP_M hW hf (by decide : ¬ (3 : Int32) = 0) (by decide : ¬ (3 : Int32) = 1) (by decide : ¬ (3 : Int32) = 2)⟩
-- counting those done
theorem nCt_one {P Q : Nat → Bool} {n c : Nat} (hc : c < n) (hP : P c = false) (hQ : Q c = true) (h : ∀ j, j < n → j ≠ c → Q j = P j) : nCt Q 0 n = nCt P 0 n + 1 := by
  have e : n = c + (1 + (n - (c + 1))) := by omega
  rw [e, nCt_add, nCt_add, nCt_add, nCt_add, Nat.zero_add]
  have k1 : nCt P c 1 = 0 := by
    show (if P c = true then 1 else 0) + 0 = 0
    rw [hP]
    rfl
  have k2 : nCt Q c 1 = 1 := by
    show (if Q c = true then 1 else 0) + 0 = 1
    rw [hQ]
    rfl
  rw [k1, k2, nCt_sh (P := Q) (P' := P) (a := 0) (b := 0) c (fun j hj => by rw [Nat.zero_add]; exact h j (by omega) (by omega)), nCt_sh (P := Q) (P' := P) (a := c + 1) (b := c + 1) (n - (c + 1)) (fun j hj => h _ (by omega) (by omega))]
  omega
theorem nCt_same {P Q : Nat → Bool} {n : Nat} (h : ∀ j, j < n → Q j = P j) : nCt Q 0 n = nCt P 0 n := nCt_sh (P := Q) (P' := P) (a := 0) (b := 0) n (fun j hj => by rw [Nat.zero_add]; exact h j hj)
theorem dDb_ex (hU : tOk U) (ha : a < U.1) : dDb U p c a = true ↔ ∃ q, tPar U.2.2.2 a = some q ∧ (q < p ∨ (q = p ∧ a < c)) := by
  unfold dDb
  cases w : tPar U.2.2.2 a with
  | none => exact ⟨fun z => (by cases z), fun ⟨q, q1, q2⟩ => (by cases q1)⟩
  | some q => exact ⟨fun z => ⟨q, rfl, of_decide_eq_true z⟩, fun ⟨q', q1, q2⟩ => by cases q1; exact decide_eq_true q2⟩
/-- the same are done -/
theorem dC_mono (hU : tOk U) (h : dC T U p c A X) (hz : ∀ a q, a < U.1 → tPar U.2.2.2 a = some q → ((q < p ∨ (q = p ∧ a < c)) ↔ (q < p' ∨ (q = p' ∧ a < c')))) : dC T U p' c' A X := by
  have e : ∀ a, a < U.1 → dDb U p' c' a = dDb U p c a := by
    intro a ha
    refine Bool.eq_iff_iff.mpr ?_
    rw [dDb_ex hU ha, dDb_ex hU ha]
    exact ⟨fun ⟨q, q1, q2⟩ => ⟨q, q1, (hz a q ha q1).mpr q2⟩, fun ⟨q, q1, q2⟩ => ⟨q, q1, (hz a q ha q1).mp q2⟩⟩
  obtain ⟨h1, h2, h3, h4, h5, h6⟩ := h
  refine ⟨h1, by rw [nCt_same e]; exact h2, h3, fun a q ha hq hd => h4 a q ha hq ((hz a q ha hq).mpr hd), h5, fun a ha hd => h6 a ha (by rw [← e a ha]; exact hd)⟩
theorem dC_skip (hU : tOk U) (h : dC T U p c A X) (hpc : tPar U.2.2.2 c ≠ some p) : dC T U p (c + 1) A X := by
  refine dC_mono hU h (fun a q ha hq => ?_)
  constructor
  · rintro (z | ⟨z1, z2⟩)
    · exact Or.inl z
    · exact Or.inr ⟨z1, by omega⟩
  · rintro (z | ⟨z1, z2⟩)
    · exact Or.inl z
    · refine Or.inr ⟨z1, ?_⟩
      rcases Nat.lt_or_ge a c with w | w
      · exact w
      · have : a = c := by omega
        rw [this, z1] at hq
        exact absurd hq hpc
/-- a child that stays -/
theorem dC_stay (hU : tOk U) (h : dC T U p c A X) (hc : c < U.1) (hpc : tPar U.2.2.2 c = some p) (hv : vP X.1 (U.2.1 c) = some (U.2.1 p)) : dC T U p (c + 1) A X := by
  obtain ⟨h1, h2, h3, h4, h5, h6⟩ := h
  have one : nCt (dDb U p (c + 1)) 0 U.1 = nCt (dDb U p c) 0 U.1 + 1 := by
    refine nCt_one hc ?_ ?_ (fun j hj hjc => Bool.eq_iff_iff.mpr ?_)
    · rw [dDb_f hpc]
      exact decide_eq_false (by omega)
    · rw [dDb_f hpc]
      exact decide_eq_true (by omega)
    · rw [dDb_ex hU hj, dDb_ex hU hj]
      exact ⟨fun ⟨q, q1, q2⟩ => ⟨q, q1, by omega⟩, fun ⟨q, q1, q2⟩ => ⟨q, q1, by omega⟩⟩
  refine ⟨h1, by omega, h3, fun a q ha hq hd => ?_, h5, fun a ha hd => h6 a ha ?_⟩
  · by_cases ac : a = c
    · rw [ac] at hq ⊢
      rw [hpc] at hq
      cases hq
      exact hv
    · exact h4 a q ha hq (by omega)
  · cases z : dDb U p c a with
    | false => rfl
    | true =>
      exfalso
      obtain ⟨q, q1, q2⟩ := (dDb_ex hU ha).mp z
      have : dDb U p (c + 1) a = true := (dDb_ex hU ha).mpr ⟨q, q1, by omega⟩
      rw [this] at hd
      cases hd
/-- a child that is brought -/
theorem dC_bring (hU : tOk U) (h : dC T U p c A X) (hah : dH U p c ah) (hc : c < U.1) (hpc : tPar U.2.2.2 c = some p) : dC T U p (c + 1) A (dfE (dfB U X.1 p c ah) X) := by
  obtain ⟨f1, f2, f3⟩ := dC_fit hU h hah hc hpc
  have hplt := tPar_lt hU hc hpc
  obtain ⟨h1, h2, h3, h4, h5, h6⟩ := h
  have kne : ∀ a, a < U.1 → a ≠ c → U.2.1 a ≠ U.2.1 c := fun a ha hne z => hne (hU.1.inj ha hc z)
  have one : nCt (dDb U p (c + 1)) 0 U.1 = nCt (dDb U p c) 0 U.1 + 1 := by
    refine nCt_one hc ?_ ?_ (fun j hj hjc => Bool.eq_iff_iff.mpr ?_)
    · rw [dDb_f hpc]
      exact decide_eq_false (by omega)
    · rw [dDb_f hpc]
      exact decide_eq_true (by omega)
    · rw [dDb_ex hU hj, dDb_ex hU hj]
      exact ⟨fun ⟨q, q1, q2⟩ => ⟨q, q1, by omega⟩, fun ⟨q, q1, q2⟩ => ⟨q, q1, by omega⟩⟩
  have v : ∀ k, vP (dfE (dfB U X.1 p c ah) X).1 k = if k = U.2.1 c then some (U.2.1 p) else vP X.1 k := f3
  refine ⟨dfE_I h1 f1 f2, by show X.2.1 + 1 ≤ _; omega, ?_, fun a q ha hq hd => ?_, fun k hk => ?_, fun a ha hd => ?_⟩
  · rw [v, if_neg (kne 0 (by omega) (by omega))]
    exact h3
  · by_cases ac : a = c
    · rw [ac] at hq ⊢
      rw [hpc] at hq
      cases hq
      rw [v, if_pos rfl]
    · rw [v, if_neg (kne a ha ac)]
      exact h4 a q ha hq (by omega)
  · rw [v, if_neg (fun z => hk ⟨c, hc, z.symm⟩)]
    exact h5 k hk
  · have ac : a ≠ c := by
      intro z
      have : dDb U p (c + 1) a = true := (dDb_ex hU ha).mpr ⟨p, by rw [z]; exact hpc, by omega⟩
      rw [this] at hd
      cases hd
    rw [v, if_neg (kne a ha ac)]
    refine h6 a ha ?_
    cases z : dDb U p c a with
    | false => rfl
    | true =>
      exfalso
      obtain ⟨q, q1, q2⟩ := (dDb_ex hU ha).mp z
      have : dDb U p (c + 1) a = true := (dDb_ex hU ha).mpr ⟨q, q1, by omega⟩
      rw [this] at hd
      cases hd
theorem dV_bring (hU : tOk U) (h : dC T U p c A X) (hah : dH U p c ah) (hc : c < U.1) (hpc : tPar U.2.2.2 c = some p) (hV : dV U S p c X) : dV U S p (c + 1) (dfE (dfB U X.1 p c ah) X) := by
  obtain ⟨f1, f2, f3⟩ := dC_fit hU h hah hc hpc
  intro a h1 h2 h3 h4
  have v : vP (dfE (dfB U X.1 p c ah) X).1 (U.2.1 a) = if U.2.1 a = U.2.1 c then some (U.2.1 p) else vP X.1 (U.2.1 a) := f3 _
  rw [v, if_neg (fun z => by have := hU.1.inj h2 hc z; omega)]
  exact hV a (by omega) h2 h3 h4
theorem dV_s (hV : dV U S p c X) : dV U S p (c + 1) X := fun a h1 => hV a (by omega)
/-- one child, whatever comes of it -/
theorem dC_child (hU : tOk U) (h : dC T U p c A X) (hah : dH U p c ah) (hc : c < U.1) (hpc : tPar U.2.2.2 c = some p) (hV : dV U S p c X) : dC T U p (c + 1) A (dfC1 U S p c ah X) ∧ dV U S p (c + 1) (dfC1 U S p c ah X) ∧ dH U p (c + 1) (some c) := by
  refine ⟨?_, ?_, fun x hx => by cases hx; exact ⟨Nat.lt_succ_self c, hpc⟩⟩
  · unfold dfC1
    by_cases s : S c = true
    · rw [if_pos s]
      exact dC_stay hU h hc hpc (hV c (Nat.le_refl c) hc hpc s)
    · rw [if_neg s]
      exact dC_bring hU h hah hc hpc
  · unfold dfC1
    by_cases s : S c = true
    · rw [if_pos s]
      exact dV_s hV
    · rw [if_neg s]
      exact dV_bring hU h hah hc hpc hV
theorem dH_s (h : dH U p c ah) : dH U p (c + 1) ah := fun x hx => ⟨by have := (h x hx).1; omega, (h x hx).2⟩
/-- within all below p: a child is one a step deeper -/
theorem child_iff (hU : tOk U) (hp : p < U.1) (h1 : p < c) (h2 : c < tEnd U.2.2.2 U.1 p) : U.2.2.2 c = U.2.2.2 p + 1 ↔ tPar U.2.2.2 c = some p := by
  obtain ⟨hK, d, hd, h5⟩ := hU
  rw [nEnd_of hd hp] at h2
  have hE := nEnd_spec (d := d) hp
  have hc : c < U.1 := by omega
  rw [nPar_of hd hc, (hd c hc).1, (hd p hp).1, nI_s1 (hd c hc).2 (hd p hp).2]
  constructor
  · intro z
    exact par_of h5 hp h1 h2 z
  · intro z
    obtain ⟨q, q1, q2, q3, -⟩ := h5.par hc (by omega)
    rw [z] at q1
    cases q1
    exact q3
theorem dC_run (hU : tOk U) (hp : p < U.1) : ∀ k c ah X, c + k = tEnd U.2.2.2 U.1 p → p < c → dC T U p c A X → dH U p c ah → dV U S p c X → dC T U p (tEnd U.2.2.2 U.1 p) A (dfC U S p k c ah X) := by
  have hE := (tEnd_gt (D := U.2.2.2) hp).2
  intro k
  induction k with
  | zero =>
    intro c ah X hc hpc h _ _
    rw [← hc]
    exact h
  | succ k ih =>
    intro c ah X hc hpc h hah hV
    have hi := child_iff hU hp hpc (show c < tEnd U.2.2.2 U.1 p by omega)
    unfold dfC
    by_cases z : U.2.2.2 c = U.2.2.2 p + 1
    · rw [if_pos z]
      obtain ⟨g1, g2, g3⟩ := dC_child hU h hah (by omega) (hi.mp z) hV
      exact ih (c + 1) _ _ (by omega) (by omega) g1 g3 g2
    · rw [if_neg z]
      exact ih (c + 1) _ _ (by omega) (by omega) (dC_skip hU h (fun w => z (hi.mpr w))) (dH_s hah) (dV_s hV)
/-- those that stay are children of p's -/
theorem dfS_in (h : dfS U X.1 p a = true) : dfO U X.1 p a := by
  obtain ⟨S, s1, s2⟩ := @of_decide_eq_true _ (Classical.propDecidable _) h
  exact pkS_in s1 a s2
theorem dV_0 (hX : tOk X.1) : dV U (dfS U X.1 p) p c X := by
  intro a h1 h2 h3 h4
  obtain ⟨o1, o2, i, g, o3, o4, o5⟩ := dfS_in h4
  have hi := tWhere_lt o3
  have hg := tWhere_lt o4
  obtain ⟨hK, d, hd, h5⟩ := hX
  rw [nPar_of hd hi.1] at o5
  rw [← hi.2, ← hg.2]
  exact (vP_at (n := X.1.1) (B := X.1.2.2.1) hK hi.1).trans (by rw [tPK_some hd hi.1 o5])
theorem dP_step (hU : tOk U) (hp : p < U.1) (h : dC T U p (p + 1) A X) : dC T U (p + 1) (p + 2) A (dfP1 U p X) := by
  have hE := tEnd_gt (D := U.2.2.2) hp
  refine dC_mono hU (dC_run hU hp (tEnd U.2.2.2 U.1 p - (p + 1)) (p + 1) none X (by omega) (by omega) h (fun x hx => by cases hx) (dV_0 h.1.1)) (fun a q ha hq => ?_)
  have hl := tPar_lt hU ha hq
  constructor
  · rintro (z | ⟨z1, z2⟩)
    · exact Or.inl (by omega)
    · exact Or.inl (by omega)
  · rintro (z | ⟨z1, z2⟩)
    · rcases Nat.lt_or_ge q p with w | w
      · exact Or.inl w
      · have : q = p := by omega
        rw [this] at hq
        exact Or.inr ⟨this, tPar_end hU ha hq⟩
    · omega
theorem dP_0 (hU : tOk U) (h : dC T U 0 0 A X) : dC T U 0 1 A X := dC_mono hU h (fun a q ha hq => by
  have := tPar_lt hU ha hq
  omega)
theorem dP_run (hU : tOk U) : ∀ k p X, p + k = U.1 → dC T U p (p + 1) A X → dC T U U.1 (U.1 + 1) A (dfP U k p X) := by
  intro k
  induction k with
  | zero =>
    intro p X hp h
    obtain rfl : p = U.1 := by omega
    exact h
  | succ k ih =>
    intro p X hp h
    exact ih (p + 1) _ (by omega) (dP_step hU (by omega) h)
-- TAKEs
theorem dK_0 (hU : tOk U) (h : dC T U U.1 (U.1 + 1) A X) : dK T U T.1 (A + nCt (dDb U U.1 (U.1 + 1)) 0 U.1) X := by
  obtain ⟨h1, h2, h3, h4, h5, h6⟩ := h
  refine ⟨h1, by omega, h3, fun a q ha hq => h4 a q ha hq (Or.inl ?_), fun k hk => Or.inl (h5 k hk), fun j hj hn => ⟨fun _ => h5 _ hn, fun z => by omega⟩⟩
  have := tPar_lt hU ha hq
  omega
theorem dK_at (hT : tOk T) (h : dK T U (i + 1) A X) (hi : i < T.1) (hn : ¬ inT U (T.2.1 i)) : ∃ j, tWhere X.1.2.1 X.1.1 (T.2.1 i) = some j := by
  have := (h.2.2.2.2.2 i hi hn).1 (Nat.lt_succ_self i)
  obtain ⟨n, K, B, D⟩ := T
  rw [vP_at (n := n) (B := B) hT.1 hi] at this
  obtain ⟨j, e1, -⟩ := vP_some this
  exact ⟨j, e1⟩
theorem dK_fit (hT : tOk T) (hU : tOk U) (h : dK T U (i + 1) A X) (hi : i < T.1) (hn : ¬ inT U (T.2.1 i)) (hj : tWhere X.1.2.1 X.1.1 (T.2.1 i) = some j) : eOk (dfT T X.1 i j) ∧ fitT (dfT T X.1 i j) X.1 = true ∧ ∀ k, vP (ePerf (dfT T X.1 i j) X.1) k = if k = T.2.1 i then none else vP X.1 k := by
  obtain ⟨h1, h2, h3, h4, h5, h6⟩ := h
  have hW := h1.1
  have h60 := hW.1.le
  have hjj := tWhere_lt hj
  have ki := hT.1.1 i hi
  have r := root_at hW h3
  have j0 : j ≠ 0 := by
    intro z
    rw [z, r.2] at hjj
    exact hn ⟨0, hU.2.choose_spec.2.1, hjj.2⟩
  obtain ⟨hK, d, hd, h5'⟩ := id hW
  have hpk : kEy (tPK X.1.2.1 X.1.2.2.2 j) := tPK_key (n := X.1.1) (B := X.1.2.2.1) hW hjj.1 j0
  have ek : eOk (dfT T X.1 i j) := ⟨ki, Or.inr (Or.inl rfl), fun _ => hpk, fun z => absurd z (by decide : ¬ (1 : Int32) = 3), nI_pl hd hjj.1 h60, (by decide : ¬ (0 : Int32) < 0), fun z => absurd z (by decide : ¬ (1 : Int32) = 0), fun _ => ⟨rfl, rfl⟩, fun z => absurd z (by decide : ¬ (1 : Int32) = 3)⟩
  have hl : ∀ q, q < X.1.1 → tPar X.1.2.2.2 q ≠ some j := by
    intro q hq z
    rw [nPar_of hd hq] at z
    have v1 : vP X.1 (X.1.2.1 q) = some (T.2.1 i) := (vP_at (n := X.1.1) (B := X.1.2.2.1) hK hq).trans (by rw [tPK_some hd hq z, hjj.2])
    by_cases cq : inT U (X.1.2.1 q)
    · obtain ⟨a, a1, a2⟩ := cq
      rw [← a2] at v1
      by_cases a0 : a = 0
      · rw [a0, h3] at v1
        injection v1 with v1
        exact nI_kne ki v1.symm
      · obtain ⟨q', q1, q2⟩ := tPar_ex hU a1 (by omega)
        rw [h4 a q' a1 q1] at v1
        injection v1 with v1
        exact hn ⟨q', by omega, v1⟩
    · have v2 : vP T (X.1.2.1 q) = some (T.2.1 i) := by
        rcases h5 _ cq with y | y
        · rw [← y]
          exact v1
        · rw [y] at v1
          cases v1
      obtain ⟨j', e1, e2, e3, e4⟩ := vP_some v2
      have pj := par_of_key hT e2 hi e4
      have lt := tPar_lt hT e2 pj
      have := (h6 j' e2 (by rw [e3]; exact cq)).2 (by omega)
      rw [e3, v1] at this
      cases this
  have hf : fitT (dfT T X.1 i j) X.1 = true := tkT_fits (n := X.1.1) (K := X.1.2.1) (B := X.1.2.2.1) (D := X.1.2.2.2) (i := j) hW rfl hj hl rfl rfl rfl
  exact ⟨ek, hf, fun k => vP_T hW ek hf rfl⟩
theorem dK_step (hT : tOk T) (hU : tOk U) (h : dK T U (i + 1) A X) (hi : i < T.1) : dK T U i A (dfK1 T U i X) := by
  have hc : nCt (dfM T U) i (T.1 - i) = (if dfM T U i = true then 1 else 0) + nCt (dfM T U) (i + 1) (T.1 - (i + 1)) := by
    rw [show T.1 - i = (T.1 - (i + 1)) + 1 by omega]
    rfl
  have hd := fun hn j => dK_fit hT hU (j := j) h hi hn
  have hat := fun hn => dK_at hT h hi hn
  obtain ⟨h1, h2, h3, h4, h5, h6⟩ := h
  unfold dfK1
  cases w : tWhere U.2.1 U.1 (T.2.1 i) with
  | some a =>
    have hin : inT U (T.2.1 i) := ⟨a, tWhere_lt w⟩
    refine ⟨h1, by show X.2.1 ≤ _; omega, h3, h4, h5, fun j hj hn => ⟨fun z => (h6 j hj hn).1 (by omega), fun z => ?_⟩⟩
    by_cases ji : j = i
    · rw [ji] at hn
      exact absurd hin hn
    · exact (h6 j hj hn).2 (by omega)
  | none =>
    dsimp only
    have hn : ¬ inT U (T.2.1 i) := by
      rintro ⟨a, a1, a2⟩
      exact tWhere_none w a1 a2
    obtain ⟨j, hj⟩ := hat hn
    rw [hj]
    dsimp only
    obtain ⟨f1, f2, f3⟩ := hd hn j hj
    have v : ∀ k, vP (dfE (dfT T X.1 i j) X).1 k = if k = T.2.1 i then none else vP X.1 k := f3
    have hm : dfM T U i = true := by
      unfold dfM dfU
      rw [w]
      rfl
    rw [if_pos hm] at hc
    have kne : ∀ a, a < U.1 → U.2.1 a ≠ T.2.1 i := fun a ha z => hn ⟨a, ha, z⟩
    refine ⟨dfE_I h1 f1 f2, by show X.2.1 + 1 ≤ _; omega, ?_, fun a q ha hq => ?_, fun k hk => ?_, fun j' hj' hn' => ⟨fun z => ?_, fun z => ?_⟩⟩
    · rw [v, if_neg (kne 0 hU.2.choose_spec.2.1)]
      exact h3
    · rw [v, if_neg (kne a ha)]
      exact h4 a q ha hq
    · rw [v]
      by_cases ck : k = T.2.1 i
      · rw [if_pos ck]
        exact Or.inr rfl
      · rw [if_neg ck]
        exact h5 k hk
    · rw [v, if_neg (fun y => by have := hT.1.inj hj' hi y; omega)]
      exact (h6 j' hj' hn').1 (by omega)
    · rw [v]
      by_cases ji : j' = i
      · rw [if_pos (by rw [ji])]
      · rw [if_neg (fun y => ji (hT.1.inj hj' hi y))]
        exact (h6 j' hj' hn').2 (by omega)
theorem dK_run (hT : tOk T) (hU : tOk U) : ∀ k X, k ≤ T.1 → dK T U k A X → dK T U 0 A (dfK T U k X) := by
  intro k
  induction k with
  | zero => intro X _ h; exact h
  | succ k ih =>
    intro X hk h
    exact ih _ (by omega) (dK_step hT hU h (by omega))
-- how many they are
theorem cnt_all (m : Nat) : ∀ i, nCt (dfU T U) i m + nCt (dfM T U) i m = m := by
  induction m with
  | zero => intro i; rfl
  | succ m ih =>
    intro i
    have := ih (i + 1)
    show (if dfU T U i = true then 1 else 0) + nCt (dfU T U) (i + 1) m + ((if dfM T U i = true then 1 else 0) + nCt (dfM T U) (i + 1) m) = m + 1
    unfold dfM at this ⊢
    cases dfU T U i with
    | true =>
      rw [if_pos rfl, if_neg (by decide)]
      omega
    | false =>
      rw [if_neg (by decide), if_pos (by decide)]
      omega
theorem dN_le (hT : tOk T) (h : dN T U i X) (hi : i ≤ T.1) : X.2.1 ≤ 60 := by
  have := hT.1.le
  have := nCt_le (P := dfU T U) i 0
  have := h.2.1
  omega
abbrev dfA0 (T U : tT) : Nat := nCt (dfU T U) 0 T.1
theorem dC_le (hT : tOk T) (hU : tOk U) (h : dC T U p c (dfA0 T U) X) : X.2.1 ≤ 120 := by
  have := hT.1.le
  have := hU.1.le
  have := nCt_le (P := dfU T U) T.1 0
  have := nCt_le (P := dDb U p c) U.1 0
  have : X.2.1 ≤ nCt (dfU T U) 0 T.1 + nCt (dDb U p c) 0 U.1 := h.2.1
  omega
abbrev dfA1 (T U : tT) : Nat := dfA0 T U + nCt (dDb U U.1 (U.1 + 1)) 0 U.1
theorem dK_le (hT : tOk T) (hU : tOk U) (h : dK T U i (dfA1 T U) X) (hi : i ≤ T.1) : X.2.1 ≤ 120 := by
  have := hT.1.le
  have := hU.1.le
  have := cnt_all (T := T) (U := U) T.1 0
  have := nCt_le (P := dDb U U.1 (U.1 + 1)) U.1 0
  have e := nCt_add (P := dfM T U) i 0 (T.1 - i)
  rw [show i + (T.1 - i) = T.1 by omega, Nat.zero_add] at e
  have : X.2.1 ≤ nCt (dfU T U) 0 T.1 + nCt (dDb U U.1 (U.1 + 1)) 0 U.1 + nCt (dfM T U) i (T.1 - i) := h.2.1
  omega
theorem dfR_ok (hT : tOk T) (hU : tOk U) (hr : T.2.1 0 = U.2.1 0) : dfI (dfR T U) ∧ (dfR T U).2.1 ≤ 120 := by
  have h1 := dN_run (U := U) hT T.1 0 _ (Nat.zero_add _) (dN_0 hT)
  have h2 := dP_run hU U.1 0 _ (Nat.zero_add _) (dP_0 hU (dC_0 hT hU hr h1))
  have h3 := dK_run hT hU T.1 _ (Nat.le_refl _) (dK_0 hU h2)
  exact ⟨h3.1, dK_le hT hU h3 (Nat.zero_le _)⟩
end DIFFC

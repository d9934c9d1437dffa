/-! difference: the children brought, by the reference -/
abbrev LD9 : List Nat := [18, 19, 20, 21, 22, 23, 24, 25, 26, 29]
def rD (s0 s : mS) (X : dfX) : Prop := sEx LD9 s0 s ∧ rW s X.1 ∧ mMd s X.2.1 X.2.2
def aKy (U : tT) : Option Nat → Int32
  | none => -1
  | some x => U.2.1 x
/-- the place at which it is brought -/
def dfAt (U W : tT) (p c : Nat) (ah : Option Nat) : Nat := match tWhere W.2.1 W.1 (U.2.1 c) with
  | none => bAt W.2.2.2 (dfA U W ah)
  | some i => bAt W.2.2.2 (dfA U W ah) - bLs W.2.2.2 i (tWhere W.2.1 W.1 (U.2.1 p)) (dfA U W ah)
section ORD9
variable {b : iHp} {x t u i j k p q c n m w A v : Nat} {s s' s0 : mS} {T U W : tT} {X : dfX} {Q : Option Value → iHp → Prop} {ch : Nat → Nat} {a10 a11 a12 a13 : Value} {ah : Option Nat} {B : Int64} {e : Nat → Int32} {S : Nat → Bool}
theorem rD.tre (h : rD s0 s X) (hT : rT s0 t T) : rT s t T := hT.ex h.1 (by decide) (by decide) (by decide) (by decide)
theorem rD.goes (h : rD s0 s X) (hX : tOk X.1) (hn : X.2.1 < 199) (hf : fitT e X.1 = true) : ∃ s', iEv mX9_goes [.ref x, .int (e 0), .int (e 1), .int (e 2), .int (e 3), .int (e 4), .int (e 5), .int (e 6)] (mH b x s) none (mH b x s') ∧ rD s0 s' (dfE e X) := by
  obtain ⟨h1, ⟨V, v1, v2⟩, h3⟩ := h
  have hV := v2.symm.ok hX
  have hfV : fitT e V = true := (fitT_congr v2 hV).trans hf
  obtain ⟨s', U', g1, g2, g3, g4, g5⟩ := ev9_goes (b := b) (x := x) v1 hV h3 hn e
  rw [doT_t hfV] at g3
  exact ⟨s', g1, h1.trans (g5.mono (by decide)), ⟨U', g2, g3.trans (perf_congr v2 hV hfV)⟩, g4⟩
theorem rD.ex (h : rD s0 s X) (hx : sEx [22, 29] s s') : rD s0 s' X := ⟨h.1.trans (hx.mono (by decide)), h.2.1.ex hx (by decide) (by decide) (by decide) (by decide), h.2.2.ex hx (by decide) (by decide)⟩
theorem dfC_none {ah : Option Nat} : ∀ k c, (∀ j, c ≤ j → j < c + k → U.2.2.2 j ≠ U.2.2.2 p + 1) → dfC U S p k c ah X = X := by
  intro k
  induction k with
  | zero => intro c _; rfl
  | succ k ih =>
    intro c h
    unfold dfC
    rw [if_neg (h c (Nat.le_refl c) (by omega))]
    exact ih (c + 1) (fun j h1 h2 => h j (by omega) (by omega))
theorem dfC_jump {ah : Option Nat} (hc : U.2.2.2 c = U.2.2.2 p + 1) : ∀ d i m, i + d = c → (∀ j, i ≤ j → j < c → U.2.2.2 j ≠ U.2.2.2 p + 1) → dfC U S p (d + (m + 1)) i ah X = dfC U S p m (c + 1) (some c) (dfC1 U S p c ah X) := by
  intro d
  induction d with
  | zero =>
    intro i m hi h
    obtain rfl : i = c := by omega
    rw [Nat.zero_add]
    conv => lhs; unfold dfC
    rw [if_pos hc]
  | succ d ih =>
    intro i m hi h
    rw [show d + 1 + (m + 1) = (d + (m + 1)) + 1 by omega]
    conv => lhs; unfold dfC
    rw [if_neg (h i (Nat.le_refl i) (by omega))]
    exact ih (i + 1) m (by omega) (fun j h1 h2 => h j (by omega) h2)
theorem dC_jump (hU : tOk U) (h : dC T U p (i + 1) A X) (hic : i < c) (hno : ∀ a, i < a → a < c → a < U.1 → tPar U.2.2.2 a ≠ some p) : dC T U p c A X := dC_mono hU h (fun a q ha hq => by
  constructor
  · rintro (z | ⟨z1, z2⟩)
    · exact Or.inl z
    · exact Or.inr ⟨z1, by omega⟩
  · rintro (z | ⟨z1, z2⟩)
    · exact Or.inl z
    · refine Or.inr ⟨z1, ?_⟩
      rcases Nat.lt_or_ge i a with w | w
      · rw [z1] at hq
        exact absurd hq (hno a w z2 ha)
      · omega)
theorem i_s0 (y : Int32) : y - 0 = y := by simp
/-- where it goes -/
theorem at9 (hD : rD s0 s X) (hU : tOk U) (hC : dC T U p c A X) (hah : dH U p c ah) (hc : c < U.1) (hpc : tPar U.2.2.2 c = some p) {a1 a2 a3 a7 a9 : Value} : iWp 7 mX9_ordered 58 [.ref x, a1, a2, a3, .long B, iU, .int (U.2.1 p), a7, .int (aKy U ah), a9, .int (U.2.1 c), a11, a12, a13] [] (mH b x s) Q = iWp 7 mX9_ordered 143 [.ref x, a1, a2, a3, .long B, iU, .int (U.2.1 p), a7, .int (aKy U ah), a9, .int (U.2.1 c), .int (oI (tWhere X.1.2.1 X.1.1 (U.2.1 c))), .int (iB (match tWhere X.1.2.1 X.1.1 (U.2.1 c) with
    | none => false
    | some i => decide (tPK X.1.2.1 X.1.2.2.2 i = U.2.1 p))), .int (nI (dfAt U X.1 p c ah))] [] (mH b x s) Q := by
  have u60 := hU.1.le
  have hX := hC.1.1
  have w60 := hX.1.le
  have hplt := tPar_lt hU hc hpc
  have hp : p < U.1 := by omega
  obtain ⟨g, g1, g2, g3⟩ := dC_par hU hC hp
  have hA := fun a ha => dC_ah hU hC hp (by omega) hah g1 (a := a) ha
  have ec := hD.2.1.find (b := b) (x := x) hX (U.2.1 c)
  -- the one ahead
  have ahd : (ah = none ∧ dfA U X.1 ah = none) ∨ ∃ y a, ah = some y ∧ dfA U X.1 ah = some a ∧ ¬ aKy U ah = -1 ∧ a < X.1.1 ∧ tPar X.1.2.2.2 a = some g ∧ iEv mX9_find [.ref x, .int (aKy U ah)] (mH b x s) (some (.int (nI a))) (mH b x s) := by
    cases ah with
    | none => exact Or.inl ⟨rfl, rfl⟩
    | some y =>
      have hy := hah y rfl
      obtain ⟨a, b1, b2, b3, b4⟩ := vP_some (hC.2.2.2.1 y p (by omega) hy.2 (Or.inr ⟨rfl, hy.1⟩))
      have e1 : dfA U X.1 (some y) = some a := b1
      have ef := hD.2.1.find (b := b) (x := x) hX (U.2.1 y)
      rw [b1] at ef
      refine Or.inr ⟨y, a, rfl, e1, ?_, b2, (hA a e1).2.1, ef⟩
      obtain ⟨z, z1, z2, z3⟩ := key_of hU (show y < U.1 by omega)
      show ¬ U.2.1 y = -1
      rw [z1]
      exact oI_ne (by omega)
  unfold dfAt
  rw [g1]
  cases hw : tWhere X.1.2.1 X.1.1 (U.2.1 c) with
  | none =>
    rw [hw] at ec
    dsimp only
    rcases ahd with ⟨e1, e2⟩ | ⟨y, a, e1, e2, e3, e4, e5, e6⟩
    · rw [e2]
      subst e1
      simp only [X9_ordered_58, X9_ordered_59, X9_ordered_61 ec mH_obj, X9_ordered_64, X9_ordered_66, X9_ordered_68, X9_ordered_71, X9_ordered_72, X9_ordered_77, X9_ordered_79, X9_ordered_82, X9_ordered_83, X9_ordered_86, X9_ordered_87, X9_ordered_89, X9_ordered_91, X9_ordered_92, X9_ordered_95, X9_ordered_96, X9_ordered_99, X9_ordered_100, X9_ordered_101, X9_ordered_109, X9_ordered_110, X9_ordered_111, X9_ordered_113, X9_ordered_116, X9_ordered_117, X9_ordered_122, X9_ordered_123, X9_ordered_124, X9_ordered_132, X9_ordered_135, X9_ordered_136, X9_ordered_139, X9_ordered_140, X9_ordered_141, iOb_some, iClr_i, iClr_r, iClr_n, iClr_u, iClr_l, rf_s, rf_n, iB_0, iSum_nil, oI_n, if_pos (by decide : (-1 : Int32) ≤ 0), aKy, if_true]
      rfl
    · rw [e2]
      simp only [X9_ordered_58, X9_ordered_59, X9_ordered_61 ec mH_obj, X9_ordered_64, X9_ordered_66, X9_ordered_68, X9_ordered_71, X9_ordered_72, X9_ordered_77, X9_ordered_79, X9_ordered_82, X9_ordered_83, X9_ordered_86, X9_ordered_87, X9_ordered_89, X9_ordered_91, X9_ordered_92, X9_ordered_95, X9_ordered_96, X9_ordered_99, X9_ordered_100, X9_ordered_101, X9_ordered_103 e6 mH_obj, X9_ordered_106 (hD.2.1.place hX e4) mH_obj, X9_ordered_109, X9_ordered_110, X9_ordered_111, X9_ordered_113, X9_ordered_116, X9_ordered_117, X9_ordered_122, X9_ordered_123, X9_ordered_124, X9_ordered_132, X9_ordered_135, X9_ordered_136, X9_ordered_139, X9_ordered_140, X9_ordered_141, iOb_some, iClr_i, iClr_r, iClr_n, iClr_u, iClr_l, rf_s, rf_n, iB_0, iSum_nil, oI_n, if_pos (by decide : (-1 : Int32) ≤ 0), if_neg e3, if_true, nI_1, i_s0]
      rfl
  | some i =>
    rw [hw] at ec
    dsimp only
    have hi := (tWhere_lt hw).1
    have i0 : 0 < i := by
      rcases Nat.eq_zero_or_pos i with z | z
      · exfalso
        have r := (root_at hX hC.2.2.1).2
        have k2 := (tWhere_lt hw).2
        rw [z, r] at k2
        have := hU.1.inj (i := 0) (j := c) (by omega) hc k2
        omega
      · exact z
    have epk := hD.2.1.parentKey (b := b) (x := x) hX hi
    have epl := hD.2.1.place (b := b) (x := x) hX hi
    have hpar : tPK X.1.2.1 X.1.2.2.2 i = U.2.1 p ↔ tPar X.1.2.2.2 i = some g := by
      constructor
      · intro z
        exact par_of_key hX hi g2 (z.trans g3.symm)
      · intro z
        obtain ⟨hK, d, hd, h5⟩ := hX
        rw [nPar_of hd hi] at z
        rw [tPK_some hd hi z, g3]
    have np : ¬ nI i ≤ 0 := nI_nle i0 (show i < 2 ^ 31 by omega)
    by_cases c1 : tPK X.1.2.1 X.1.2.2.2 i = U.2.1 p
    · rw [decide_eq_true c1]
      rcases ahd with ⟨e1, e2⟩ | ⟨y, a, e1, e2, e3, e4, e5, e6⟩
      · rw [e2]
        subst e1
        simp only [X9_ordered_58, X9_ordered_59, X9_ordered_61 ec mH_obj, X9_ordered_64, X9_ordered_66, X9_ordered_68, X9_ordered_71, X9_ordered_72, X9_ordered_74 epk mH_obj, X9_ordered_77, X9_ordered_79, X9_ordered_82, X9_ordered_83, X9_ordered_86, X9_ordered_87, X9_ordered_89, X9_ordered_91, X9_ordered_92, X9_ordered_95, X9_ordered_96, X9_ordered_99, X9_ordered_100, X9_ordered_101, X9_ordered_109, X9_ordered_110, X9_ordered_111, X9_ordered_113, X9_ordered_116, X9_ordered_117, X9_ordered_122, X9_ordered_123, X9_ordered_124, X9_ordered_132, X9_ordered_135, X9_ordered_136, X9_ordered_139, X9_ordered_140, X9_ordered_141, iOb_some, iClr_i, iClr_r, iClr_n, iClr_u, iClr_l, rf_s, rf_n, iB_0, iSum_nil, oI_s, if_neg np, if_pos c1, aKy, if_true]
        rfl
      · rw [e2]
        have hsib : (nI (tPlace X.1.2.2.2 a) ≤ nI (tPlace X.1.2.2.2 i)) ↔ ¬ i < a := by
          have c2 := hpar.mp c1
          obtain ⟨hK, d, hd, h5⟩ := hX
          rw [nPar_of hd hi] at c2
          rw [nPar_of hd e4] at e5
          have l1 := nPlace_le (d := d) hi
          have l2 := nPlace_le (d := d) e4
          rw [nPlace_of hd hi, nPlace_of hd e4, nI_leI (by omega) (by omega), ← sib_iff h5 e4 hi c2 e5]
          omega
        show _ = iWp 7 mX9_ordered 143 [.ref x, a1, a2, a3, .long B, iU, .int (U.2.1 p), a7, .int (aKy U ah), a9, .int (U.2.1 c), .int (nI i), .int 1, .int (nI (tPlace X.1.2.2.2 a + 1 - if i < a ∧ tPar X.1.2.2.2 i = some g then 1 else 0))] [] (mH b x s) Q
        by_cases c3 : i < a
        · rw [if_pos ⟨c3, hpar.mp c1⟩, Nat.add_sub_cancel]
          simp only [X9_ordered_58, X9_ordered_59, X9_ordered_61 ec mH_obj, X9_ordered_64, X9_ordered_66, X9_ordered_68, X9_ordered_71, X9_ordered_72, X9_ordered_74 epk mH_obj, X9_ordered_77, X9_ordered_79, X9_ordered_82, X9_ordered_83, X9_ordered_86, X9_ordered_87, X9_ordered_89, X9_ordered_91, X9_ordered_92, X9_ordered_95, X9_ordered_96, X9_ordered_99, X9_ordered_100, X9_ordered_101, X9_ordered_103 e6 mH_obj, X9_ordered_106 (hD.2.1.place hX e4) mH_obj, X9_ordered_109, X9_ordered_110, X9_ordered_111, X9_ordered_113, X9_ordered_116, X9_ordered_117, X9_ordered_119 epl mH_obj, X9_ordered_122, X9_ordered_123, X9_ordered_124, X9_ordered_126 e6 mH_obj, X9_ordered_129 (hD.2.1.place hX e4) mH_obj, X9_ordered_132, X9_ordered_135, X9_ordered_136, X9_ordered_139, X9_ordered_140, X9_ordered_141, iOb_some, iClr_i, iClr_r, iClr_n, iClr_u, iClr_l, rf_s, rf_n, iB_0, iSum_nil, oI_s, if_neg np, if_pos c1, if_neg e3, if_neg (by decide : ¬ (1 : Int32) = 0), if_neg (fun z => (hsib.mp z) c3), nI_1, nI_pred]
        · rw [if_neg (fun z => c3 z.1), Nat.sub_zero]
          simp only [X9_ordered_58, X9_ordered_59, X9_ordered_61 ec mH_obj, X9_ordered_64, X9_ordered_66, X9_ordered_68, X9_ordered_71, X9_ordered_72, X9_ordered_74 epk mH_obj, X9_ordered_77, X9_ordered_79, X9_ordered_82, X9_ordered_83, X9_ordered_86, X9_ordered_87, X9_ordered_89, X9_ordered_91, X9_ordered_92, X9_ordered_95, X9_ordered_96, X9_ordered_99, X9_ordered_100, X9_ordered_101, X9_ordered_103 e6 mH_obj, X9_ordered_106 (hD.2.1.place hX e4) mH_obj, X9_ordered_109, X9_ordered_110, X9_ordered_111, X9_ordered_113, X9_ordered_116, X9_ordered_117, X9_ordered_119 epl mH_obj, X9_ordered_122, X9_ordered_123, X9_ordered_124, X9_ordered_126 e6 mH_obj, X9_ordered_129 (hD.2.1.place hX e4) mH_obj, X9_ordered_132, X9_ordered_135, X9_ordered_136, X9_ordered_139, X9_ordered_140, X9_ordered_141, iOb_some, iClr_i, iClr_r, iClr_n, iClr_u, iClr_l, rf_s, rf_n, iB_0, iSum_nil, oI_s, if_neg np, if_pos c1, if_neg e3, if_neg (by decide : ¬ (1 : Int32) = 0), if_pos (hsib.mpr c3), nI_1, i_s0]
    · rw [decide_eq_false c1]
      rcases ahd with ⟨e1, e2⟩ | ⟨y, a, e1, e2, e3, e4, e5, e6⟩
      · rw [e2]
        subst e1
        simp only [X9_ordered_58, X9_ordered_59, X9_ordered_61 ec mH_obj, X9_ordered_64, X9_ordered_66, X9_ordered_68, X9_ordered_71, X9_ordered_72, X9_ordered_74 epk mH_obj, X9_ordered_77, X9_ordered_79, X9_ordered_82, X9_ordered_83, X9_ordered_86, X9_ordered_87, X9_ordered_89, X9_ordered_91, X9_ordered_92, X9_ordered_95, X9_ordered_96, X9_ordered_99, X9_ordered_100, X9_ordered_101, X9_ordered_109, X9_ordered_110, X9_ordered_111, X9_ordered_113, X9_ordered_116, X9_ordered_117, X9_ordered_122, X9_ordered_123, X9_ordered_124, X9_ordered_132, X9_ordered_135, X9_ordered_136, X9_ordered_139, X9_ordered_140, X9_ordered_141, iOb_some, iClr_i, iClr_r, iClr_n, iClr_u, iClr_l, rf_s, rf_n, iB_0, iSum_nil, oI_s, if_neg np, if_neg c1, aKy, if_true]
        rfl
      · rw [e2]
        show _ = iWp 7 mX9_ordered 143 [.ref x, a1, a2, a3, .long B, iU, .int (U.2.1 p), a7, .int (aKy U ah), a9, .int (U.2.1 c), .int (nI i), .int 0, .int (nI (tPlace X.1.2.2.2 a + 1 - if i < a ∧ tPar X.1.2.2.2 i = some g then 1 else 0))] [] (mH b x s) Q
        rw [if_neg (fun z => c1 (hpar.mpr z.2)), Nat.sub_zero]
        simp only [X9_ordered_58, X9_ordered_59, X9_ordered_61 ec mH_obj, X9_ordered_64, X9_ordered_66, X9_ordered_68, X9_ordered_71, X9_ordered_72, X9_ordered_74 epk mH_obj, X9_ordered_77, X9_ordered_79, X9_ordered_82, X9_ordered_83, X9_ordered_86, X9_ordered_87, X9_ordered_89, X9_ordered_91, X9_ordered_92, X9_ordered_95, X9_ordered_96, X9_ordered_99, X9_ordered_100, X9_ordered_101, X9_ordered_103 e6 mH_obj, X9_ordered_106 (hD.2.1.place hX e4) mH_obj, X9_ordered_109, X9_ordered_110, X9_ordered_111, X9_ordered_113, X9_ordered_116, X9_ordered_117, X9_ordered_122, X9_ordered_123, X9_ordered_124, X9_ordered_132, X9_ordered_135, X9_ordered_136, X9_ordered_139, X9_ordered_140, X9_ordered_141, iOb_some, iClr_i, iClr_r, iClr_n, iClr_u, iClr_l, rf_s, rf_n, iB_0, iSum_nil, oI_s, if_neg np, if_neg c1, if_neg e3, if_true, nI_1, i_s0]
/-- the loop over the children -/
theorem ord_loop (hT9 : rT s0 t T) (hU9 : rT s0 u U) (hT : tOk T) (hU : tOk U) (hp : p < U.1) (hn : n ≤ 60) (hch : ∀ j, j < n → ch j < U.1 ∧ tPar U.2.2.2 (ch j) = some p) (hinc : ∀ j j', j < j' → j' < n → ch j < ch j') (hall : ∀ c, c < U.1 → tPar U.2.2.2 c = some p → ∃ j, j < n ∧ ch j = c) (hB : ∀ j, j < n → (b9 B j = true ↔ S (ch j) = true)) : ∀ m i v ah X s a10 a11 a12 a13, U.1 - i ≤ m → p ≤ i → i < tEnd U.2.2.2 U.1 p → dC T U p (i + 1) (dfA0 T U) X → dH U p (i + 1) ah → dV U S p (i + 1) X → v ≤ n → (∀ j, j < n → (j < v ↔ ch j ≤ i)) → rD s0 s X → (∀ s', rD s0 s' (dfC U S p (tEnd U.2.2.2 U.1 p - (i + 1)) (i + 1) ah X) → Q none (mH b x s')) → iWp 7 mX9_ordered 31 [.ref x, .int (nI t), .int (nI u), .int (nI p), .long B, iU, .int (U.2.1 p), .int (nI v), .int (aKy U ah), .int (oI (nxt U p i)), a10, a11, a12, a13] [] (mH b x s) Q := by
  have u60 := hU.1.le
  have hE := tEnd_gt (D := U.2.2.2) hp
  intro m
  induction m with
  | zero =>
    intro i v ah X s a10 a11 a12 a13 hm h1 h2 hC hah hV hv hvc hD hQ
    omega
  | succ m ih =>
    intro i v ah X s a10 a11 a12 a13 hm h1 h2 hC hah hV hv hvc hD hQ
    rw [X9_ordered_31]
    rcases nxt_spec hU hp h1 h2 with ⟨e, hno⟩ | ⟨c, e, c1, c2, c3, c4, c5⟩
    · rw [e]
      simp only [X9_ordered_33, X9_ordered_34, iOb_some, iClr_i, iClr_r, iClr_n, iClr_u, iClr_l, rf_s, rf_n, iB_0, iSum_nil, oI_n, if_true]
      simp only [X9_ordered_226, iOb_some, iClr_i, iClr_r, iClr_n, iClr_u, iClr_l, rf_s, rf_n, iB_0, iSum_nil]
      rw [dfC_none _ _ (fun j j1 j2 => hno j (by omega) (by omega))] at hQ
      exact hQ s hD
    · rw [e]
      have hcu : c < U.1 := by omega
      have hpc : p < c := by omega
      have hnoP : ∀ a, i < a → a < c → a < U.1 → tPar U.2.2.2 a ≠ some p := fun a a1 a2 a3 z => c5 a a1 a2 ((child_iff hU hp (by omega) (by omega)).mpr z)
      have hCc := dC_jump hU hC c1 hnoP
      have hahc : dH U p c ah := fun y hy => ⟨by have := (hah y hy).1; omega, (hah y hy).2⟩
      have hVc : dV U S p c X := fun a a1 => hV a (by omega)
      have jmp := fun X' => dfC_jump (S := S) (X := X') (ah := ah) c4 (c - (i + 1)) (i + 1) (tEnd U.2.2.2 U.1 p - (c + 1)) (by omega) (fun j j1 j2 => c5 j (by omega) j2)
      rw [show c - (i + 1) + (tEnd U.2.2.2 U.1 p - (c + 1) + 1) = tEnd U.2.2.2 U.1 p - (i + 1) by omega] at jmp
      rw [jmp X] at hQ
      obtain ⟨g1, g2, g3⟩ := dC_child hU hCc hahc hcu c3 hVc
      -- its number
      obtain ⟨j0, j1, j2⟩ := hall c hcu c3
      have jv : j0 = v := by
        have a1 : ¬ j0 < v := fun z => by have := (hvc j0 j1).mp z; omega
        rcases Nat.lt_or_ge v j0 with z | z
        · have b1 : ¬ ch v ≤ i := fun y => absurd ((hvc v (by omega)).mpr y) (Nat.lt_irrefl v)
          have b2 := hinc v j0 z j1
          have b3 := hch v (by omega)
          exact absurd b3.2 (hnoP (ch v) (by omega) (by omega) b3.1)
        · omega
      subst jv
      have hvc2 : ∀ j, j < n → (j < j0 + 1 ↔ ch j ≤ c) := by
        intro j hj
        constructor
        · intro z
          rcases Nat.lt_or_ge j j0 with y | y
          · have := hinc j j0 y j1
            omega
          · obtain rfl : j = j0 := by omega
            omega
        · intro z
          rcases Nat.lt_or_ge j0 j with y | y
          · have := hinc j0 j y hj
            omega
          · omega
      have hb := hB j0 j1
      rw [j2] at hb
      have ht := b9_test (w := B) (j := j0) (by omega)
      have ek := ev9_keyOf (b := b) (x := x) (hD.tre hU9) hcu
      -- what comes behind
      have fin : ∀ s3 a11 a12 a13, rD s0 s3 (dfC1 U S p c ah X) → iWp 7 mX9_ordered 206 [.ref x, .int (nI t), .int (nI u), .int (nI p), .long B, iU, .int (U.2.1 p), .int (nI j0), .int (aKy U ah), .int (nI c), .int (U.2.1 c), a11, a12, a13] [] (mH b x s3) Q := by
        intro s3 a11 a12 a13 h3
        simp only [X9_ordered_206, X9_ordered_208, X9_ordered_210, X9_ordered_213, X9_ordered_214, X9_ordered_215, X9_ordered_216, X9_ordered_218 (ev9_next (h3.tre hU9) hp hcu) mH_obj, X9_ordered_221, X9_ordered_223, iOb_some, iClr_i, iClr_r, iClr_n, iClr_u, iClr_l, rf_s, rf_n, iB_0, iSum_nil, nI_1]
        exact ih c (j0 + 1) (some c) _ s3 _ _ _ _ (by omega) (by omega) c2 g1 g3 g2 (by omega) hvc2 h3 hQ
      by_cases sc : S c = true
      · have nz : ¬ lg_cmp ((B >>> ((nI j0).toInt64 &&& 63)) &&& 1) 0 = 0 := fun z => by
          have := ht.mp ((lg_cmp_eq _ _).mp z)
          rw [hb.mpr sc] at this
          cases this
        have h3 : rD s0 s (dfC1 U S p c ah X) := by
          unfold dfC1
          rw [if_pos sc]
          exact hD
        simp only [X9_ordered_33, X9_ordered_34, X9_ordered_37, X9_ordered_38, X9_ordered_39, X9_ordered_41 ek mH_obj, X9_ordered_44, X9_ordered_46, X9_ordered_48, X9_ordered_50, X9_ordered_51, X9_ordered_52, X9_ordered_53, X9_ordered_54, X9_ordered_55, iOb_some, iClr_i, iClr_r, iClr_n, iClr_u, iClr_l, rf_s, rf_n, iB_0, iSum_nil, oI_s, if_neg (oI_ne (show c < 2 ^ 31 by omega)), if_neg nz]
        exact fin s _ _ _ h3
      · have ez : lg_cmp ((B >>> ((nI j0).toInt64 &&& 63)) &&& 1) 0 = 0 := (lg_cmp_eq _ _).mpr (ht.mpr (by
          cases z : b9 B j0 with
          | false => rfl
          | true => exact absurd (hb.mp z) sc))
        simp only [X9_ordered_33, X9_ordered_34, X9_ordered_37, X9_ordered_38, X9_ordered_39, X9_ordered_41 ek mH_obj, X9_ordered_44, X9_ordered_46, X9_ordered_48, X9_ordered_50, X9_ordered_51, X9_ordered_52, X9_ordered_53, X9_ordered_54, X9_ordered_55, iOb_some, iClr_i, iClr_r, iClr_n, iClr_u, iClr_l, rf_s, rf_n, iB_0, iSum_nil, oI_s, if_neg (oI_ne (show c < 2 ^ 31 by omega)), if_pos ez]
        rw [at9 hD hU hCc hahc hcu c3]
        obtain ⟨f1, f2, -⟩ := dC_fit hU hCc hahc hcu c3
        have hX := hCc.1.1
        have le : X.2.1 ≤ 120 := dC_le hT hU hCc
        obtain ⟨s3, o1, o2⟩ := hD.goes (b := b) (x := x) hX (by omega) f2
        have h3 : rD s0 s3 (dfC1 U S p c ah X) := by
          unfold dfC1
          rw [if_neg sc]
          exact o2
        have ei := ev9_indexOf (b := b) (x := x) (hD.tre hT9) (U.2.1 c)
        have nd : dDb U p c c = false := by
          rw [dDb_f c3]
          exact decide_eq_false (by omega)
        have hiff := hCc.2.2.2.2.2 c hcu nd
        rw [vP_iff, vP_iff] at hiff
        have t60 := hT.1.le
        unfold dfB at o1
        unfold dfAt
        cases hw : tWhere X.1.2.1 X.1.1 (U.2.1 c) with
        | none =>
          rw [hw] at o1
          rw [hiff.mp hw] at ei
          have o1 : iEv mX9_goes [.ref x, .int 2, .int (U.2.1 c), .int (U.2.2.1 c), .int (U.2.1 p), .int (nI (bAt X.1.2.2.2 (dfA U X.1 ah))), .int 0, .int 0] (mH b x s) none (mH b x s3) := o1
          have hlb := ((hD.tre hU9).2.2.2 c hcu).2.1
          have hu16 := hU9.1
          dsimp only
          simp only [X9_ordered_143, X9_ordered_144, X9_ordered_145, X9_ordered_147 ei mH_obj, X9_ordered_150, X9_ordered_151, X9_ordered_154, X9_ordered_155, X9_ordered_156, X9_ordered_158, X9_ordered_159, X9_ordered_162, X9_ordered_164, X9_ordered_165, X9_ordered_166, X9_ordered_168, X9_ordered_169, X9_ordered_170, X9_ordered_172, X9_ordered_174, X9_ordered_175, X9_ordered_176 o1 mH_obj, X9_ordered_179, iOb_some, iClr_i, iClr_r, iClr_n, iClr_u, iClr_l, rf_s, rf_n, iB_0, iSum_nil, oI_n, if_true, mg3, i64, ml3 (show 64 * u + c < 1024 by omega), hlb]
          exact fin s3 _ _ _ h3
        | some i' =>
          rw [hw] at o1
          have hi' := (tWhere_lt hw).1
          have w60 := hX.1.le
          have tne : tWhere T.2.1 T.1 (U.2.1 c) ≠ none := fun z => by
            rw [hiff.mpr z] at hw
            cases hw
          obtain ⟨ti, hti⟩ := Option.ne_none_iff_exists'.mp tne
          rw [hti] at ei
          have htl := (tWhere_lt hti).1
          have o1 : iEv mX9_goes [.ref x, .int 3, .int (U.2.1 c), .int 0, .int (tPK X.1.2.1 X.1.2.2.2 i'), .int (nI (tPlace X.1.2.2.2 i')), .int (U.2.1 p), .int (nI (bAt X.1.2.2.2 (dfA U X.1 ah) - bLs X.1.2.2.2 i' (tWhere X.1.2.1 X.1.1 (U.2.1 p)) (dfA U X.1 ah)))] (mH b x s) none (mH b x s3) := o1
          dsimp only
          simp only [X9_ordered_143, X9_ordered_144, X9_ordered_145, X9_ordered_147 ei mH_obj, X9_ordered_150, X9_ordered_151, X9_ordered_154, X9_ordered_155, X9_ordered_156, X9_ordered_158, X9_ordered_159, X9_ordered_162, X9_ordered_164, X9_ordered_165, X9_ordered_166, X9_ordered_168, X9_ordered_169, X9_ordered_170, X9_ordered_172, X9_ordered_174, X9_ordered_175, X9_ordered_179, X9_ordered_182, X9_ordered_183, X9_ordered_184, X9_ordered_186, X9_ordered_187, X9_ordered_188, X9_ordered_190 (hD.2.1.parentKey hX hi') mH_obj, X9_ordered_193, X9_ordered_194, X9_ordered_196 (hD.2.1.place hX hi') mH_obj, X9_ordered_199, X9_ordered_201, X9_ordered_203 o1 mH_obj, iOb_some, iClr_i, iClr_r, iClr_n, iClr_u, iClr_l, rf_s, rf_n, iB_0, iSum_nil, oI_s, if_neg (oI_ne (show ti < 2 ^ 31 by omega))]
          exact fin s3 _ _ _ h3
theorem ev9_ordered (hT9 : rT s0 t T) (hU9 : rT s0 u U) (hT : tOk T) (hU : tOk U) (hp : p < U.1) (hC : dC T U p (p + 1) (dfA0 T U) X) (hD : rD s0 s X) : ∃ s', iEv mX9_ordered [.ref x, .int (nI t), .int (nI u), .int (nI p)] (mH b x s) none (mH b x s') ∧ rD s0 s' (dfP1 U p X) := by
  have hE := tEnd_gt (D := U.2.2.2) hp
  have hX := hC.1.1
  obtain ⟨s1, n, ch, B, e1, x1, r1, r2, r3, r4, r5⟩ := ev9_staying (b := b) (x := x) (hD.tre hU9) hD.2.1 hU hX hp
  have hD1 := hD.ex x1
  have z : iWp 7 mX9_ordered 0 [.ref x, .int (nI t), .int (nI u), .int (nI p), iU, iU, iU, iU, iU, iU, iU, iU, iU, iU] [] (mH b x s) (fun v h1 => v = none ∧ ∃ s', h1 = mH b x s' ∧ rD s0 s' (dfP1 U p X)) := by
    simp only [X9_ordered_0, X9_ordered_1, X9_ordered_2, X9_ordered_3 e1 mH_obj, X9_ordered_6, X9_ordered_8, X9_ordered_9, X9_ordered_10, X9_ordered_11 (ev9_keyOf (hD1.tre hU9) hp) mH_obj, X9_ordered_14, X9_ordered_16, X9_ordered_17, X9_ordered_19, X9_ordered_20, X9_ordered_22, X9_ordered_23, X9_ordered_24, X9_ordered_25, X9_ordered_26 (ev9_next (hD1.tre hU9) hp hp) mH_obj, X9_ordered_29, iOb_some, iClr_i, iClr_r, iClr_n, iClr_u, iClr_l, rf_s, rf_n, iB_0, iSum_nil]
    refine ord_loop (S := dfS U X.1 p) hT9 hU9 hT hU hp r1 r2 r3 r4 r5 (U.1 - p) p 0 none X s1 _ _ _ _ (Nat.le_refl _) (Nat.le_refl _) hE.1 hC (fun y hy => by cases hy) (dV_0 hX) (Nat.zero_le _) (fun j hj => ?_) hD1 (fun s' h' => ⟨rfl, s', rfl, h'⟩)
    have := tPar_lt hU (r2 j hj).1 (r2 j hj).2
    omega
  obtain ⟨v, h1, ev, rfl, s', rfl, g⟩ := I9_ordered z
  exact ⟨s', ev, g⟩
end ORD9

/-! difference: those that stay, by the reference -/
def clI (U W : tT) (p i n : Nat) (ch : Nat → Nat) (C : Nat → Int32) : Prop := n + p ≤ i ∧ (∀ j, j < n → ch j ≤ i ∧ tPar U.2.2.2 (ch j) = some p ∧ C j = oI (plO U W p (ch j))) ∧ (∀ j j', j < j' → j' < n → ch j < ch j') ∧ ∀ c, c ≤ i → tPar U.2.2.2 c = some p → ∃ j, j < n ∧ ch j = c
def clF (U W : tT) (p n : Nat) (ch : Nat → Nat) (C : Nat → Int32) : Prop := n ≤ 60 ∧ (∀ j, j < n → ch j < U.1 ∧ tPar U.2.2.2 (ch j) = some p ∧ C j = oI (plO U W p (ch j))) ∧ (∀ j j', j < j' → j' < n → ch j < ch j') ∧ ∀ c, c < U.1 → tPar U.2.2.2 c = some p → ∃ j, j < n ∧ ch j = c
/-- a place, from 1 on; 0: none -/
def oN : Option Nat → Nat
  | none => 0
  | some q => q + 1
def yvO (U W : tT) (p : Nat) (ch : Nat → Nat) (j : Nat) : Nat := oN (plO U W p (ch j))
/-- lengths from k on -/
def rsI (n k : Nat) (y F : Nat → Nat) (L : Nat → Int32) (lg : Nat) : Prop := (∀ q, k ≤ q → q < n → L q = nI (F q) ∧ F q + q ≤ n ∧ F q ≤ lg ∧ (y q = 0 → F q = 0) ∧ (0 < y q → 1 ≤ F q ∧ (∀ q', q < q' → q' < n → y q < y q' → F q' < F q) ∧ (F q = 1 ∨ ∃ q', q < q' ∧ q' < n ∧ y q < y q' ∧ F q = F q' + 1))) ∧ (lg = 0 ∨ ∃ q, k ≤ q ∧ q < n ∧ 0 < y q ∧ F q = lg)
abbrev iNy (n : Nat) (y : Nat → Nat) : Nat → Prop := fun j => j < n ∧ 0 < y j
/-- the place of the one picked last -/
def lIy (y : Nat → Nat) : Option Nat → Int32
  | none => -1
  | some a => dI (y a)
section STAY9
variable {b : iHp} {x t u i j k p q c n m lg : Nat} {s s' s0 : mS} {T U W : tT} {L : List Nat} {Q : Option Value → iHp → Prop} {ch y F : Nat → Nat} {a3 a6 a7 a8 a9 a10 a11 a12 : Value} {kp : Int32} {l : Option Nat}
theorem oI_dI {o : Option Nat} : oI o = dI (oN o) := by cases o <;> rfl
theorem dI_ltI {a b : Nat} (ha : a < 2 ^ 31) (hb : b < 2 ^ 31) : dI a < dI b ↔ a < b := by
  cases a with
  | zero =>
    cases b with
    | zero => exact ⟨fun z => absurd z (by decide), fun z => absurd z (Nat.lt_irrefl _)⟩
    | succ b => exact ⟨fun _ => Nat.succ_pos b, fun _ => Int32.lt_of_lt_of_le (by decide : (-1 : Int32) < 0) (nI_pos' (show b < 2 ^ 31 by omega))⟩
  | succ a =>
    cases b with
    | zero => exact ⟨fun z => absurd (Int32.lt_trans z (by decide : (-1 : Int32) < 0)) (nI_pos (show a < 2 ^ 31 by omega)), fun z => absurd z (Nat.not_lt_zero _)⟩
    | succ b =>
      show nI a < nI b ↔ a + 1 < b + 1
      rw [nI_ltI (by omega) (by omega)]
      omega
theorem dI_n1 {a : Nat} (ha : a < 2 ^ 31) : dI a = -1 ↔ a = 0 := by
  cases a with
  | zero => exact ⟨fun _ => rfl, fun _ => rfl⟩
  | succ a => exact ⟨fun z => absurd z (oI_ne (show a < 2 ^ 31 by omega)), fun z => absurd z (Nat.succ_ne_zero a)⟩
theorem kids9_loop (hT : rT s0 u U) (hw : rW s0 W) (hU : tOk U) (hW : tOk W) (hp : p < U.1) : ∀ m i n ch s, U.1 - i ≤ m → p ≤ i → i < tEnd U.2.2.2 U.1 p → sEx [22] s0 s → clI U W p i n ch (s.2.1 22) → (∀ s' n ch a5, sEx [22] s0 s' → clF U W p n ch (s'.2.1 22) → iWp 4 mX9_staying 60 [.ref x, .int (nI u), .int (nI p), .int (U.2.1 p), .int (nI n), a5, a6, a7, a8, a9, a10, a11, a12] [] (mH b x s') Q) → iWp 4 mX9_staying 19 [.ref x, .int (nI u), .int (nI p), .int (U.2.1 p), .int (nI n), .int (oI (nxt U p i)), a6, a7, a8, a9, a10, a11, a12] [] (mH b x s) Q := by
  have u60 := hU.1.le
  have hE := tEnd_gt (D := U.2.2.2) hp
  intro m
  induction m with
  | zero =>
    intro i n ch s hm h1 h2 hx hI hQ
    omega
  | succ m ih =>
    intro i n ch s hm h1 h2 hx hI hQ
    have hTs := hT.ex hx (by decide) (by decide) (by decide) (by decide)
    have hws := hw.ex hx (by decide) (by decide) (by decide) (by decide)
    obtain ⟨i1, i2, i3, i4⟩ := id hI
    rw [X9_staying_19]
    rcases nxt_spec hU hp h1 h2 with ⟨e, hno⟩ | ⟨c, e, c1, c2, c3, c4, c5⟩
    · rw [e]
      simp only [X9_staying_21, X9_staying_22, iOb_some, iClr_i, iClr_r, iClr_n, iClr_u, iClr_l, rf_s, rf_n, iB_0, iSum_nil, oI_n, if_true]
      refine hQ s n ch _ hx ⟨by omega, fun j hj => ⟨by have := (i2 j hj).1; omega, (i2 j hj).2⟩, i3, fun c hc hpc => i4 c ?_ hpc⟩
      rcases Nat.lt_or_ge i c with w | w
      · have hce := tPar_end hU hc hpc
        have hpl := tPar_lt hU hc hpc
        exact absurd ((child_iff hU hp hpl hce).mpr hpc) (hno c w hce)
      · exact w
    · rw [e]
      have hcu : c < U.1 := by omega
      have ek := ev9_keyOf (b := b) (x := x) hTs hcu
      have ep := ev9_placeIn (b := b) (x := x) (c := c) hws hW hU hp
      generalize hs2 : mPut s 22 n (oI (plO U W p c)) = s2
      have x2 : sEx [22] s0 s2 := by
        rw [← hs2]
        exact hx.trans (mPut_ex (by decide))
      have v2 : ∀ q, s2.2.1 22 q = if q = n then oI (plO U W p c) else s.2.1 22 q := by
        intro q
        rw [← hs2, mPut_at, if_pos rfl]
      have en := ev9_next (b := b) (x := x) (s := s2) (hT.ex x2 (by decide) (by decide) (by decide) (by decide)) hp hcu
      simp only [X9_staying_21, X9_staying_22, X9_staying_25, X9_staying_26, X9_staying_29, X9_staying_31, X9_staying_32, X9_staying_33, X9_staying_34, X9_staying_36 ek mH_obj, X9_staying_39, X9_staying_40 ep mH_obj, X9_staying_43, X9_staying_44, X9_staying_47, X9_staying_48, X9_staying_49, X9_staying_50, X9_staying_52 en mH_obj, X9_staying_55, X9_staying_57, iOb_some, iClr_i, iClr_r, iClr_n, iClr_u, iClr_l, rf_s, rf_n, iB_0, iSum_nil, oI_s, if_neg (oI_ne (show c < 2 ^ 31 by omega)), mg22, ms22 (show n < 66 by omega), hs2, nI_1]
      refine ih c (n + 1) (va_up ch n c) s2 (by omega) (by omega) c2 x2 ⟨by omega, fun j hj => ?_, fun j j' hj hj' => ?_, fun c' hc' hpc' => ?_⟩ hQ
      · unfold va_up
        rw [v2]
        by_cases cj : j = n
        · rw [if_pos cj, if_pos cj]
          exact ⟨Nat.le_refl c, c3, rfl⟩
        · rw [if_neg cj, if_neg cj]
          have := i2 j (by omega)
          exact ⟨by omega, this.2⟩
      · unfold va_up
        rw [if_neg (show j ≠ n by omega)]
        by_cases cj : j' = n
        · rw [if_pos cj]
          have := (i2 j (by omega)).1
          omega
        · rw [if_neg cj]
          exact i3 j j' hj (by omega)
      · unfold va_up
        rcases Nat.lt_or_ge i c' with w | w
        · have hce := tPar_end hU (show c' < U.1 by omega) hpc'
          have hpl := tPar_lt hU (show c' < U.1 by omega) hpc'
          refine ⟨n, by omega, ?_⟩
          rw [if_pos rfl]
          rcases Nat.lt_or_ge c' c with v | v
          · exact absurd ((child_iff hU hp hpl hce).mpr hpc') (c5 c' w v)
          · omega
        · obtain ⟨j, j1, j2⟩ := i4 c' w hpc'
          exact ⟨j, by omega, by rw [if_neg (by omega)]; exact j2⟩
-- the lengths
theorem len9_in (hn : n ≤ 60) (hC : ∀ j, j < n → s0.2.1 22 j = dI (y j) ∧ y j ≤ 61) (hi : i < n) (hyi : 0 < y i) (hF : ∀ q, i < q → q < n → F q + q ≤ n) {a1 a2 a5 : Value} : ∀ k j v s, j + k = n → i < j → v + i ≤ n → sEx [29] s0 s → s.2.1 29 i = nI v → (∀ q, i < q → q < n → s.2.1 29 q = nI (F q)) → (∀ s' a7, sEx [29] s0 s' → s'.2.1 29 i = nI (lnJ y F i k j v) → (∀ q, q ≠ i → s'.2.1 29 q = s.2.1 29 q) → iWp 4 mX9_staying 170 [.ref x, a1, a2, a3, .int (nI n), a5, .int (nI i), a7, a8, a9, a10, a11, a12] [] (mH b x s') Q) → iWp 4 mX9_staying 103 [.ref x, a1, a2, a3, .int (nI n), a5, .int (nI i), .int (nI j), a8, a9, a10, a11, a12] [] (mH b x s) Q := by
  intro k
  induction k with
  | zero =>
    intro j v s hj hij hv hx hL hL2 hQ
    rw [X9_staying_103]
    simp only [X9_staying_105, X9_staying_107, iOb_some, iClr_i, iClr_r, iClr_n, iClr_u, iClr_l, rf_s, rf_n, iB_0, iSum_nil, if_pos (nI_le (show n ≤ j by omega) (show j < 2 ^ 31 by omega))]
    exact hQ s _ hx hL (fun q _ => rfl)
  | succ k ih =>
    intro j v s hj hij hv hx hL hL2 hQ
    have hjn : j < n := by omega
    have ci : s.2.1 22 i = dI (y i) := (congrFun (hx.2.1 22 (by decide)) i).trans (hC i hi).1
    have cj : s.2.1 22 j = dI (y j) := (congrFun (hx.2.1 22 (by decide)) j).trans (hC j hjn).1
    have ni : ¬ dI (y i) = -1 := fun z => by
      have := (dI_n1 (show y i < 2 ^ 31 by have := (hC i hi).2; omega)).mp z
      omega
    have hlt := dI_ltI (a := y i) (b := y j) (by have := (hC i hi).2; omega) (by have := (hC j hjn).2; omega)
    have hFj := hF j hij hjn
    have hLj := hL2 j hij hjn
    unfold lnJ at hQ
    rw [X9_staying_103]
    by_cases c1 : y i < y j
    · have hmax := i_maxN (a := v) (b := F j + 1) (by omega) (by omega)
      by_cases c2 : v ≤ F j
      · rw [if_pos ⟨c1, c2⟩] at hQ
        rw [if_pos (show v < F j + 1 by omega)] at hmax
        generalize hs2 : mPut s 29 i (nI (F j + 1)) = s2
        have v2 : ∀ q, s2.2.1 29 q = if q = i then nI (F j + 1) else s.2.1 29 q := by
          intro q
          rw [← hs2, mPut_at, if_pos rfl]
        have x2 : sEx [29] s0 s2 := by
          rw [← hs2]
          exact hx.trans (mPut_ex (by decide))
        simp only [X9_staying_105, X9_staying_107, X9_staying_110, X9_staying_111, X9_staying_114, X9_staying_116, X9_staying_117, X9_staying_118, X9_staying_121, X9_staying_122, X9_staying_125, X9_staying_127, X9_staying_128, X9_staying_129, X9_staying_132, X9_staying_134, X9_staying_135, X9_staying_138, X9_staying_139, X9_staying_142, X9_staying_144, X9_staying_145, X9_staying_148, X9_staying_150, X9_staying_151, X9_staying_152, X9_staying_155, X9_staying_157, X9_staying_158, X9_staying_159, X9_staying_160, X9_staying_163, X9_staying_164, X9_staying_167, iOb_some, iClr_i, iClr_r, iClr_n, iClr_u, iClr_l, rf_s, rf_n, iB_0, iSum_nil, if_neg (nI_ge hjn (show n < 2 ^ 31 by omega)), mg22, mg29, ml22 (show i < 66 by omega), ml22 (show j < 66 by omega), ml29 (show i < 66 by omega), ml29 (show j < 66 by omega), ci, cj, if_neg ni, if_neg (Int32.not_le.mpr (hlt.mpr c1)), hL, hLj, nI_1, show iSum [.int (nI i), .ref (x + 20)] ≤ 8 from Nat.le_of_ble_eq_true rfl, hmax, ms29 (show i < 66 by omega), hs2]
        refine ih (j + 1) (F j + 1) s2 (by omega) (by omega) (by omega) x2 (by rw [v2, if_pos rfl]) (fun q q1 q2 => by rw [v2, if_neg (by omega)]; exact hL2 q q1 q2) (fun s3 a7 x3 l1 l2 => hQ s3 a7 x3 l1 (fun q hq => by rw [l2 q hq, v2, if_neg hq]))
      · rw [if_neg (fun z => c2 z.2)] at hQ
        rw [if_neg (show ¬ v < F j + 1 by omega)] at hmax
        generalize hs2 : mPut s 29 i (nI v) = s2
        have v2 : ∀ q, s2.2.1 29 q = s.2.1 29 q := by
          intro q
          rw [← hs2, mPut_at, if_pos rfl]
          by_cases cq : q = i
          · rw [if_pos cq, cq, hL]
          · rw [if_neg cq]
        have x2 : sEx [29] s0 s2 := by
          rw [← hs2]
          exact hx.trans (mPut_ex (by decide))
        simp only [X9_staying_105, X9_staying_107, X9_staying_110, X9_staying_111, X9_staying_114, X9_staying_116, X9_staying_117, X9_staying_118, X9_staying_121, X9_staying_122, X9_staying_125, X9_staying_127, X9_staying_128, X9_staying_129, X9_staying_132, X9_staying_134, X9_staying_135, X9_staying_138, X9_staying_139, X9_staying_142, X9_staying_144, X9_staying_145, X9_staying_148, X9_staying_150, X9_staying_151, X9_staying_152, X9_staying_155, X9_staying_157, X9_staying_158, X9_staying_159, X9_staying_160, X9_staying_163, X9_staying_164, X9_staying_167, iOb_some, iClr_i, iClr_r, iClr_n, iClr_u, iClr_l, rf_s, rf_n, iB_0, iSum_nil, if_neg (nI_ge hjn (show n < 2 ^ 31 by omega)), mg22, mg29, ml22 (show i < 66 by omega), ml22 (show j < 66 by omega), ml29 (show i < 66 by omega), ml29 (show j < 66 by omega), ci, cj, if_neg ni, if_neg (Int32.not_le.mpr (hlt.mpr c1)), hL, hLj, nI_1, show iSum [.int (nI i), .ref (x + 20)] ≤ 8 from Nat.le_of_ble_eq_true rfl, hmax, ms29 (show i < 66 by omega), hs2]
        exact ih (j + 1) v s2 (by omega) (by omega) hv x2 ((v2 i).trans hL) (fun q q1 q2 => (v2 q).trans (hL2 q q1 q2)) (fun s3 a7 x3 l1 l2 => hQ s3 a7 x3 l1 (fun q hq => (l2 q hq).trans (v2 q)))
    · rw [if_neg (fun z => c1 z.1)] at hQ
      simp only [X9_staying_105, X9_staying_107, X9_staying_110, X9_staying_111, X9_staying_114, X9_staying_116, X9_staying_117, X9_staying_118, X9_staying_121, X9_staying_122, X9_staying_125, X9_staying_127, X9_staying_128, X9_staying_129, X9_staying_132, X9_staying_134, X9_staying_135, X9_staying_138, X9_staying_139, X9_staying_142, X9_staying_144, X9_staying_145, X9_staying_148, X9_staying_150, X9_staying_151, X9_staying_152, X9_staying_155, X9_staying_157, X9_staying_158, X9_staying_159, X9_staying_160, X9_staying_163, X9_staying_164, X9_staying_167, iOb_some, iClr_i, iClr_r, iClr_n, iClr_u, iClr_l, rf_s, rf_n, iB_0, iSum_nil, if_neg (nI_ge hjn (show n < 2 ^ 31 by omega)), mg22, mg29, ml22 (show i < 66 by omega), ml22 (show j < 66 by omega), ci, cj, if_neg ni, if_pos (Int32.not_lt.mp (fun z => c1 (hlt.mp z))), nI_1]
      exact ih (j + 1) v s (by omega) (by omega) hv hx hL hL2 hQ
theorem rsI_step (hk : k < n) (hI : rsI n (k + 1) y F (s.2.1 29) lg) {v : Nat} {L' : Nat → Int32} (hv : v = if 0 < y k then lnJ y F k (n - (k + 1)) (k + 1) 1 else 0) (h1 : L' k = nI v) (h2 : ∀ q, q ≠ k → L' q = s.2.1 29 q) : rsI n k y (va_up F k v) L' (if lg < v then v else lg) ∧ v + k ≤ n := by
  obtain ⟨i1, i2⟩ := hI
  have vk : va_up F k v k = v := if_pos rfl
  have vq : ∀ q, q ≠ k → va_up F k v q = F q := fun q hq => if_neg hq
  obtain ⟨s1, s2, s3⟩ := lnJ_spec (R := y) (A := F) (i := k) (n - (k + 1)) (k + 1) 1
  have hvk : v + k ≤ n := by
    by_cases c : 0 < y k
    · rw [if_pos c] at hv
      rw [← hv] at s3
      rcases s3 with z | ⟨q', z1, z2, z3, z4⟩
      · omega
      · have := (i1 q' z1 (by omega)).2.1
        omega
    · rw [if_neg c] at hv
      omega
  refine ⟨⟨fun q g1 g2 => ?_, ?_⟩, hvk⟩
  · by_cases cq : q = k
    · subst cq
      rw [vk]
      refine ⟨h1, hvk, by split <;> omega, fun z => by rw [hv, if_neg (by omega)], fun z => ?_⟩
      rw [if_pos z] at hv
      rw [← hv] at s1 s2 s3
      refine ⟨s1, fun q' q1 q2 q3 => ?_, ?_⟩
      · rw [vq q' (by omega)]
        exact s2 q' (by omega) (by omega) q3
      · rcases s3 with z | ⟨q', z1, z2, z3, z4⟩
        · exact Or.inl z
        · exact Or.inr ⟨q', by omega, by omega, z3, by rw [vq q' (by omega)]; exact z4⟩
    · obtain ⟨j1, j2, j3, j4, j5⟩ := i1 q (by omega) g2
      rw [vq q cq]
      refine ⟨(h2 q cq).trans j1, j2, by split <;> omega, j4, fun z => ?_⟩
      obtain ⟨j6, j7, j8⟩ := j5 z
      refine ⟨j6, fun q' q1 q2 q3 => ?_, ?_⟩
      · rw [vq q' (by omega)]
        exact j7 q' q1 q2 q3
      · rcases j8 with z | ⟨q', z1, z2, z3, z4⟩
        · exact Or.inl z
        · exact Or.inr ⟨q', z1, z2, z3, by rw [vq q' (by omega)]; exact z4⟩
  · by_cases c : lg < v
    · rw [if_pos c]
      refine Or.inr ⟨k, Nat.le_refl k, hk, ?_, vk⟩
      rcases Nat.eq_zero_or_pos (y k) with z | z
      · rw [if_neg (by omega)] at hv
        omega
      · exact z
    · rw [if_neg c]
      rcases i2 with z | ⟨q, z1, z2, z3, z4⟩
      · exact Or.inl z
      · exact Or.inr ⟨q, by omega, z2, z3, by rw [vq q (by omega)]; exact z4⟩
theorem len9_loop (hn : n ≤ 60) (hC : ∀ j, j < n → s0.2.1 22 j = dI (y j) ∧ y j ≤ 61) {a1 a2 : Value} : ∀ k F lg s a7, k ≤ n → lg ≤ 60 → sEx [29] s0 s → rsI n k y F (s.2.1 29) lg → (∀ s' F lg a6 a7, lg ≤ 60 → sEx [29] s0 s' → rsI n 0 y F (s'.2.1 29) lg → iWp 4 mX9_staying 190 [.ref x, a1, a2, a3, .int (nI n), .int (nI lg), a6, a7, a8, a9, a10, a11, a12] [] (mH b x s') Q) → iWp 4 mX9_staying 69 [.ref x, a1, a2, a3, .int (nI n), .int (nI lg), .int (dI k), a7, a8, a9, a10, a11, a12] [] (mH b x s) Q := by
  intro k
  induction k with
  | zero =>
    intro F lg s a7 hk hl hx hI hQ
    rw [X9_staying_69]
    simp only [X9_staying_71, iOb_some, iClr_i, iClr_r, iClr_n, iClr_u, iClr_l, rf_s, rf_n, iB_0, iSum_nil, dI_0, if_pos (by decide : (-1 : Int32) < 0)]
    exact hQ s F lg _ _ hl hx hI
  | succ k ih =>
    intro F lg s a7 hk hl hx hI hQ
    have hkn : k < n := by omega
    have ck : s.2.1 22 k = dI (y k) := (congrFun (hx.2.1 22 (by decide)) k).trans (hC k hkn).1
    have hyk := dI_n1 (a := y k) (by have := (hC k hkn).2; omega)
    -- the end of it, alike in both cases
    have fin : ∀ s3 v a7, sEx [29] s0 s3 → v = (if 0 < y k then lnJ y F k (n - (k + 1)) (k + 1) 1 else 0) → s3.2.1 29 k = nI v → (∀ q, q ≠ k → s3.2.1 29 q = s.2.1 29 q) → iWp 4 mX9_staying 170 [.ref x, a1, a2, a3, .int (nI n), .int (nI lg), .int (nI k), a7, a8, a9, a10, a11, a12] [] (mH b x s3) Q := by
      intro s3 v a7 x3 hv l1 l2
      obtain ⟨hs, hvk⟩ := rsI_step hkn hI hv l1 l2
      simp only [X9_staying_170, X9_staying_172, X9_staying_173, X9_staying_176, X9_staying_178, X9_staying_179, X9_staying_182, X9_staying_184, X9_staying_187, iOb_some, iClr_i, iClr_r, iClr_n, iClr_u, iClr_l, rf_s, rf_n, iB_0, iSum_nil, mg29, ml29 (show k < 66 by omega), l1, iSum_nil, i_maxN (show v < 2 ^ 31 by omega) (show lg < 2 ^ 31 by omega), dI_m]
      exact ih _ _ s3 _ (by omega) (by split <;> omega) x3 hs hQ
    rw [X9_staying_69]
    by_cases c : 0 < y k
    · have ni : ¬ dI (y k) = -1 := fun z => by have := hyk.mp z; omega
      generalize hs2 : mPut s 29 k 1 = s2
      have v2 : ∀ q, s2.2.1 29 q = if q = k then 1 else s.2.1 29 q := by
        intro q
        rw [← hs2, mPut_at, if_pos rfl]
      have x2 : sEx [29] s0 s2 := by
        rw [← hs2]
        exact hx.trans (mPut_ex (by decide))
      simp only [X9_staying_71, X9_staying_74, X9_staying_75, X9_staying_78, X9_staying_80, X9_staying_81, X9_staying_84, X9_staying_86, X9_staying_87, X9_staying_88, X9_staying_91, X9_staying_92, X9_staying_95, X9_staying_96, X9_staying_97, X9_staying_99, X9_staying_100, X9_staying_101, iOb_some, iClr_i, iClr_r, iClr_n, iClr_u, iClr_l, rf_s, rf_n, iB_0, iSum_nil, dI_c, if_neg (nI_pos (show k < 2 ^ 31 by omega)), mg22, mg29, ml22 (show k < 66 by omega), ck, if_neg ni, ms29 (show k < 66 by omega), hs2, nI_1]
      refine len9_in hn hC hkn c (fun q q1 q2 => (hI.1 q (by omega) q2).2.1) (n - (k + 1)) (k + 1) 1 s2 (by omega) (by omega) (by omega) x2 (by rw [v2, if_pos rfl]; rfl) (fun q q1 q2 => by rw [v2, if_neg (by omega)]; exact (hI.1 q (by omega) q2).1) (fun s3 a7 x3 l1 l2 => fin s3 _ a7 x3 (if_pos c).symm l1 (fun q hq => by rw [l2 q hq, v2, if_neg hq]))
    · have ni : dI (y k) = -1 := hyk.mpr (by omega)
      generalize hs2 : mPut s 29 k 0 = s2
      have v2 : ∀ q, s2.2.1 29 q = if q = k then 0 else s.2.1 29 q := by
        intro q
        rw [← hs2, mPut_at, if_pos rfl]
      have x2 : sEx [29] s0 s2 := by
        rw [← hs2]
        exact hx.trans (mPut_ex (by decide))
      have ck2 : s2.2.1 22 k = dI (y k) := (congrFun (x2.2.1 22 (by decide)) k).trans (hC k hkn).1
      simp only [X9_staying_71, X9_staying_74, X9_staying_75, X9_staying_78, X9_staying_80, X9_staying_81, X9_staying_84, X9_staying_86, X9_staying_87, X9_staying_88, X9_staying_91, X9_staying_92, X9_staying_95, X9_staying_96, X9_staying_97, X9_staying_99, X9_staying_100, X9_staying_101, iOb_some, iClr_i, iClr_r, iClr_n, iClr_u, iClr_l, rf_s, rf_n, iB_0, iSum_nil, dI_c, if_neg (nI_pos (show k < 2 ^ 31 by omega)), mg22, mg29, ml22 (show k < 66 by omega), ck, if_pos ni, ms29 (show k < 66 by omega), hs2, nI_1]
      have fin2 := fun a7 => fin s2 0 a7 x2 (if_neg c).symm (by rw [v2, if_pos rfl]; rfl) (fun q hq => by rw [v2, if_neg hq])
      by_cases c2 : k + 1 < n
      · simp only [X9_staying_103, X9_staying_105, X9_staying_107, X9_staying_110, X9_staying_111, X9_staying_114, X9_staying_116, X9_staying_117, X9_staying_118, iOb_some, iClr_i, iClr_r, iClr_n, iClr_u, iClr_l, rf_s, rf_n, iB_0, iSum_nil, if_neg (nI_ge c2 (show n < 2 ^ 31 by omega)), mg22, ml22 (show k < 66 by omega), ck2, if_pos ni]
        exact fin2 _
      · simp only [X9_staying_103, X9_staying_105, X9_staying_107, iOb_some, iClr_i, iClr_r, iClr_n, iClr_u, iClr_l, rf_s, rf_n, iB_0, iSum_nil, if_pos (nI_le (show n ≤ k + 1 by omega) (show k + 1 < 2 ^ 31 by omega))]
        exact fin2 _
theorem rsI_lnF (hI : rsI n 0 y F (s.2.1 29) lg) : lnF (iNy n y) iId y F ∧ pkM (iNy n y) F lg := by
  refine ⟨fun p hp => ?_, fun q hq => (hI.1 q (Nat.zero_le _) hq.1).2.2.1, ?_⟩
  · obtain ⟨a1, a2, a3⟩ := (hI.1 p (Nat.zero_le _) hp.1).2.2.2.2 hp.2
    refine ⟨a1, fun q hq hx hy => a2 q hx hq.1 hy, ?_⟩
    rcases a3 with z | ⟨q, z1, z2, z3, z4⟩
    · exact Or.inl z
    · exact Or.inr ⟨q, ⟨z2, by omega⟩, z1, z3, z4⟩
  · rcases hI.2 with z | ⟨q, z1, z2, z3, z4⟩
    · exact Or.inl z
    · exact Or.inr ⟨q, ⟨z2, z3⟩, z4⟩
end STAY9

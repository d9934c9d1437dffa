/-! THE WORLD, as both sides hold it: trees, patches, the seed; the image; shelves, refusals, the fault, how many patches were ever made -/
/-- a patch: edits, conflicts (how many), stamp, sort, source, the edits, the conflicts -/
abbrev pP : Type := Nat × Nat × Int32 × Int32 × Int32 × (Nat → Nat → Int32) × (Nat → Int32)
/-- trees, patches, seed -/
abbrev sT : Type := Nat × (Nat → tT) × Nat × (Nat → pP) × Int32
/-- a shelf: a row (sort, length, content), or what is shown -/
abbrev hS : Type := Option (Int32 × Nat × (Nat → Int64)) × Int32
abbrev wW : Type := sT × Option sT × (Nat → hS) × (Nat → Int32) × Int32 × Int32
def wNow (W : wW) (w : sT) : wW := (w, W.2)
def wImg (W : wW) (w : Option sT) : wW := (W.1, w, W.2.2)
def wShs (W : wW) (f : Nat → hS) : wW := (W.1, W.2.1, f, W.2.2.2)
def wSh (W : wW) (i : Nat) (v : hS) : wW := wShs W (va_up W.2.2.1 i v)
def wRef (W : wW) (k : Nat) : wW := (W.1, W.2.1, W.2.2.1, upd W.2.2.2.1 k (W.2.2.2.1 k + 1), W.2.2.2.2)
def wFault (W : wW) (v : Int32) : wW := (W.1, W.2.1, W.2.2.1, W.2.2.2.1, v, W.2.2.2.2.2)
def wEver (W : wW) (v : Int32) : wW := (W.1, W.2.1, W.2.2.1, W.2.2.2.1, W.2.2.2.2.1, v)
/-- an index below n -/
def iIx (i : Int32) (n : Nat) : Option Nat := if i < 0 ∨ nI n ≤ i then none else some i.toNatClampNeg
theorem iIx_n {i : Int32} {n : Nat} (h : i < 0 ∨ nI n ≤ i) : iIx i n = none := if_pos h
theorem iIx_s {j n : Nat} (h : j < n) (hn : n < 2 ^ 31) : iIx (nI j) n = some j := by
  unfold iIx
  rw [if_neg (fun z => z.elim (nI_pos (by omega)) (nI_ge h hn)), nI_clamp (by omega)]
theorem iIx_cases (i : Int32) {n : Nat} (hn : n < 2 ^ 31) : (iIx i n = none ∧ (i < 0 ∨ nI n ≤ i)) ∨ ∃ j, j < n ∧ i = nI j ∧ iIx i n = some j := by
  rcases pk_ix i hn with h | h | ⟨j, h1, h2⟩
  · exact Or.inl ⟨iIx_n (Or.inl h), Or.inl h⟩
  · exact Or.inl ⟨iIx_n (Or.inr h), Or.inr h⟩
  · exact Or.inr ⟨j, h1, h2, by rw [h2]; exact iIx_s h1 hn⟩
-- as it should be
def pOk (P : pP) : Prop := P.1 ≤ 120 ∧ P.2.1 ≤ 120 ∧ (∀ i, i < P.1 → eOk (P.2.2.2.2.2.1 i)) ∧ (P.2.2.2.1 = 0 ∨ P.2.2.2.1 = 1 ∨ P.2.2.2.1 = 2 ∨ P.2.2.2.1 = 3) ∧ (P.2.2.2.1 ≠ 3 → P.2.1 = 0)
def sOk (w : sT) : Prop := w.1 ≤ 16 ∧ w.2.2.1 ≤ 16 ∧ (∀ t, t < w.1 → tOk (w.2.1 t)) ∧ ∀ p, p < w.2.2.1 → pOk (w.2.2.2.1 p)
def so3 (x : Int32) : Prop := x = 0 ∨ x = 1 ∨ x = 2 ∨ x = 3
def shOk (pc : Nat) (s : hS) : Prop := match s.1 with
  | none => s.2 = -1 ∨ ∃ p, p < pc ∧ s.2 = nI p
  | some r => so3 r.1 ∧ r.2.1 ≤ 160 ∧ s.2 = -1
def wOk (W : wW) : Prop := sOk W.1 ∧ (∀ w, W.2.1 = some w → sOk w) ∧ ∀ i, i < 8 → shOk W.1.2.2.1 (W.2.2.1 i)
-- the reference holds it
def mPt (tl ed cf : Nat → Int32) (p : Nat) (P : pP) : Prop := tl p = nI P.1 ∧ tl (16 + p) = P.2.2.1 ∧ tl (32 + p) = P.2.2.2.1 ∧ tl (48 + p) = P.2.2.2.2.1 ∧ tl (64 + p) = nI P.2.1 ∧ (∀ i k, i < P.1 → k < 7 → ed (840 * p + (7 * i + k)) = P.2.2.2.2.2.1 i k) ∧ ∀ j, j < 2 * P.2.1 → cf (240 * p + j) = P.2.2.2.2.2.2 j
def mTr (ky lb dp : Nat → Int32) (t : Nat) (T : tT) : Prop := ∀ i, i < T.1 → ky (64 * t + i) = T.2.1 i ∧ lb (64 * t + i) = T.2.2.1 i ∧ dp (64 * t + i) = T.2.2.2 i
def mStt (tr : Int32) (sz ky lb dp : Nat → Int32) (pa : Int32) (tl ed cf : Nat → Int32) (sd : Int32) (w : sT) : Prop := tr = nI w.1 ∧ pa = nI w.2.2.1 ∧ sd = w.2.2.2.2 ∧ (∀ t, t < w.1 → sz t = nI (w.2.1 t).1 ∧ mTr ky lb dp t (w.2.1 t)) ∧ ∀ p, p < w.2.2.1 → mPt tl ed cf p (w.2.2.2.1 p)
abbrev mNow (s : mS) (w : sT) : Prop := mStt (s.1 0) (s.2.1 1) (s.2.1 2) (s.2.1 3) (s.2.1 4) (s.1 5) (s.2.1 7) (s.2.1 8) (s.2.1 9) (s.1 10) w
abbrev mOld (s : mS) (w : sT) : Prop := mStt (s.1 31) (s.2.1 32) (s.2.1 33) (s.2.1 34) (s.2.1 35) (s.1 36) (s.2.1 37) (s.2.1 38) (s.2.1 39) (s.1 40) w
/-- what the reference's shelf says -/
def hHold (s : hS) : Int32 := match s.1 with
  | none => s.2
  | some r => 100 + r.1
def mSh (s : mS) (i : Nat) (v : hS) : Prop := s.2.1 11 i = hHold v ∧ ∀ r, v.1 = some r → s.2.1 12 i = nI r.2.1 ∧ ∀ j, j < r.2.1 → s.2.2 (160 * i + j) = r.2.2 j
def mRel (s : mS) (W : wW) : Prop := mNow s W.1 ∧ (match W.2.1 with
  | none => s.1 30 = 0
  | some w => s.1 30 = 1 ∧ mOld s w) ∧ (∀ i, i < 8 → mSh s i (W.2.2.1 i)) ∧ (∀ k, k < 8 → s.2.1 17 k = W.2.2.2.1 k) ∧ s.1 14 = W.2.2.2.2.1 ∧ s.1 6 = W.2.2.2.2.2
/-- another state, alike but for some fields -/
def sEx (L : List Nat) (s s' : mS) : Prop := (∀ k, k ∉ L → s'.1 k = s.1 k) ∧ (∀ k, k ∉ L → s'.2.1 k = s.2.1 k) ∧ s'.2.2 = s.2.2
section WORLD
variable {s s' s'' : mS} {W : wW} {L : List Nat} {b : iHp} {x : Nat}
theorem sEx.refl : sEx L s s := ⟨fun _ _ => rfl, fun _ _ => rfl, rfl⟩
theorem sEx.trans (h : sEx L s s') (h2 : sEx L s' s'') : sEx L s s'' := ⟨fun k hk => (h2.1 k hk).trans (h.1 k hk), fun k hk => (h2.2.1 k hk).trans (h.2.1 k hk), h2.2.2.trans h.2.2⟩
theorem sEx.mono {L' : List Nat} (h : sEx L s s') (hl : ∀ k, k ∈ L → k ∈ L') : sEx L' s s' := ⟨fun k hk => h.1 k (fun z => hk (hl k z)), fun k hk => h.2.1 k (fun z => hk (hl k z)), h.2.2⟩
/-- the reference's fields for work alone -/
abbrev LX : List Nat := [15, 16, 18, 19, 20, 21, 22, 23, 24, 25, 26, 27, 28, 29]
abbrev LW : List Nat := [18, 19, 20, 21, 22, 23, 24]
theorem mRel.ex (h : sEx LX s s') (hR : mRel s W) : mRel s' W := by
  obtain ⟨n1, n2, n3⟩ := h
  have g : ∀ k, k ∉ LX → s.1 k = s'.1 k := fun k hk => (n1 k hk).symm
  have f : ∀ k, k ∉ LX → s.2.1 k = s'.2.1 k := fun k hk => (n2 k hk).symm
  unfold mRel mNow mOld mSh at *
  rw [g 0 (by decide), g 5 (by decide), g 10 (by decide), g 30 (by decide), g 31 (by decide), g 36 (by decide), g 40 (by decide), g 14 (by decide), g 6 (by decide), f 1 (by decide), f 2 (by decide), f 3 (by decide), f 4 (by decide), f 7 (by decide), f 8 (by decide), f 9 (by decide), f 11 (by decide), f 12 (by decide), f 17 (by decide), f 32 (by decide), f 33 (by decide), f 34 (by decide), f 35 (by decide), f 37 (by decide), f 38 (by decide), f 39 (by decide), n3.symm] at hR
  exact hR
theorem wS_ex {n : Nat} {K B D C E F : Nat → Int32} : sEx LW s (wS s n K B D C E F) := by
  refine ⟨fun k hk => ?_, fun k hk => ?_, rfl⟩
  · show va_up s.1 18 (nI n) k = s.1 k
    exact if_neg (fun z => hk (by rw [z]; decide))
  · refine wS_off ?_
    rcases Nat.lt_or_ge k 19 with w | w
    · exact Or.inl w
    · rcases Nat.lt_or_ge 24 k with w2 | w2
      · exact Or.inr w2
      · exfalso
        have : k = 19 ∨ k = 20 ∨ k = 21 ∨ k = 22 ∨ k = 23 ∨ k = 24 := by omega
        rcases this with z | z | z | z | z | z <;> (rw [z] at hk; exact hk (by decide))
theorem mSet_ex {k : Nat} {v : Int32} (hk : k ∈ L) : sEx L s (mSet s k v) := ⟨fun j hj => if_neg (fun z => hj (by rw [z]; exact hk)), fun _ _ => rfl, rfl⟩
theorem mPut_ex {k j : Nat} {v : Int32} (hk : k ∈ L) : sEx L s (mPut s k j v) := ⟨fun _ _ => rfl, fun q hq => if_neg (fun z => hq (by rw [z]; exact hk)), rfl⟩
-- a refusal
/-- the state with one more refusal -/
def mRf (s : mS) (k : Nat) : mS := mPut s 17 k (s.2.1 17 k + 1)
theorem mRf_rel (hR : mRel s W) {k : Nat} (hk : k < 8) : mRel (mRf s k) (wRef W k) := by
  obtain ⟨h1, h2, h3, h4, h5, h6⟩ := hR
  refine ⟨h1, h2, h3, fun j hj => ?_, h5, h6⟩
  show upd (s.2.1 17) k (s.2.1 17 k + 1) j = upd W.2.2.2.1 k (W.2.2.2.1 k + 1) j
  unfold upd
  rw [h4 k hk, h4 j hj]
theorem ev9_no {k : Nat} (hk : k < 8) : iEv mX9_no [.ref x, .int (-nI k)] (mH b x s) (some (.int (-nI k))) (mH b x (mRf s k)) := by
  refine J9_no ?_
  have e : - - nI k = nI k := Int32.neg_neg
  simp only [X9_no_0, X9_no_1, X9_no_4, X9_no_5, X9_no_6, X9_no_7, X9_no_8, X9_no_9, X9_no_10, X9_no_11, X9_no_12, iOb_some, iClr_i, iClr_r, iClr_n, iClr_u, iClr_l, rf_s, rf_n, iB_0, iSum_nil, mg17, e, ml17 hk, ms17 hk, and_self]
  exact ⟨trivial, rfl⟩
theorem ev9_no10 {k : Nat} (hk : k < 8) : iEv mX9_no10 [.ref x, .int (-nI k)] (mH b x s) (some (.int (-nI k - 10))) (mH b x (mRf s k)) := by
  refine J9_no10 ?_
  simp only [X9_no10_0, X9_no10_1, X9_no10_2 (ev9_no hk) mH_obj, X9_no10_5, X9_no10_7, X9_no10_8, iOb_some, iClr_i, iClr_r, iClr_n, iClr_u, iClr_l, rf_s, rf_n, iB_0, iSum_nil, and_self]
theorem i_w1 {n : Nat} : nI n - 1 = dI n := dI_s n
theorem within_iIx {i : Int32} {n : Nat} (hn : n < 2 ^ 31) : (decide (0 ≤ i) && decide (i ≤ dI n)) = (iIx i n).isSome := by
  rcases iIx_cases i hn with ⟨e, h⟩ | ⟨j, hj, rfl, e⟩
  · rw [e]
    rcases h with h | h
    · rw [decide_eq_false (Int32.not_le.mpr h)]
      rfl
    · cases n with
      | zero =>
        rw [show decide (i ≤ dI 0) = false from decide_eq_false (fun z => absurd (Int32.le_trans h z) (by decide)), Bool.and_false]
        rfl
      | succ n =>
        have : ¬ i ≤ nI n := fun z => nI_ge (a := n) (b := n + 1) (by omega) hn (Int32.le_trans h z)
        rw [show decide (i ≤ dI (n + 1)) = false from decide_eq_false this, Bool.and_false]
        rfl
  · rw [e, decide_eq_true (nI_pos' (by omega))]
    obtain ⟨m, rfl⟩ : ∃ m, n = m + 1 := ⟨n - 1, by omega⟩
    rw [show decide (nI j ≤ dI (m + 1)) = true from decide_eq_true (nI_le (by omega) (by omega))]
    rfl
theorem ev9_wi {i : Int32} {n : Nat} (hn : n < 2 ^ 31) {h : iHp} : iEv mX9_within [.int i, .int 0, .int (dI n)] h (some (.int (iB (iIx i n).isSome))) h := by
  have := ev9_within i 0 (dI n) (h := h)
  rwa [within_iIx hn] at this
theorem ev9_isTree {w : sT} (hN : mNow s w) (hw : w.1 ≤ 16) {t : Int32} : iEv mX9_isTree [.ref x, .int t] (mH b x s) (some (.int (iB (iIx t w.1).isSome))) (mH b x s) := by
  refine J9_isTree ?_
  simp only [X9_isTree_0, X9_isTree_1, X9_isTree_2, X9_isTree_3, X9_isTree_6, X9_isTree_7, X9_isTree_8 (ev9_wi (show w.1 < 2 ^ 31 by omega)), X9_isTree_11, X9_isTree_11z, X9_isTree_11o, iOb_some, iClr_i, iClr_r, iClr_n, iClr_u, iClr_l, rf_s, rf_n, iB_0, iSum_nil, mg0, hN.1, i_w1, and_self]
theorem ev9_isPatch {w : sT} (hN : mNow s w) (hw : w.2.2.1 ≤ 16) {t : Int32} : iEv mX9_isPatch [.ref x, .int t] (mH b x s) (some (.int (iB (iIx t w.2.2.1).isSome))) (mH b x s) := by
  refine J9_isPatch ?_
  simp only [X9_isPatch_0, X9_isPatch_1, X9_isPatch_2, X9_isPatch_3, X9_isPatch_6, X9_isPatch_7, X9_isPatch_8 (ev9_wi (show w.2.2.1 < 2 ^ 31 by omega)), X9_isPatch_11, X9_isPatch_11z, X9_isPatch_11o, iOb_some, iClr_i, iClr_r, iClr_n, iClr_u, iClr_l, rf_s, rf_n, iB_0, iSum_nil, mg5, hN.2.1, i_w1, and_self]
theorem ev9_wi7 {i : Int32} {h : iHp} : iEv mX9_within [.int i, .int 0, .int 7] h (some (.int (iB (iIx i 8).isSome))) h := ev9_wi (n := 8) (by decide)
theorem hold_row {v : hS} {pc : Nat} (hO : shOk pc v) (hpc : pc ≤ 16) : (v.1 = none → ¬ (100 : Int32) ≤ hHold v) ∧ (∀ r, v.1 = some r → (100 : Int32) ≤ hHold v) ∧ (hHold v < 0 ↔ v.1 = none ∧ v.2 = -1) := by
  obtain ⟨v1, v2⟩ := v
  cases v1 with
  | none =>
    rcases hO with z | ⟨p, hp, z⟩
    · have z : v2 = -1 := z
      subst z
      exact ⟨fun _ => (by decide : ¬ (100 : Int32) ≤ -1), (fun r hr => by cases hr), ⟨fun _ => ⟨rfl, rfl⟩, fun _ => (by decide : (-1 : Int32) < 0)⟩⟩
    · have z : v2 = nI p := z
      subst z
      refine ⟨fun _ => nI_ge (a := p) (b := 100) (by omega) (by decide), (fun r hr => by cases hr), ⟨fun q => absurd q (nI_pos (by omega)), fun q => ?_⟩⟩
      exact absurd q.2 (oI_ne (by omega))
  | some r =>
    obtain ⟨so, n, f⟩ := r
    have h1 : so3 so := hO.1
    have : (100 : Int32) ≤ 100 + so ∧ ¬ (100 + so < 0) := by
      rcases h1 with z | z | z | z <;> (subst z; decide)
    exact ⟨fun z => (by cases z), fun r _ => this.1, ⟨fun q => absurd q this.2, fun q => (by cases q.1)⟩⟩
theorem ev9_isRow (hR : mRel s W) (hW : wOk W) {i : Nat} (hi : i < 8) : iEv mX9_isRow [.ref x, .int (nI i)] (mH b x s) (some (.int (iB (W.2.2.1 i).1.isSome))) (mH b x s) := by
  refine J9_isRow ?_
  have h1 := hold_row (hW.2.2 i hi) hW.1.2.1
  have h2 := (hR.2.2.1 i hi).1
  cases e : (W.2.2.1 i).1 with
  | none =>
    simp only [X9_isRow_0, X9_isRow_1, X9_isRow_4, X9_isRow_5, X9_isRow_6, X9_isRow_8, X9_isRow_11, X9_isRow_12, X9_isRow_15, X9_isRow_16, X9_isRow_16z, X9_isRow_16o, iOb_some, iClr_i, iClr_r, iClr_n, iClr_u, iClr_l, rf_s, rf_n, iB_0, iSum_nil, mg11, ml11 hi, h2, if_pos (Int32.not_le.mp (h1.1 e))]
    exact ⟨rfl, trivial⟩
  | some r =>
    simp only [X9_isRow_0, X9_isRow_1, X9_isRow_4, X9_isRow_5, X9_isRow_6, X9_isRow_8, X9_isRow_11, X9_isRow_12, X9_isRow_15, X9_isRow_16, X9_isRow_16z, X9_isRow_16o, iOb_some, iClr_i, iClr_r, iClr_n, iClr_u, iClr_l, rf_s, rf_n, iB_0, iSum_nil, mg11, ml11 hi, h2, if_neg (Int32.not_lt.mpr (h1.2.1 r e))]
    exact ⟨rfl, trivial⟩
/-- why there is no row on a shelf: 0 there is -/
def aNoRow (W : wW) (s : Int32) : Int32 := match iIx s 8 with
  | none => -1
  | some i => match (W.2.2.1 i).1 with
    | some _ => 0
    | none => if (W.2.2.1 i).2 = -1 then -3 else -2
theorem ev9_noRow (hR : mRel s W) (hW : wOk W) {i : Int32} : iEv mX9_noRow [.ref x, .int i] (mH b x s) (some (.int (aNoRow W i))) (mH b x s) := by
  refine J9_noRow ?_
  unfold aNoRow
  rcases iIx_cases i (n := 8) (by decide) with ⟨e, -⟩ | ⟨j, hj, rfl, e⟩
  · have ew := ev9_wi7 (i := i) (h := mH b x s)
    rw [e] at ew ⊢
    simp only [X9_noRow_0, X9_noRow_1, X9_noRow_2, X9_noRow_4 ew, X9_noRow_7, X9_noRow_10, X9_noRow_11, X9_noRow_12, X9_noRow_13, X9_noRow_16, X9_noRow_17, X9_noRow_18, X9_noRow_21, X9_noRow_22, X9_noRow_26, X9_noRow_29, X9_noRow_31, X9_noRow_32, X9_noRow_33, X9_noRow_36, X9_noRow_37, X9_noRow_38, X9_noRow_41, X9_noRow_43, X9_noRow_46, X9_noRow_47, iOb_some, iClr_i, iClr_r, iClr_n, iClr_u, iClr_l, rf_s, rf_n, iB_0, iSum_nil, Option.isSome_none, if_true, and_self]
  · have ew := ev9_wi7 (i := nI j) (h := mH b x s)
    rw [e] at ew ⊢
    have h1 := hold_row (hW.2.2 j hj) hW.1.2.1
    have h2 := (hR.2.2.1 j hj).1
    have er := ev9_isRow (b := b) (x := x) hR hW hj
    cases e2 : (W.2.2.1 j).1 with
    | none =>
      rw [e2] at er
      by_cases c : (W.2.2.1 j).2 = -1
      · simp only [X9_noRow_0, X9_noRow_1, X9_noRow_2, X9_noRow_4 ew, X9_noRow_7, X9_noRow_10, X9_noRow_11, X9_noRow_12, X9_noRow_13, X9_noRow_16, X9_noRow_17, X9_noRow_18, X9_noRow_21, X9_noRow_22, X9_noRow_26, X9_noRow_29, X9_noRow_31, X9_noRow_32, X9_noRow_33, X9_noRow_36, X9_noRow_37, X9_noRow_38, X9_noRow_41, X9_noRow_43, X9_noRow_46, X9_noRow_47, iOb_some, iClr_i, iClr_r, iClr_n, iClr_u, iClr_l, rf_s, rf_n, iB_0, iSum_nil, Option.isSome_some, Bool.true_eq_false, if_false, mg11, ml11 hj, h2, if_pos (h1.2.2.mpr ⟨e2, c⟩), if_neg (Int32.not_le.mpr (h1.2.2.mpr ⟨e2, c⟩)), e2, if_pos c, and_self]
      · have c2 : ¬ hHold (W.2.2.1 j) < 0 := fun z => c (h1.2.2.mp z).2
        simp only [X9_noRow_0, X9_noRow_1, X9_noRow_2, X9_noRow_4 ew, X9_noRow_7, X9_noRow_10, X9_noRow_11, X9_noRow_12, X9_noRow_13, X9_noRow_16, X9_noRow_17, X9_noRow_18, X9_noRow_21, X9_noRow_22, X9_noRow_23 er mH_obj, X9_noRow_26, X9_noRow_29, X9_noRow_31, X9_noRow_32, X9_noRow_33, X9_noRow_36, X9_noRow_37, X9_noRow_38, X9_noRow_41, X9_noRow_43, X9_noRow_46, X9_noRow_47, iOb_some, iClr_i, iClr_r, iClr_n, iClr_u, iClr_l, rf_s, rf_n, iB_0, iSum_nil, Option.isSome_some, Option.isSome_none, Bool.true_eq_false, if_false, if_true, mg11, ml11 hj, h2, if_neg c2, e2, if_neg c, and_self]
    | some r =>
      rw [e2] at er
      have c2 : ¬ hHold (W.2.2.1 j) < 0 := fun z => by
        have := (h1.2.2.mp z).1
        rw [e2] at this
        cases this
      simp only [X9_noRow_0, X9_noRow_1, X9_noRow_2, X9_noRow_4 ew, X9_noRow_7, X9_noRow_10, X9_noRow_11, X9_noRow_12, X9_noRow_13, X9_noRow_16, X9_noRow_17, X9_noRow_18, X9_noRow_21, X9_noRow_22, X9_noRow_23 er mH_obj, X9_noRow_26, X9_noRow_29, X9_noRow_31, X9_noRow_32, X9_noRow_33, X9_noRow_36, X9_noRow_37, X9_noRow_38, X9_noRow_41, X9_noRow_43, X9_noRow_46, X9_noRow_47, iOb_some, iClr_i, iClr_r, iClr_n, iClr_u, iClr_l, rf_s, rf_n, iB_0, iSum_nil, Option.isSome_some, Bool.true_eq_false, if_false, mg11, ml11 hj, h2, if_neg c2, if_pos (Int32.not_lt.mp c2), e2, and_self]
theorem i16 (u j : Nat) : 16 * nI u + nI j = nI (16 * u + j) := by
  rw [show (16 : Int32) = nI 16 from rfl, pk_mul, nI_add]
theorem ev9_of {w p : Nat} (hw : w < 5) (hp : p < 16) : iEv mX9_of [.ref x, .int (nI w), .int (nI p)] (mH b x s) (some (.int (s.2.1 7 (16 * w + p)))) (mH b x s) := by
  refine J9_of ?_
  simp only [X9_of_0, X9_of_1, X9_of_4, X9_of_6, X9_of_7, X9_of_8, X9_of_9, X9_of_10, X9_of_11, iOb_some, iClr_i, iClr_r, iClr_n, iClr_u, iClr_l, rf_s, rf_n, iB_0, iSum_nil, mg7, i16, ml7 (show 16 * w + p < 80 by omega), and_self]
end WORLD

/-! the class holds the world: one object at o with what its constructor makes behind it (o .. o + 9); the reference lies at o + 10 .. o + 37; all else behind that -/
def cAt (h : iHp) (o sN : Nat) (im : Option Nat) (R : Nat → Option Nat) (sh rf : Nat → Int32) (fa ev : Int32) : Prop := h.1 o = some (.inr (8, [.ref (o + 1), .ref (o + 2), .ref (o + 3), .ref (o + 4), .ref sN, va_rf im, .int fa, .int ev])) ∧ h.1 (o + 1) = some (.inl (15, 8, .inr (.inr (.inr (.inr R))))) ∧ h.1 (o + 2) = some (.inl (0, 8, .inl sh)) ∧ h.1 (o + 3) = some (.inl (0, 8, .inl rf))
/-- a cell behind both, and not of the State that holds now -/
def oc (h : iHp) (o sN q : Nat) : Prop := o + 38 ≤ q ∧ q < h.2.1 ∧ (q < sN ∨ sN + 3 ≤ q)
def bTr (h : iHp) (o sN t : Nat) (T : tT) : Prop := (∃ K B D, trAt h t T.1 K B D ∧ tEq (T.1, K, B, D) T) ∧ ∀ j, j < 4 → oc h o sN (t + j)
def bPt (h : iHp) (o sN p : Nat) (Z : pP) : Prop := (∃ E C, ptAt h p Z.1 Z.2.1 Z.2.2.1 Z.2.2.2.1 Z.2.2.2.2.1 E C ∧ (∀ j, j < Z.1 → ∃ x, E j = some x ∧ edAt h x (Z.2.2.2.2.2.1 j) ∧ oc h o sN x) ∧ ∀ j, j < 2 * Z.2.1 → C j = Z.2.2.2.2.2.2 j) ∧ ∀ j, j < 3 → oc h o sN (p + j)
def bSt (h : iHp) (o sN : Nat) (T P : Nat → Option Nat) (w : sT) : Prop := (∀ j, j < w.1 → ∃ t, T j = some t ∧ bTr h o sN t (w.2.1 j)) ∧ (∀ j, j < w.2.2.1 → ∃ p, P j = some p ∧ bPt h o sN p (w.2.2.2.1 j)) ∧ (∀ j x, T j = some x → oc h o sN x ∧ iObj h x 7 = true) ∧ ∀ j x, P j = some x → oc h o sN x ∧ iObj h x 3 = true
def bIm (h : iHp) (o sN : Nat) (im : Option Nat) (w : Option sT) : Prop := match im, w with
  | none, none => True
  | some a, some w => ∃ T P, stAt h a w.1 w.2.2.1 w.2.2.2.2 T P ∧ bSt h o sN T P w ∧ ∀ j, j < 3 → oc h o sN (a + j)
  | _, _ => False
def bSh (h : iHp) (o sN : Nat) (r : Option Nat) (sh : Int32) (v : hS) : Prop := sh = v.2 ∧ (match r, v.1 with
  | none, none => True
  | some a, some z => (∃ f, rwAt h a z.1 z.2.1 f ∧ ∀ j, j < z.2.1 → f j = z.2.2 j) ∧ oc h o sN a ∧ oc h o sN (a + 1)
  | _, _ => False)
def bRw (h : iHp) (o sN : Nat) (R : Nat → Option Nat) (sh : Nat → Int32) (v : Nat → hS) : Prop := (∀ i, i < 8 → bSh h o sN (R i) (sh i) (v i)) ∧ ∀ i j a, i < 8 → j < 8 → R i = some a → R j = some a → i = j
def cLo (h : iHp) (o sN : Nat) : Prop := o + 38 ≤ h.2.1 ∧ (sN = o + 7 ∨ (o + 38 ≤ sN ∧ sN + 3 ≤ h.2.1))
def cRe (h : iHp) (o sN : Nat) (im : Option Nat) (R : Nat → Option Nat) (sh rf : Nat → Int32) (n k : Nat) (E : Nat → Option Nat) (C : Nat → Int32) (T P : Nat → Option Nat) (W : wW) : Prop := cAt h o sN im R sh rf W.2.2.2.2.1 W.2.2.2.2.2 ∧ drAt h (o + 4) n k E C ∧ stAt h sN W.1.1 W.1.2.2.1 W.1.2.2.2.2 T P ∧ cLo h o sN ∧ bSt h o sN T P W.1 ∧ bIm h o sN im W.2.1 ∧ bRw h o sN R sh W.2.2.1 ∧ ∀ j, j < 8 → rf j = W.2.2.2.1 j
def cRep (h : iHp) (o : Nat) (W : wW) : Prop := ∃ sN im R sh rf n k E C T P, cRe h o sN im R sh rf n k E C T P W
/-- what a call of the class leaves alone, and what it may make -/
def cFr (h h1 : iHp) (o : Nat) : Prop := (∀ q, (q < o ∨ (o + 10 ≤ q ∧ q < o + 38)) → h1.1 q = h.1 q) ∧ h.2.1 ≤ h1.2.1 ∧ h1.2.1 ≤ h.2.1 + 1000 ∧ h.2.2 ≤ h1.2.2 ∧ h1.2.2 ≤ h.2.2 + 14000
def c8P (h : iHp) (o : Nat) (v : Int32 × wW) (r : Option Value) (h1 : iHp) : Prop := r = some (.int v.1) ∧ cRep h1 o v.2 ∧ cFr h h1 o
def m9P (b : iHp) (x : Nat) (v : Int32 × wW) (r : Option Value) (h1 : iHp) : Prop := r = some (.int v.1) ∧ ∃ s, h1 = mH b x s ∧ mRel s v.2
section CWORLD
variable {h h' : iHp} {o sN sN' n k j t i : Nat} {im : Option Nat} {R E T P : Nat → Option Nat} {sh rf C : Nat → Int32} {W : wW} {fa ev v : Int32}
-- nothing but cells elsewhere has changed
/-- the cells that count are as they were, long rows aside -/
def agr (h h' : iHp) (o sN sN' : Nat) : Prop := ∀ q, oc h o sN q → oc h' o sN' q ∧ (h'.1 q = h.1 q ∨ ∃ m z, h.1 q = some (.inl (1, m, z)))
theorem agr.one (ha : agr h h' o sN sN') {q : Nat} {c : iPC} (hq : oc h o sN q) (e : h.1 q = some c) (hc : ∀ m z, c ≠ .inl (1, m, z)) : h'.1 q = some c := by
  rcases (ha q hq).2 with z | ⟨m, z, w⟩
  · exact z.trans e
  · rw [e] at w
    cases w
    exact absurd rfl (hc m z)
theorem agr.obj (ha : agr h h' o sN sN') {q ci : Nat} (hq : oc h o sN q) (e : iObj h q ci = true) : iObj h' q ci = true := by
  unfold iObj at e ⊢
  cases z : h.1 q with
  | none => rw [z] at e; cases e
  | some c =>
    rw [z] at e
    cases c with
    | inl c => cases e
    | inr c =>
      rw [ha.one hq z (fun m z w => by cases w)]
      exact e
theorem agr.tr (ha : agr h h' o sN sN') {U : tT} (hT : bTr h o sN t U) : bTr h' o sN' t U := by
  obtain ⟨⟨K, B, D, a, e⟩, oo⟩ := hT
  refine ⟨⟨K, B, D, ⟨ha.one (oo 0 (by decide)) a.1 (fun m z w => by cases w), ha.one (oo 1 (by decide)) a.2.1 (fun m z w => by cases w), ha.one (oo 2 (by decide)) a.2.2.1 (fun m z w => by cases w), ha.one (oo 3 (by decide)) a.2.2.2.1 (fun m z w => by cases w), a.2.2.2.2⟩, e⟩, fun j hj => (ha _ (oo j hj)).1⟩
theorem agr.pt (ha : agr h h' o sN sN') {p : Nat} {Z : pP} (hP : bPt h o sN p Z) : bPt h' o sN' p Z := by
  obtain ⟨⟨E, C, a, e, c⟩, oo⟩ := hP
  refine ⟨⟨E, C, ⟨ha.one (oo 0 (by decide)) a.1 (fun m z w => by cases w), ha.one (oo 1 (by decide)) a.2.1 (fun m z w => by cases w), ha.one (oo 2 (by decide)) a.2.2.1 (fun m z w => by cases w), a.2.2.2⟩, fun j hj => ?_, c⟩, fun j hj => (ha _ (oo j hj)).1⟩
  obtain ⟨x, e1, e2, e3⟩ := e j hj
  exact ⟨x, e1, ha.one e3 e2 (fun m z w => by cases w), (ha _ e3).1⟩
theorem agr.st (ha : agr h h' o sN sN') {w : sT} (hS : bSt h o sN T P w) : bSt h' o sN' T P w := by
  obtain ⟨h1, h2, h3, h4⟩ := hS
  refine ⟨fun j hj => ?_, fun j hj => ?_, fun j x e => ?_, fun j x e => ?_⟩
  · obtain ⟨t, e1, e2⟩ := h1 j hj
    exact ⟨t, e1, ha.tr e2⟩
  · obtain ⟨t, e1, e2⟩ := h2 j hj
    exact ⟨t, e1, ha.pt e2⟩
  · obtain ⟨a, b⟩ := h3 j x e
    exact ⟨(ha _ a).1, ha.obj a b⟩
  · obtain ⟨a, b⟩ := h4 j x e
    exact ⟨(ha _ a).1, ha.obj a b⟩
theorem agr.img (ha : agr h h' o sN sN') {w : Option sT} (hI : bIm h o sN im w) : bIm h' o sN' im w := by
  cases im with
  | none => cases w <;> exact hI
  | some a =>
    cases w with
    | none => exact hI
    | some w =>
      obtain ⟨T, P, s, b, oo⟩ := hI
      exact ⟨T, P, ⟨ha.one (oo 0 (by decide)) s.1 (fun m z w => by cases w), ha.one (oo 1 (by decide)) s.2.1 (fun m z w => by cases w), ha.one (oo 2 (by decide)) s.2.2.1 (fun m z w => by cases w), s.2.2.2⟩, ha.st b, fun j hj => (ha _ (oo j hj)).1⟩
/-- the same, rows too -/
def agt (h h' : iHp) (o sN sN' : Nat) : Prop := ∀ q, oc h o sN q → oc h' o sN' q ∧ h'.1 q = h.1 q
theorem agt.agr (ha : agt h h' o sN sN') : agr h h' o sN sN' := fun q hq => ⟨(ha q hq).1, Or.inl (ha q hq).2⟩
theorem agt.shf (ha : agt h h' o sN sN') {r : Option Nat} {u : hS} (hS : bSh h o sN r v u) : bSh h' o sN' r v u := by
  obtain ⟨h1, h2⟩ := hS
  refine ⟨h1, ?_⟩
  cases r with
  | none => cases e : u.1 <;> (rw [e] at h2; exact h2)
  | some a =>
    cases e : u.1 with
    | none => rw [e] at h2; exact h2
    | some z =>
      rw [e] at h2
      obtain ⟨⟨f, rw, ff⟩, o1, o2⟩ := h2
      exact ⟨⟨f, ⟨(ha _ o1).2.trans rw.1, (ha _ o2).2.trans rw.2.1, rw.2.2⟩, ff⟩, (ha _ o1).1, (ha _ o2).1⟩
theorem agt.rw (ha : agt h h' o sN sN') {u : Nat → hS} (hS : bRw h o sN R sh u) : bRw h' o sN' R sh u := ⟨fun i hi => ha.shf (hS.1 i hi), hS.2⟩
-- what is read
section READ
variable (hR : cRe h o sN im R sh rf n k E C T P W)
theorem cRe.ob (hR : cRe h o sN im R sh rf n k E C T P W) : iObj h o 8 = true := iObj_of hR.1.1
theorem cRe.g0 (hR : cRe h o sN im R sh rf n k E C T P W) : iGet h o 8 0 = some (.ref (o + 1)) := iGet_of hR.1.1
theorem cRe.g1 (hR : cRe h o sN im R sh rf n k E C T P W) : iGet h o 8 1 = some (.ref (o + 2)) := iGet_of hR.1.1
theorem cRe.g2 (hR : cRe h o sN im R sh rf n k E C T P W) : iGet h o 8 2 = some (.ref (o + 3)) := iGet_of hR.1.1
theorem cRe.g3 (hR : cRe h o sN im R sh rf n k E C T P W) : iGet h o 8 3 = some (.ref (o + 4)) := iGet_of hR.1.1
theorem cRe.g4 (hR : cRe h o sN im R sh rf n k E C T P W) : iGet h o 8 4 = some (.ref sN) := iGet_of hR.1.1
theorem cRe.g5 (hR : cRe h o sN im R sh rf n k E C T P W) : iGet h o 8 5 = some (va_rf im) := iGet_of hR.1.1
theorem cRe.g6 (hR : cRe h o sN im R sh rf n k E C T P W) : iGet h o 8 6 = some (.int W.2.2.2.2.1) := iGet_of hR.1.1
theorem cRe.g7 (hR : cRe h o sN im R sh rf n k E C T P W) : iGet h o 8 7 = some (.int W.2.2.2.2.2) := iGet_of hR.1.1
theorem cRe.lR (hR : cRe h o sN im R sh rf n k E C T P W) (hi : i < 8) : iLdQ h (o + 1) (nI i) = some (R i) := iLdQ_of hR.1.2.1 rfl hi (by decide)
theorem cRe.lS (hR : cRe h o sN im R sh rf n k E C T P W) (hi : i < 8) : iLdI h (o + 2) (nI i) = some (sh i) := iLdI_of hR.1.2.2.1 hi (by decide)
theorem cRe.lF (hR : cRe h o sN im R sh rf n k E C T P W) (hi : i < 8) : iLdI h (o + 3) (nI i) = some (rf i) := iLdI_of hR.1.2.2.2 hi (by decide)
theorem cRe.shv (hR : cRe h o sN im R sh rf n k E C T P W) (hi : i < 8) : sh i = (W.2.2.1 i).2 := (hR.2.2.2.2.2.2.1.1 i hi).1
theorem cRe.rN (hR : cRe h o sN im R sh rf n k E C T P W) (hi : i < 8) (e : (W.2.2.1 i).1 = none) : R i = none := by
  have := (hR.2.2.2.2.2.2.1.1 i hi).2
  rw [e] at this
  cases z : R i with
  | none => rfl
  | some a => rw [z] at this; exact this.elim
theorem cRe.rS (hR : cRe h o sN im R sh rf n k E C T P W) (hi : i < 8) {z : Int32 × Nat × (Nat → Int64)} (e : (W.2.2.1 i).1 = some z) : ∃ a f, R i = some a ∧ rwAt h a z.1 z.2.1 f ∧ (∀ j, j < z.2.1 → f j = z.2.2 j) ∧ oc h o sN a ∧ oc h o sN (a + 1) := by
  have := (hR.2.2.2.2.2.2.1.1 i hi).2
  rw [e] at this
  cases w : R i with
  | none => rw [w] at this; exact this.elim
  | some a =>
    rw [w] at this
    obtain ⟨⟨f, a1, a2⟩, a3, a4⟩ := this
    exact ⟨a, f, rfl, a1, a2, a3, a4⟩
theorem c8_treeN (hR : cRe h o sN im R sh rf n k E C T P W) {t : Int32} (e : t < 0 ∨ nI W.1.1 ≤ t) : iEv mX8_treeAt [.ref o, .int t] h (some .null) h := by
  refine J8_treeAt ?_
  simp only [X8_treeAt_0, X8_treeAt_1, X8_treeAt_4, X8_treeAt_5 (ev_streeN hR.2.2.1 e) hR.2.2.1.o, X8_treeAt_8, X8_treeAt_8n, iOb_some, iClr_i, iClr_r, iClr_n, iClr_u, iClr_l, rf_s, rf_n, iB_0, iSum_nil, hR.g4, and_self]
theorem c8_tree (hR : cRe h o sN im R sh rf n k E C T P W) (hj : j < W.1.1) : ∃ a K B D, iEv mX8_treeAt [.ref o, .int (nI j)] h (some (.ref a)) h ∧ trAt h a (W.1.2.1 j).1 K B D ∧ tEq ((W.1.2.1 j).1, K, B, D) (W.1.2.1 j) ∧ ∀ i, i < 4 → oc h o sN (a + i) := by
  obtain ⟨t, e1, ⟨K, B, D, a, e⟩, oo⟩ := hR.2.2.2.2.1.1 j hj
  refine ⟨t, K, B, D, ?_, a, e, oo⟩
  refine J8_treeAt ?_
  simp only [X8_treeAt_0, X8_treeAt_1, X8_treeAt_4, X8_treeAt_5 (ev_stree hR.2.2.1 hj e1) hR.2.2.1.o, X8_treeAt_8, X8_treeAt_8n, iOb_some, iClr_i, iClr_r, iClr_n, iClr_u, iClr_l, rf_s, rf_n, iB_0, iSum_nil, hR.g4, and_self]
theorem c8_patchN (hR : cRe h o sN im R sh rf n k E C T P W) {t : Int32} (e : t < 0 ∨ nI W.1.2.2.1 ≤ t) : iEv mX8_patchAt [.ref o, .int t] h (some .null) h := by
  refine J8_patchAt ?_
  simp only [X8_patchAt_0, X8_patchAt_1, X8_patchAt_4, X8_patchAt_5 (ev_spatchN hR.2.2.1 e) hR.2.2.1.o, X8_patchAt_8, X8_patchAt_8n, iOb_some, iClr_i, iClr_r, iClr_n, iClr_u, iClr_l, rf_s, rf_n, iB_0, iSum_nil, hR.g4, and_self]
theorem c8_patch (hR : cRe h o sN im R sh rf n k E C T P W) (hj : j < W.1.2.2.1) : ∃ a, iEv mX8_patchAt [.ref o, .int (nI j)] h (some (.ref a)) h ∧ bPt h o sN a (W.1.2.2.2.1 j) := by
  obtain ⟨t, e1, e2⟩ := hR.2.2.2.2.1.2.1 j hj
  refine ⟨t, ?_, e2⟩
  refine J8_patchAt ?_
  simp only [X8_patchAt_0, X8_patchAt_1, X8_patchAt_4, X8_patchAt_5 (ev_spatch hR.2.2.1 hj e1) hR.2.2.1.o, X8_patchAt_8, X8_patchAt_8n, iOb_some, iClr_i, iClr_r, iClr_n, iClr_u, iClr_l, rf_s, rf_n, iB_0, iSum_nil, hR.g4, and_self]
theorem c8_isShelf {h : iHp} (i : Int32) : iEv mX8_isShelf [.int i] h (some (.int (iB (iIx i 8).isSome))) h := by
  refine J8_isShelf ?_
  rcases iIx_cases i (n := 8) (by decide) with ⟨e, z⟩ | ⟨j, hj, rfl, e⟩
  · rw [e]
    by_cases c : i < 0
    · simp only [X8_isShelf_0, X8_isShelf_1, X8_isShelf_4, X8_isShelf_5, X8_isShelf_7, X8_isShelf_10, X8_isShelf_11, X8_isShelf_14, X8_isShelf_15, X8_isShelf_15z, X8_isShelf_15o, iOb_some, iClr_i, iClr_r, iClr_n, iClr_u, iClr_l, rf_s, rf_n, iB_0, iSum_nil, if_pos c]
      exact ⟨rfl, trivial⟩
    · have c2 : (8 : Int32) ≤ i := z.resolve_left c
      simp only [X8_isShelf_0, X8_isShelf_1, X8_isShelf_4, X8_isShelf_5, X8_isShelf_7, X8_isShelf_10, X8_isShelf_11, X8_isShelf_14, X8_isShelf_15, X8_isShelf_15z, X8_isShelf_15o, iOb_some, iClr_i, iClr_r, iClr_n, iClr_u, iClr_l, rf_s, rf_n, iB_0, iSum_nil, if_neg c, if_pos c2]
      exact ⟨rfl, trivial⟩
  · rw [e]
    simp only [X8_isShelf_0, X8_isShelf_1, X8_isShelf_4, X8_isShelf_5, X8_isShelf_7, X8_isShelf_10, X8_isShelf_11, X8_isShelf_14, X8_isShelf_15, X8_isShelf_15z, X8_isShelf_15o, iOb_some, iClr_i, iClr_r, iClr_n, iClr_u, iClr_l, rf_s, rf_n, iB_0, iSum_nil, if_neg (nI_pos (show j < 2 ^ 31 by omega)), if_neg (show ¬ (8 : Int32) ≤ nI j from nI_ge (b := 8) hj (by decide))]
    exact ⟨rfl, trivial⟩
theorem c8_rowN (hR : cRe h o sN im R sh rf n k E C T P W) {i : Int32} (e : ∀ j, iIx i 8 = some j → (W.2.2.1 j).1 = none) : iEv mX8_rowAt [.ref o, .int i] h (some .null) h := by
  refine J8_rowAt ?_
  have es := c8_isShelf (h := h) i
  rcases iIx_cases i (n := 8) (by decide) with ⟨e1, z⟩ | ⟨j, hj, rfl, e1⟩
  · rw [e1] at es
    simp only [X8_rowAt_0, X8_rowAt_1 es, X8_rowAt_4, X8_rowAt_7, X8_rowAt_8, X8_rowAt_11, X8_rowAt_12, X8_rowAt_13, X8_rowAt_16, X8_rowAt_17, X8_rowAt_17n, iOb_some, iClr_i, iClr_r, iClr_n, iClr_u, iClr_l, rf_s, rf_n, iB_0, iSum_nil, Option.isSome_none, if_true, and_self]
  · rw [e1] at es
    simp only [X8_rowAt_0, X8_rowAt_1 es, X8_rowAt_4, X8_rowAt_7, X8_rowAt_8, X8_rowAt_11, X8_rowAt_12, X8_rowAt_13, X8_rowAt_16, X8_rowAt_17, X8_rowAt_17n, iOb_some, iClr_i, iClr_r, iClr_n, iClr_u, iClr_l, rf_s, rf_n, iB_0, iSum_nil, Option.isSome_some, Bool.true_eq_false, if_false, hR.g0, hR.lR hj, hR.rN hj (e j e1), and_self]
theorem c8_row (hR : cRe h o sN im R sh rf n k E C T P W) (hi : i < 8) {a : Nat} (e : R i = some a) : iEv mX8_rowAt [.ref o, .int (nI i)] h (some (.ref a)) h := by
  refine J8_rowAt ?_
  have es := c8_isShelf (h := h) (nI i)
  rw [iIx_s hi (by decide)] at es
  simp only [X8_rowAt_0, X8_rowAt_1 es, X8_rowAt_4, X8_rowAt_7, X8_rowAt_8, X8_rowAt_11, X8_rowAt_12, X8_rowAt_13, X8_rowAt_16, X8_rowAt_17, X8_rowAt_17n, iOb_some, iClr_i, iClr_r, iClr_n, iClr_u, iClr_l, rf_s, rf_n, iB_0, iSum_nil, Option.isSome_some, Bool.true_eq_false, if_false, hR.g0, hR.lR hi, e, and_self]
theorem c8_why (hR : cRe h o sN im R sh rf n k E C T P W) {i : Int32} (hn : aNoRow W i ≠ 0) : iEv mX8_whyNoRow [.ref o, .int i] h (some (.int (aNoRow W i))) h := by
  refine J8_whyNoRow ?_
  have es := c8_isShelf (h := h) i
  unfold aNoRow at hn ⊢
  rcases iIx_cases i (n := 8) (by decide) with ⟨e1, z⟩ | ⟨j, hj, rfl, e1⟩
  · rw [e1] at es ⊢
    simp only [X8_whyNoRow_0, X8_whyNoRow_1 es, X8_whyNoRow_4, X8_whyNoRow_7, X8_whyNoRow_8, X8_whyNoRow_9, X8_whyNoRow_10, X8_whyNoRow_13, X8_whyNoRow_14, X8_whyNoRow_15, X8_whyNoRow_16, X8_whyNoRow_19, X8_whyNoRow_21, X8_whyNoRow_24, X8_whyNoRow_26, iOb_some, iClr_i, iClr_r, iClr_n, iClr_u, iClr_l, rf_s, rf_n, iB_0, iSum_nil, Option.isSome_none, if_true, and_self]
  · rw [e1] at es hn ⊢
    dsimp only at hn ⊢
    cases e2 : (W.2.2.1 j).1 with
    | some r => rw [e2] at hn; exact absurd rfl hn
    | none =>
      by_cases c : (W.2.2.1 j).2 = -1
      · simp only [X8_whyNoRow_0, X8_whyNoRow_1 es, X8_whyNoRow_4, X8_whyNoRow_7, X8_whyNoRow_8, X8_whyNoRow_9, X8_whyNoRow_10, X8_whyNoRow_13, X8_whyNoRow_14, X8_whyNoRow_15, X8_whyNoRow_16, X8_whyNoRow_19, X8_whyNoRow_21, X8_whyNoRow_24, X8_whyNoRow_26, iOb_some, iClr_i, iClr_r, iClr_n, iClr_u, iClr_l, rf_s, rf_n, iB_0, iSum_nil, Option.isSome_some, Bool.true_eq_false, if_false, hR.g1, hR.lS hj, hR.shv hj, if_pos c, and_self]
      · simp only [X8_whyNoRow_0, X8_whyNoRow_1 es, X8_whyNoRow_4, X8_whyNoRow_7, X8_whyNoRow_8, X8_whyNoRow_9, X8_whyNoRow_10, X8_whyNoRow_13, X8_whyNoRow_14, X8_whyNoRow_15, X8_whyNoRow_16, X8_whyNoRow_19, X8_whyNoRow_21, X8_whyNoRow_24, X8_whyNoRow_26, iOb_some, iClr_i, iClr_r, iClr_n, iClr_u, iClr_l, rf_s, rf_n, iB_0, iSum_nil, Option.isSome_some, Bool.true_eq_false, if_false, hR.g1, hR.lS hj, hR.shv hj, if_neg c, and_self]
end READ
-- what is written
theorem iStI_off {q a m : Nat} {c : iPC} (h1 : q ≠ a) : (iSet h a c).1 q = h.1 q := if_neg h1
/-- one more refusal -/
def cRf (h : iHp) (o k : Nat) (rf : Nat → Int32) : iHp := iSet h (o + 3) (.inl (0, 8, .inl (upd rf k (rf k + 1))))
theorem oc_off {q a : Nat} {c : iPC} (hq : oc h o sN q) (ha : a < o + 38) : oc (iSet h a c) o sN q ∧ (iSet h a c).1 q = h.1 q := ⟨hq, if_neg (by have := hq.1; omega)⟩
theorem agt_set {a : Nat} {c : iPC} (ha : a < o + 38) : agt h (iSet h a c) o sN sN := fun q hq => oc_off hq ha
theorem drAt.off {a d : Nat} {c : iPC} (hS : drAt h d n k E C) (ha : a < d ∨ d + 3 ≤ a) : drAt (iSet h a c) d n k E C := ⟨(if_neg (by omega)).trans hS.1, (if_neg (by omega)).trans hS.2.1, (if_neg (by omega)).trans hS.2.2.1, hS.2.2.2⟩
theorem stAt.off {a s tc pc : Nat} {se : Int32} {c : iPC} (hS : stAt h s tc pc se T P) (ha : a < s ∨ s + 3 ≤ a) : stAt (iSet h a c) s tc pc se T P := ⟨(if_neg (by omega)).trans hS.1, (if_neg (by omega)).trans hS.2.1, (if_neg (by omega)).trans hS.2.2.1, hS.2.2.2⟩
theorem c8_rf (hR : cRe h o sN im R sh rf n k E C T P W) {r : Nat} (hr : r < 8) : cRe (cRf h o r rf) o sN im R sh (upd rf r (rf r + 1)) n k E C T P (wRef W r) := by
  obtain ⟨⟨a1, a2, a3, a4⟩, hd, hs, hl, hb, hi, hw, hf⟩ := hR
  have ag : agt h (cRf h o r rf) o sN sN := agt_set (by omega)
  have hsN : sN = o + 7 ∨ o + 38 ≤ sN := by have := hl.2; omega
  refine ⟨⟨(if_neg (by omega)).trans a1, (if_neg (by omega)).trans a2, (if_neg (by omega)).trans a3, if_pos rfl⟩, hd.off (by omega), hs.off (by omega), hl, ag.agr.st hb, ag.agr.img hi, ag.rw hw, fun j hj => ?_⟩
  show upd rf r (rf r + 1) j = upd W.2.2.2.1 r (W.2.2.2.1 r + 1) j
  unfold upd
  rw [hf r hr, hf j hj]
theorem cRf_fr {r : Nat} : cFr h (cRf h o r rf) o := ⟨fun q hq => if_neg (by omega), Nat.le_refl _, Nat.le_add_right _ _, Nat.le_refl _, Nat.le_add_right _ _⟩
theorem cFr.refl : cFr h h o := ⟨fun _ _ => rfl, Nat.le_refl _, Nat.le_add_right _ _, Nat.le_refl _, Nat.le_add_right _ _⟩
theorem ev8_refuse (hR : cRe h o sN im R sh rf n k E C T P W) {r : Nat} (hr0 : 0 < r) (hr : r < 8) (hv : v = - nI r) : iEv mX8_refuse [.ref o, .int v] h (some (.int v)) (cRf h o r rf) := by
  refine J8_refuse ?_
  subst hv
  have c : ¬ (-nI r < -7) ∧ ¬ (-1 < -nI r) := by
    match r, hr0, hr with
    | 1, _, _ => decide
    | 2, _, _ => decide
    | 3, _, _ => decide
    | 4, _, _ => decide
    | 5, _, _ => decide
    | 6, _, _ => decide
    | 7, _, _ => decide
  have e : - - nI r = nI r := Int32.neg_neg
  simp only [X8_refuse_0, X8_refuse_1, X8_refuse_3, X8_refuse_6, X8_refuse_7, X8_refuse_8, X8_refuse_11, X8_refuse_12, X8_refuse_15, X8_refuse_16, X8_refuse_17, X8_refuse_18, X8_refuse_19, X8_refuse_20, X8_refuse_21, X8_refuse_22, X8_refuse_23, iOb_some, iClr_i, iClr_r, iClr_n, iClr_u, iClr_l, rf_s, rf_n, iB_0, iSum_nil, if_neg c.1, if_neg c.2, hR.g2, e, hR.lF hr, iStI_of hR.1.2.2.2 hr (by decide), and_self]
  exact ⟨trivial, rfl⟩
theorem ev8_refuseLower (hR : cRe h o sN im R sh rf n k E C T P W) {r : Nat} (hr0 : 0 < r) (hr : r < 8) (hv : v = - nI r) : iEv mX8_refuseLower [.ref o, .int v] h (some (.int (v - 10))) (cRf h o r rf) := by
  refine J8_refuseLower ?_
  simp only [X8_refuseLower_0, X8_refuseLower_1, X8_refuseLower_2 (ev8_refuse hR hr0 hr hv) hR.ob, X8_refuseLower_5, X8_refuseLower_7, X8_refuseLower_8, iOb_some, iClr_i, iClr_r, iClr_n, iClr_u, iClr_l, rf_s, rf_n, iB_0, iSum_nil, and_self]
/-- the end of a call that refuses -/
theorem c8_end (hR : cRe h o sN im R sh rf n k E C T P W) {r : Nat} (hr : r < 8) {u : Int32} : c8P h o (u, wRef W r) (some (.int u)) (cRf h o r rf) := ⟨rfl, ⟨sN, im, R, sh, _, n, k, E, C, T, P, c8_rf hR hr⟩, cRf_fr⟩
theorem c8_same (hR : cRe h o sN im R sh rf n k E C T P W) {u : Int32} : c8P h o (u, W) (some (.int u)) h := ⟨rfl, ⟨sN, im, R, sh, _, n, k, E, C, T, P, hR⟩, cFr.refl⟩
end CWORLD

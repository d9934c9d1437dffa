/-! THE REAL MACHINE HOLDS A PURE STATE: relations, and how they are kept -/
theorem inX0 : ∀ w ∈ u_ws RX0 TX0 7, w ∈ lw_tbl := by decide +kernel
theorem inX1 : ∀ w ∈ u_ws RX1 TX1 4, w ∈ lw_tbl := by decide +kernel
theorem inX2 : ∀ w ∈ u_ws RX2 TX2 7, w ∈ lw_tbl := by decide +kernel
theorem inX3 : ∀ w ∈ u_ws RX3 TX3 5, w ∈ lw_tbl := by decide +kernel
theorem inX4 : ∀ w ∈ u_ws RX4 TX4 4, w ∈ lw_tbl := by decide +kernel
theorem inX5 : ∀ w ∈ u_ws RX5 TX5 2, w ∈ lw_tbl := by decide +kernel
theorem inX6 : ∀ w ∈ u_ws RX6 TX6 5, w ∈ lw_tbl := by decide +kernel
theorem inX7 : ∀ w ∈ u_ws RX7 TX7 4, w ∈ lw_tbl := by decide +kernel
theorem inX8 : ∀ w ∈ u_ws RX8 TX8 8, w ∈ lw_tbl := by decide +kernel
theorem inX9 : ∀ w ∈ u_ws RX9 TX9 41, w ∈ lw_tbl := by decide +kernel
theorem i_lt10 {P : Nat → Prop} (h0 : P 0) (h1 : P 1) (h2 : P 2) (h3 : P 3) (h4 : P 4) (h5 : P 5) (h6 : P 6) (h7 : P 7) (h8 : P 8) (h9 : P 9) : ∀ c, c < 10 → P c := by
  intro c hc
  match c, hc with
  | 0, _ => exact h0
  | 1, _ => exact h1
  | 2, _ => exact h2
  | 3, _ => exact h3
  | 4, _ => exact h4
  | 5, _ => exact h5
  | 6, _ => exact h6
  | 7, _ => exact h7
  | 8, _ => exact h8
  | 9, _ => exact h9
def lw_ok : List Cond := lw_tbl.filter goodWord
theorem iok {w : Cond} (h : w ∈ lw_tbl) (hg : goodWord w = true) : w ∈ lw_ok := List.mem_filter.mpr ⟨h, hg⟩
theorem i_layok {C : String} {T : u_T} {N : Nat} : ∀ w ∈ u_ws C T N, goodWord w = true := by
  intro w hw
  obtain ⟨k, -, rfl⟩ := List.mem_map.mp hw
  unfold u_lay
  split <;> rfl
theorem i_in0 : ∀ c, c < 10 → ∀ w ∈ u_ws (iOwn c) (iT c) (iN c), w ∈ lw_tbl := i_lt10 inX0 inX1 inX2 inX3 inX4 inX5 inX6 inX7 inX8 inX9
theorem i_in (c : Nat) (hc : c < 10) : ∀ w ∈ u_ws (iOwn c) (iT c) (iN c), w ∈ lw_ok := fun w hw => iok (i_in0 c hc w hw) (i_layok w hw)
theorem i_cl : ∀ c, c < 10 → iCl[c]? = some (iOwn c, iT c, iN c) := i_lt10 rfl rfl rfl rfl rfl rfl rfl rfl rfl rfl
theorem i_ty : ∀ c, c < 10 → ∀ k, k < iN c → parseFieldDescriptor (iT c k).2.2.1 = some (iTy c k) := i_lt10 tyX0_ok tyX1_ok tyX2_ok tyX3_ok tyX4_ok tyX5_ok tyX6_ok tyX7_ok tyX8_ok tyX9_ok
theorem i_nm : ∀ c, c < 10 → ∀ a, a < iN c → ∀ b, b < iN c → a ≠ b → (iT c a).2.1 ≠ (iT c b).2.1 := i_lt10 nmX0 nmX1 nmX2 nmX3 nmX4 nmX5 nmX6 nmX7 nmX8 nmX9
theorem i_inst : ∀ c, c < 10 → Cond.instantiable (iOwn c) (iN c) ∈ lw_tbl := i_lt10 (by decide +kernel) (by decide +kernel) (by decide +kernel) (by decide +kernel) (by decide +kernel) (by decide +kernel) (by decide +kernel) (by decide +kernel) (by decide +kernel) (by decide +kernel)
theorem i_init : ∀ c, c < 11 → Cond.initialized (iOwn c) ∈ lw_tbl := by
  intro c hc
  by_cases h : c = 10
  · subst h; decide +kernel
  · exact i_lt10 (P := fun c => Cond.initialized (iOwn c) ∈ lw_tbl) (by decide +kernel) (by decide +kernel) (by decide +kernel) (by decide +kernel) (by decide +kernel) (by decide +kernel) (by decide +kernel) (by decide +kernel) (by decide +kernel) (by decide +kernel) c (by omega)
theorem i_goodIn {ws : List Cond} (h : ∀ w ∈ ws, w ∈ lw_ok) : GoodIn lw_ok ws := fun w hw => ⟨h w hw, good_of_word (List.mem_filter.mp (h w hw)).2⟩
/-- words that only a warmer state keeps -/
def iNest (w : Cond) : Bool := match w with
  | .fieldLinkNest _ _ _ _ _ _ => true
  | .methodLinkNest _ _ _ _ => true
  | .arrayOver (.object _) => true
  | _ => false
theorem iNest_warm {w : Cond} (hw : iNest w = true) {s U : State} (hW : s.WarmedH U.vm) (h : va_Nw w s) : va_Nw w U := by
  unfold iNest at hw
  split at hw
  · exact va_Nw.warmF hW h
  · exact va_Nw.warmM hW h
  · exact va_AO.moved hW.alike h
  · cases hw
theorem iNest_same {w : Cond} (hw : iNest w = true) {s U : State} (e : s.vm = U.vm) (h : va_Nw w s) : va_Nw w U := by
  unfold iNest at hw
  split at hw
  · exact va_Nw.same rfl e h
  · exact va_Nw.same rfl e h
  · exact va_AO.moved (by rw [e]; exact Vm.Alike.refl _) h
  · cases hw
-- the picture
abbrev iG : Type := va_G × (Nat → ClassId) × Nat × Cell
def iTys (dA : Nat → ClassId) : List (ClassId × FieldType) := [(dA 0, .int), (dA 1, .long), (dA 2, .boolean), (dA 12, .object RX2), (dA 13, .object RX3), (dA 15, .object RX5), (dA 17, .object RX7)]
def iAt (g : iG) (q : Nat) (c : iPC) (H : Heap) : Prop := match c with
  | .inl (k, x) => (k = 7 ∧ H[q]? = some g.2.2.2 ∧ g.2.2.2.slots.size = x.1 ∧ ∃ f, x.2 = .inl f ∧ ∀ j : Nat, j < x.1 → g.2.2.2.slots[j]? = some (.int (f j))) ∨ (k ≠ 7 ∧ H[q]? = some (vp_cell (g.2.1 k) x))
  | .inr o => va_at g.1 iCl (q, .inr o) H
def iIm (g : iG) (h : iHp) (H : Heap) : Prop := H.size = h.2.1 ∧ g.2.2.1 ≤ h.2.1 ∧ ∀ (q : Nat) (c : iPC), h.1 q = some c → iAt g q c H ∧ (g.2.2.1 ≤ q ∨ ∃ x, c = .inl (7, x))
def iKU (g : iG) (U : State) : Prop := va_K g.1 iCl (iTys g.2.1) U ∧ U.isArrayOf g.2.2.2 .int ∧ g.2.2.2.vm ≠ .unknown ∧ ∀ w ∈ lw_tbl, iNest w = true → va_Nw w U
theorem iKU.warm {g : iG} {u U : State} (hW : u.WarmedH U.vm) (h : iKU g u) : iKU g U := ⟨va_K.moved hW.alike h.1, State.isArrayOf_alike hW.alike h.2.1, h.2.2.1, fun w h1 h2 => iNest_warm h2 hW (h.2.2.2 w h1 h2)⟩
theorem iKU.same {g : iG} {u U : State} (e : u.vm = U.vm) (h : iKU g u) : iKU g U := ⟨va_K.moved (by rw [e]; exact Vm.Alike.refl _) h.1, State.isArrayOf_alike (by rw [e]; exact Vm.Alike.refl _) h.2.1, h.2.2.1, fun w h1 h2 => iNest_same h2 e (h.2.2.2 w h1 h2)⟩
theorem iAt.kept {g : iG} {q : Nat} {c : iPC} {H H1 : Heap} (h : iAt g q c H) (hq : H1[q]? = H[q]?) : iAt g q c H1 := by
  obtain ⟨k, x⟩ | o := c
  · rcases h with ⟨h1, h2, h3⟩ | ⟨h1, h2⟩
    · exact Or.inl ⟨h1, hq.trans h2, h3⟩
    · exact Or.inr ⟨h1, hq.trans h2⟩
  · exact va_at.kept (q := (q, .inr o)) h hq
theorem iAt.lt {g : iG} {q : Nat} {c : iPC} {H : Heap} (h : iAt g q c H) : q < H.size := by
  obtain ⟨k, x⟩ | o := c
  · rcases h with ⟨-, h2, -⟩ | ⟨-, h2⟩
    · exact (Array.getElem?_eq_some_iff.mp h2).1
    · exact (Array.getElem?_eq_some_iff.mp h2).1
  · exact va_at.lt (q := (q, .inr o)) h
theorem iIm.set {g : iG} {h : iHp} {H H1 : Heap} {a : Nat} {c0 c : iPC} (hI : iIm g h H) (hc : h.1 a = some c0) (h7 : ∀ x, c0 ≠ .inl (7, x)) (hat : iAt g a c H1) (z : H1.size = H.size) (oq : ∀ q : Nat, q ≠ a → H1[q]? = H[q]?) : iIm g (iSet h a c) H1 := by
  refine ⟨z.trans hI.1, hI.2.1, fun q cq hq => ?_⟩
  by_cases e : q = a
  · subst e
    simp only [iSet, if_pos] at hq
    cases hq
    refine ⟨hat, Or.inl ?_⟩
    rcases (hI.2.2 q c0 hc).2 with h | ⟨x, h⟩
    · exact h
    · exact absurd h (h7 x)
  · simp only [iSet, if_neg e] at hq
    exact ⟨(hI.2.2 q cq hq).1.kept (oq q e), (hI.2.2 q cq hq).2⟩
theorem iIm.base {g : iG} {h : iHp} {H : Heap} {a : Nat} {c0 : iPC} (hI : iIm g h H) (hc : h.1 a = some c0) (h7 : ∀ x, c0 ≠ .inl (7, x)) : g.2.2.1 ≤ a := by
  rcases (hI.2.2 a c0 hc).2 with h | ⟨x, h⟩
  · exact h
  · exact absurd h (h7 x)
theorem iIm.new {g : iG} {h : iHp} {H H1 : Heap} {c : iPC} {n : Nat} (hI : iIm g h H) (hat : iAt g H.size c H1) (z : H1.size = H.size + 1) (o : ∀ q : Nat, q < H.size → H1[q]? = H[q]?) : iIm g (iNew h c n) H1 := by
  refine ⟨by rw [z, hI.1]; rfl, Nat.le_trans hI.2.1 (Nat.le_succ _), fun q cq hq => ?_⟩
  by_cases e : q = h.2.1
  · subst e
    simp only [iNew, if_pos] at hq
    cases hq
    refine ⟨by rw [← hI.1]; exact hat, Or.inl hI.2.1⟩
  · simp only [iNew, if_neg e] at hq
    exact ⟨(hI.2.2 q cq hq).1.kept (o q (hI.2.2 q cq hq).1.lt), (hI.2.2 q cq hq).2⟩
-- locals
def iKn (v : Value) : Bool := match v with
  | .int _ => true
  | .long _ => true
  | .ref _ => true
  | .null => true
  | _ => false
def iLs (L : List Value) (ls : Array Slot) : Prop := ls.size = L.length ∧ lv_wf ls ∧ ∀ (j : Nat) (v : Value), L[j]? = some v → iKn v = true → ls[j]? = some (.val v)
def iAs (L : List Value) : List (Nat × Value) := (List.range L.length).filterMap (fun j => match L[j]? with
  | some v => if iKn v = true then some (j, v) else none
  | none => none)
theorem iAs_mem {L : List Value} {j : Nat} {v : Value} : (j, v) ∈ iAs L ↔ L[j]? = some v ∧ iKn v = true := by
  unfold iAs
  rw [List.mem_filterMap]
  constructor
  · rintro ⟨i, hi, h⟩
    cases hL : L[i]? with
    | none => rw [hL] at h; cases h
    | some w =>
      rw [hL] at h
      dsimp only at h
      by_cases hk : iKn w = true
      · rw [if_pos hk] at h
        cases h
        exact ⟨hL, hk⟩
      · rw [if_neg hk] at h
        cases h
  · rintro ⟨h1, h2⟩
    refine ⟨j, List.mem_range.mpr (List.getElem?_eq_some_iff.mp h1).1, ?_⟩
    rw [h1]
    simp [h2]
theorem iLs.has {L : List Value} {ls : Array Slot} (h : iLs L ls) : lv_has ls L.length (iAs L) := ⟨h.1, h.2.1, fun q hq => h.2.2 q.1 q.2 (iAs_mem.mp hq).1 (iAs_mem.mp hq).2⟩
theorem iLs.of {L : List Value} {ls : Array Slot} {n : Nat} {l : List (Nat × Value)} (h : lv_has ls n l) (hn : n = L.length) (hm : ∀ (j : Nat) (v : Value), L[j]? = some v → iKn v = true → (j, v) ∈ l) : iLs L ls := ⟨h.1.trans hn, h.2.1, fun j v h1 h2 => h.2.2 (j, v) (hm j v h1 h2)⟩
theorem iStore_get : ∀ (L : List Value) (i : Nat) (v : Value) (j : Nat), (iStore L i v)[j]? = if i < L.length then (if j = i then some v else if j + 1 = i then L[j]?.map iClr else L[j]?) else L[j]?
  | [], i, v, j => by simp [iStore]
  | a :: l, 0, v, j => by cases j <;> simp [iStore]
  | [a], k + 1, v, j => by simp [iStore]
  | a :: b :: l, 1, v, j => by
    match j with
    | 0 => simp [iStore]
    | 1 => simp [iStore]
    | n + 2 => simp [iStore]
  | a :: b :: l, k + 2, v, j => by
    match j with
    | 0 => simp [iStore]
    | j + 1 =>
      have h := iStore_get (b :: l) (k + 1) v j
      simp only [iStore, List.getElem?_cons_succ, h, List.length_cons]
      have e1 : (j + 1 = k + 2) = (j = k + 1) := by simp
      have e2 : (j + 1 + 1 = k + 2) = (j + 1 = k + 1) := by simp
      have e3 : (k + 2 < l.length + 1 + 1) = (k + 1 < l.length + 1) := by simp
      simp only [e1, e2, e3]
theorem iStore_len : ∀ (L : List Value) (i : Nat) (v : Value), (iStore L i v).length = L.length
  | [], i, v => by simp [iStore]
  | a :: l, 0, v => by simp [iStore]
  | [a], k + 1, v => by simp [iStore]
  | a :: b :: l, 1, v => by simp [iStore]
  | a :: b :: l, k + 2, v => by
    have h := iStore_len (b :: l) (k + 1) v
    simp only [iStore, List.length_cons] at h ⊢
    omega
theorem iStore2_len (L : List Value) (i : Nat) (v : Value) : (iStore2 L i v).length = L.length := by
  unfold iStore2
  simp [iStore_len]
theorem iClr_kn {w u : Value} (h : iClr w = u) (hk : iKn u = true) : w = u ∧ ¬ u.category = 2 := by
  cases w <;> simp [iClr] at h <;> subst h <;> simp_all [iKn, Value.category]
theorem iLs.store {L : List Value} {ls' : Array Slot} {i : Nat} {v : Value} (hi : i < L.length) (h : lv_has ls' L.length ((i, v) :: (iAs L).filter (fun q => !(q.1 == i) && !(q.1 + 1 == i && q.2.category == 2)))) : iLs (iStore L i v) ls' := by
  refine iLs.of h (iStore_len L i v).symm fun j w h1 h2 => ?_
  rw [iStore_get, if_pos hi] at h1
  by_cases e : j = i
  · subst e
    rw [if_pos rfl] at h1
    cases h1
    exact List.mem_cons_self
  · rw [if_neg e] at h1
    refine List.mem_cons_of_mem _ (List.mem_filter.mpr ?_)
    by_cases e2 : j + 1 = i
    · rw [if_pos e2] at h1
      cases hL : L[j]? with
      | none => rw [hL] at h1; cases h1
      | some u =>
        rw [hL] at h1
        obtain ⟨e3, e4⟩ := iClr_kn (Option.some.inj h1) h2
        subst e3
        exact ⟨iAs_mem.mpr ⟨hL, h2⟩, by simp [e, e4]⟩
    · rw [if_neg e2] at h1
      exact ⟨iAs_mem.mpr ⟨h1, h2⟩, by simp [e, e2]⟩
theorem iStore2_get {L : List Value} {i : Nat} {v : Value} (hi : i + 1 < L.length) (j : Nat) : (iStore2 L i v)[j]? = if j = i then some v else if j = i + 1 then some iU else if j + 1 = i then L[j]?.map iClr else L[j]? := by
  unfold iStore2
  have hl : i < (iStore (iStore L i v) (i + 1) iU).length := by rw [iStore_len, iStore_len]; omega
  by_cases e : j = i
  · subst e
    rw [if_pos rfl, List.getElem?_set_self hl]
  · rw [if_neg e, List.getElem?_set_ne (Ne.symm e), iStore_get, if_pos (by rw [iStore_len]; exact hi)]
    by_cases e1 : j = i + 1
    · rw [if_pos e1, if_pos e1]
    · rw [if_neg e1, if_neg e1, if_neg (by omega), iStore_get, if_pos (by omega), if_neg e]
theorem iLs.store2 {L : List Value} {ls' : Array Slot} {i : Nat} {v : Value} (hi : i + 1 < L.length) (h : lv_has ls' L.length ((i, v) :: (iAs L).filter (fun q => !(q.1 == i) && (!(q.1 == i + 1) && !(q.1 + 1 == i && q.2.category == 2))))) : iLs (iStore2 L i v) ls' := by
  refine iLs.of h (iStore2_len L i v).symm fun j w h1 h2 => ?_
  rw [iStore2_get hi] at h1
  by_cases e : j = i
  · subst e
    rw [if_pos rfl] at h1
    cases h1
    exact List.mem_cons_self
  · rw [if_neg e] at h1
    refine List.mem_cons_of_mem _ (List.mem_filter.mpr ?_)
    by_cases e1 : j = i + 1
    · rw [if_pos e1] at h1
      cases h1
      cases h2
    · rw [if_neg e1] at h1
      by_cases e2 : j + 1 = i
      · rw [if_pos e2] at h1
        cases hL : L[j]? with
        | none => rw [hL] at h1; cases h1
        | some u =>
          rw [hL] at h1
          obtain ⟨e3, e4⟩ := iClr_kn (Option.some.inj h1) h2
          subst e3
          exact ⟨iAs_mem.mpr ⟨hL, h2⟩, by simp [e, e1, e4]⟩
      · rw [if_neg e2] at h1
        exact ⟨iAs_mem.mpr ⟨h1, h2⟩, by simp [e, e1, e2]⟩
def iFlat (vs : List Value) : List Value := vs.flatMap (fun v => if v.category = 2 then [v, iU] else [v])
theorem iFlat_args : ∀ (vs : List Value) (o j : Nat) (v : Value), (iFlat vs)[j]? = some v → iKn v = true → (o + j, v) ∈ lv_args o vs
  | [], o, j, v, h, _ => by simp [iFlat] at h
  | w :: vs, o, j, v, h, hk => by
    unfold iFlat at h
    rw [List.flatMap_cons] at h
    by_cases hc : w.category = 2
    · rw [if_pos hc] at h
      simp only [lv_args, if_pos hc]
      match j with
      | 0 =>
        simp at h
        subst h
        exact List.mem_cons_self
      | 1 =>
        simp at h
        subst h
        cases hk
      | n + 2 =>
        simp at h
        have := iFlat_args vs (o + 2) n v h hk
        rw [show o + (n + 2) = o + 2 + n by omega]
        exact List.mem_cons_of_mem _ this
    · rw [if_neg hc] at h
      simp only [lv_args, if_neg hc]
      match j with
      | 0 =>
        simp at h
        subst h
        exact List.mem_cons_self
      | n + 1 =>
        simp at h
        have := iFlat_args vs (o + 1) n v h hk
        rw [show o + (n + 1) = o + 1 + n by omega]
        exact List.mem_cons_of_mem _ this
theorem iFlat_len : ∀ vs : List Value, (lg_sl vs).length = (iFlat vs).length
  | [] => rfl
  | w :: vs => by
    have h := iFlat_len vs
    unfold lg_sl iFlat at h ⊢
    rw [List.flatMap_cons, List.flatMap_cons, List.length_append, List.length_append, h]
    by_cases hc : w.category = 2
    · simp [hc]
    · simp [hc]
theorem iInit_ls {n : Nat} {vs : List Value} (h : (iInit n vs).length = n) : iLs (iInit n vs) ((lg_sl vs ++ List.replicate (n - (lg_sl vs).length) Slot.unset).toArray) := by
  have e : iInit n vs = iFlat vs ++ List.replicate (n - (iFlat vs).length) iU := rfl
  have hl : (lg_sl vs).length ≤ n := by
    rw [iFlat_len]
    rw [e, List.length_append, List.length_replicate] at h
    omega
  refine iLs.of (lv_entry vs hl) h.symm fun j v h1 h2 => ?_
  rw [e] at h1
  by_cases hj : j < (iFlat vs).length
  · rw [List.getElem?_append_left hj] at h1
    have := iFlat_args vs 0 j v h1 h2
    rwa [Nat.zero_add] at this
  · rw [List.getElem?_append_right (by omega)] at h1
    have := List.mem_of_getElem? h1
    rw [List.mem_replicate] at this
    rw [this.2] at h2
    cases h2

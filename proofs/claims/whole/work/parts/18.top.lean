/-! THE CLAIM OUT OF ONE WALK OF THE LAW'S BODY. Your part is whole_start (and what it stands on); all else here is the same for every law, but numbers. -/
def R_law : String := "TreePatchesLaw"
def lw_P (b : Addr) (xs : List Int32) (args : Array Value) (s : State) : Prop := args = #[.ref b] ∧ s.IntsAt b xs ∧ xs.length ≤ 3072 ∧ (Jvm.Cond.and given_1 narrow_1).before args s = true
def lw_Q (_ : Array Value) (s : State) (o : Outcome) (t : State) : Prop := o = .returned (some (.int 1)) ∧ Framed s o t [] 600000 7302250
def lw_Z (below : List Frame) (a : Array Value) (s : State) : State → Prop := fun t => ∃ o, t.status = .running ∧ Ended t below o ∧ lw_Q a s o t
/-- the law's own end, with 1 on the stack, nothing written that was there before, its room as the claim has it -/
theorem lw_ret {p : Program} {l : Launch} {e : Env} {s : State} {m : MethodId} {below : List Frame} {meth : Method} {c : Code} {b : Nat} (hx : p.tables.exec = Jvm.exec) (hb : c.code = code) (hr : meth.sig.returnType = ret) (hlocks : meth.locks = false) {pc : Nat} {H : Heap} {ls : Array Slot} (hdg : decode code pc = .ok (.ireturn, 1)) : W p l e room_1 s m #[Value.ref b] below meth c H [] 600000 7302250 (lw_Z below #[Value.ref b] s) (F0 m pc ls [.int 1]) := by
  intro T hT X
  obtain ⟨fs, hret, hrun, hended, hW, hframe⟩ := X.leave (v := some (.int 1)) (hlocks := hlocks) (fun h => by rw [hr] at h; cases h)
  have hmeth' : T.vm.method? m = some meth := X.method'
  refine ⟨T.setFrames fs, ?_, .returned (some (.int 1)), hrun, hended, rfl, ⟨_, rfl⟩, hW, hframe⟩
  jvm_step X.here [X.here.top, hx, hb, hdg, hmeth', hr, ret, narrow_b1]
  (try refine ⟨rfl, ?_⟩); (try refine ⟨rfl, ?_⟩)
  first | (intro acts; rw [hret _ acts rfl rfl rfl]) | rw [hret _ _ rfl rfl rfl]
  exact Steps.refl _
/-- what holds at the law's entry: the machine, the code, the tables' words (any of lw_tbl by 'hts w (by decide +kernel)'), the script of L ints xs at the cell b, what the Statement gives of the start (any of its parts by flat_of_before) -/
def lw_At (p : Program) (s : State) (m : MethodId) (meth : Method) (c : Code) (b L : Nat) (xs : Nat → Int32) : Prop :=
  p.tables.exec = Jvm.exec ∧ c.code = code ∧ meth.sig.returnType = ret ∧ c.maxLocals = 4 ∧ s.vm.findClass R_law = some m.cls ∧ (∀ w ∈ lw_tbl, w.before #[Value.ref b] s = true) ∧ va_X b L xs s s.heap ∧ b < s.heap.size ∧ meth.locks = false ∧ (Jvm.Cond.and given_1 narrow_1).before #[Value.ref b] s = true
/-- where the pure run begins: the script alone -/
def iH0 (b L base : Nat) (xs : Nat → Int32) : iHp := (fun q => if q = b then some (.inl (7, L, .inl xs)) else none, base, 0)
/-- what is left to be shown, of the pure machine alone -/
def iGoal : Prop := ∀ (b L base : Nat) (xs : Nat → Int32), L ≤ 3072 → b < base → ∃ (n : Nat) (h1 : iHp), iExec n 60 mL_law 0 (iInit 4 [.ref b]) [] (iH0 b L base xs) = some (some (.int 1), h1) ∧ h1.2.1 ≤ base + 600000 ∧ h1.2.2 ≤ 7302250
theorem i_prim {s : State} {ty : FieldType} {A : Array Value} (h : (Cond.arrayClass ty).before A s = true) : ∃ cA, ArrOfT s cA ty ∧ s.vm.findClass ("[" ++ ty.toString) = some cA := by
  obtain ⟨c, k, comp, h1, h2, h3⟩ := Cond.arrayClass_spec h
  exact ⟨c, fun n z => ⟨fun k h => (by cases h), k, h2, comp, h3⟩, h1⟩
theorem i_over {s : State} {C : String} {A : Array Value} (h : (Cond.arrayOver (.object C)).before A s = true) : ∃ cA, ArrOfT s cA (.object C) ∧ va_RA s cA (.object C) := by
  obtain ⟨comp, c, k, f1, f2, f3, f4, f5⟩ := Cond.arrayOver_spec h
  exact ⟨c, fun n z => ⟨fun k h => (by cases h), k, f3, comp, f4⟩, k, comp, f3, f4, f1, f5⟩
theorem i_frame {s t : State} {L : List Loc} {k n k' n' : Nat} (h : s.sameButNew t L k n) (hL : ∀ q ∈ L, s.heap.size ≤ q.base) (hk : k ≤ k') (hn : n ≤ n') : s.sameButNew t [] k' n' := by
  refine ⟨h.1, h.2.1, Nat.le_trans h.2.2.1 (Nat.add_le_add_left hk _), h.2.2.2.1, Nat.le_trans h.2.2.2.2.1 hn, fun a c hc => ?_⟩
  obtain ⟨c', e1, e2, e3, e4⟩ := h.2.2.2.2.2 a c hc
  refine ⟨c', e1, e2, e3, fun i _ => e4 i fun hm => ?_⟩
  have h1 := hL _ hm
  have h2 : a < s.heap.size := (Array.getElem?_eq_some_iff.mp hc).1
  exact absurd h2 (Nat.not_lt.mpr h1)
theorem whole_of (hG : iGoal) {p : Program} {e : Env} {s : State} {m : MethodId} {below : List Frame} {meth : Method} {c : Code} (l : Launch) {b L : Nat} {xs : Nat → Int32} (hL : L ≤ 3072) (C0 : lw_At p s m meth c b L xs) : W p l e room_1 s m #[Value.ref b] below meth c s.heap [] 0 0 (lw_Z below #[Value.ref b] s) (entryFrame m ([Value.ref b] : List Value).toArray 4) := by
  obtain ⟨hx, hb, hr, hml, hown, hts, hX, hbl, hlocks, hgv⟩ := C0
  obtain ⟨scr, e1, e2, e3, e4, e5⟩ := hX
  have kn : ∀ k : Nat, ∃ q : ClassId × (Nat → Nat), k < 10 → u_Kn s (iOwn k) (iT k) (iN k) q.1 q.2 := by
    intro k
    by_cases hk : k < 10
    · obtain ⟨cC, iS, h⟩ := u_known (args := #[Value.ref b]) (s := s) (ws := lw_tbl) hts (i_in0 k hk) (hts _ (i_inst k hk))
      exact ⟨(cC, iS), fun _ => h⟩
    · exact ⟨(0, fun _ => 0), fun h => absurd h hk⟩
  obtain ⟨D, hD⟩ := Classical.axiomOfChoice kn
  obtain ⟨a0, p0, q0⟩ := i_prim (hts _ i_ac0)
  obtain ⟨a1, p1, q1⟩ := i_prim (hts _ i_ac1)
  obtain ⟨a2, p2, q2⟩ := i_prim (hts _ i_ac2)
  obtain ⟨a3, p3, q3⟩ := i_over (hts _ i_ao2)
  obtain ⟨a4, p4, q4⟩ := i_over (hts _ i_ao3)
  obtain ⟨a5, p5, q5⟩ := i_over (hts _ i_ao5)
  obtain ⟨a6, p6, q6⟩ := i_over (hts _ i_ao7)
  obtain ⟨dA, d0, d1, d2, d3, d4, d5, d6⟩ : ∃ dA : Nat → ClassId, dA 0 = a0 ∧ dA 1 = a1 ∧ dA 2 = a2 ∧ dA 12 = a3 ∧ dA 13 = a4 ∧ dA 15 = a5 ∧ dA 17 = a6 :=
    ⟨fun k => if k = 0 then a0 else if k = 1 then a1 else if k = 2 then a2 else if k = 12 then a3 else if k = 13 then a4 else if k = 15 then a5 else a6, rfl, rfl, rfl, rfl, rfl, rfl, rfl⟩
  subst d0; subst d1; subst d2; subst d3; subst d4; subst d5; subst d6
  have hKU : iKU (((fun k => (D k).1), (fun k => (D k).2)), dA, s.heap.size, scr) s := by
    refine ⟨⟨fun k q hq => ?_, fun k q hq => ?_⟩, e2, e3, fun w hw hn => ?_⟩
    · have hk : k < 10 := (List.getElem?_eq_some_iff.mp hq).1
      rw [i_cl k hk] at hq
      cases hq
      exact hD k hk
    · match k, hq with
      | 0, hq => cases hq; exact ⟨p0, q0⟩
      | 1, hq => cases hq; exact ⟨p1, q1⟩
      | 2, hq => cases hq; exact ⟨p2, q2⟩
      | 3, hq => cases hq; exact ⟨p3, q3⟩
      | 4, hq => cases hq; exact ⟨p4, q4⟩
      | 5, hq => cases hq; exact ⟨p5, q5⟩
      | 6, hq => cases hq; exact ⟨p6, q6⟩
      | k + 7, hq => simp [iTys] at hq
    · have h1 := hts w hw
      unfold iNest at hn
      split at hn
      · exact va_Nw.of rfl h1
      · exact va_Nw.of rfl h1
      · exact va_AO.of h1
      · cases hn
  have hI : iIm (((fun k => (D k).1), (fun k => (D k).2)), dA, s.heap.size, scr) (iH0 b L s.heap.size xs) s.heap := by
    refine ⟨rfl, Nat.le_refl _, fun q cq hq => ?_⟩
    by_cases hqb : q = b
    · subst hqb
      simp only [iH0, if_pos] at hq
      cases hq
      exact ⟨Or.inl ⟨rfl, e1, e4, xs, rfl, e5⟩, Or.inr ⟨_, rfl⟩⟩
    · simp only [iH0, if_neg hqb] at hq
      cases hq
  obtain ⟨n, h1, hex, hc1, hc2⟩ := hG b L s.heap.size xs hL hbl
  have hw := iSim (((fun k => (D k).1), (fun k => (D k).2)), dA, s.heap.size, scr) l n 60 mL_law 0 _ [] _ _ h1 hex (by decide) rfl
  have k := hw.2.2 p e room_1 s m #[Value.ref b] below meth c s.heap [] s.heap.size 0 _ ⟨hx, hb, hml, hr, hown, fun w hw => hts w (List.mem_filter.mp hw).1, hlocks, fun h => absurd h (by decide), hKU, by decide, by decide, by decide⟩ (Nat.le_refl _) (Nat.le_refl _) (by show h1.2.1 - s.heap.size ≤ 600000; omega) (by show h1.2.2 - 0 ≤ 7302250; omega) hI (iInit_ls (n := 4) (vs := [.ref b]) rfl) (fun q h => by cases h)
  rw [lg_entry_eq]
  intro T hT X
  have z : (iH0 b L s.heap.size xs).2.1 - s.heap.size = 0 := Nat.sub_self _
  rw [z] at k
  obtain ⟨t, st, o, r1, r2, ⟨r3, r4⟩, L', ⟨f1, f2, f3⟩, f4⟩ := k T hT X
  refine ⟨t, st, o, r1, r2, r3, f1, f2, ?_⟩
  exact i_frame f3 f4 (by show h1.2.1 - s.heap.size ≤ 600000; omega) (by show h1.2.2 - 0 ≤ 7302250; omega)

/-! THE REAL MACHINE DOES WHAT iExec DOES, one instruction after the other -/
def iQ (g : iG) (r : Option Value) (h1 : iHp) : Array Value → State → Outcome → State → Prop := fun _ _ o t => o = .returned r ∧ iIm g h1 t.heap
def iCx (g : iG) (p : Program) (R : Room) (s : State) (m : MethodId) (args : Array Value) (meth : Method) (c : Code) (M : iM) (d : Nat) : Prop :=
  p.tables.exec = Jvm.exec ∧ c.code = M.2.1 ∧ c.maxLocals = M.2.2.1 ∧ meth.sig.returnType = M.2.2.2.1 ∧ s.vm.findClass (iOwn M.2.2.2.2.1) = some m.cls ∧ (∀ w ∈ lw_ok, w.before args s = true) ∧ meth.locks = false ∧ (M.1.name = "<init>" → meth.name = "<init>") ∧ iKU g s ∧ d ≤ R.frames ∧ 64 * d ≤ R.locals ∧ 1 ≤ d
def iWd (g : iG) (l : Launch) (M : iM) (d : Nat) (r : Option Value) (h1 : iHp) (pc : Nat) (L st : List Value) (h : iHp) : Prop :=
  h.2.1 ≤ h1.2.1 ∧ h.2.2 ≤ h1.2.2 ∧ ∀ (p : Program) (e : Env) (R : Room) (s : State) (m : MethodId) (args : Array Value) (below : List Frame) (meth : Method) (c : Code) (H : Heap) (locs : List Loc) (n0 s0 : Nat) (ls : Array Slot),
    iCx g p R s m args meth c M d → n0 ≤ h.2.1 → s0 ≤ h.2.2 → h1.2.1 - n0 ≤ R.cells → h1.2.2 - s0 ≤ R.slots → iIm g h H → iLs L ls → (∀ q ∈ locs, g.2.2.1 ≤ q.base) →
      W p l e R s m args below meth c H locs (h.2.1 - n0) (h.2.2 - s0) (MQ below (iQ g r h1) args s (h1.2.1 - n0) (h1.2.2 - s0) (fun q => g.2.2.1 ≤ q)) (F0 m pc ls st)
section SIM
variable {g : iG} {l : Launch} {M : iM} {d : Nat} {r : Option Value} {h1 : iHp} {pc pc' : Nat} {L L' st st' : List Value} {h h' : iHp}
/-- heap and locals stay -/
theorem iWd.go (hn : iWd g l M d r h1 pc' L st' h)
    (f : ∀ {p : Program} {e : Env} {R : Room} {s : State} {m : MethodId} {args : Array Value} {below : List Frame} {meth : Method} {c : Code} {H : Heap} {locs : List Loc} {cells slots : Nat} {Q : State → Prop} {ls : Array Slot}, iCx g p R s m args meth c M d → iIm g h H → iLs L ls → cells ≤ R.cells → slots ≤ R.slots →
      W p l e R s m args below meth c H locs cells slots Q (F0 m pc' ls st') → W p l e R s m args below meth c H locs cells slots Q (F0 m pc ls st)) : iWd g l M d r h1 pc L st h := by
  refine ⟨hn.1, hn.2.1, fun p e R s m args below meth c H locs n0 s0 ls C z1 z2 z3 z4 hI hL hl => ?_⟩
  exact f C hI hL (by have := hn.1; omega) (by have := hn.2.1; omega) (hn.2.2 p e R s m args below meth c H locs n0 s0 ls C z1 z2 z3 z4 hI hL hl)
/-- locals change -/
theorem iWd.loc (hn : iWd g l M d r h1 pc' L' st' h)
    (f : ∀ {p : Program} {e : Env} {R : Room} {s : State} {m : MethodId} {args : Array Value} {below : List Frame} {meth : Method} {c : Code} {H : Heap} {locs : List Loc} {cells slots : Nat} {Q : State → Prop} {ls : Array Slot}, iCx g p R s m args meth c M d → iLs L ls →
      (∀ ls' : Array Slot, iLs L' ls' → W p l e R s m args below meth c H locs cells slots Q (F0 m pc' ls' st')) → W p l e R s m args below meth c H locs cells slots Q (F0 m pc ls st)) : iWd g l M d r h1 pc L st h := by
  refine ⟨hn.1, hn.2.1, fun p e R s m args below meth c H locs n0 s0 ls C z1 z2 z3 z4 hI hL hl => ?_⟩
  exact f C hL (fun ls' hL' => hn.2.2 p e R s m args below meth c H locs n0 s0 ls' C z1 z2 z3 z4 hI hL' hl)
/-- one cell is written -/
theorem iWd.put {a : Nat} {c0 c1 : iPC} (hn : iWd g l M d r h1 pc' L st' (iSet h a c1)) (hc : h.1 a = some c0) (h7 : ∀ x, c0 ≠ .inl (7, x))
    (f : ∀ {p : Program} {e : Env} {R : Room} {s : State} {m : MethodId} {args : Array Value} {below : List Frame} {meth : Method} {c : Code} {H : Heap} {locs : List Loc} {cells slots : Nat} {Q : State → Prop} {ls : Array Slot}, iCx g p R s m args meth c M d → iIm g h H → iLs L ls →
      (∀ (H1 : Heap) (loc1 : List Loc), iAt g a c1 H1 → H1.size = H.size → (∀ q : Nat, q ≠ a → H1[q]? = H[q]?) → (∀ x ∈ loc1, x.base = a) → W p l e R s m args below meth c H1 (locs ++ loc1) cells slots Q (F0 m pc' ls st')) → W p l e R s m args below meth c H locs cells slots Q (F0 m pc ls st)) : iWd g l M d r h1 pc L st h := by
  refine ⟨hn.1, hn.2.1, fun p e R s m args below meth c H locs n0 s0 ls C z1 z2 z3 z4 hI hL hl => ?_⟩
  refine f C hI hL fun H1 loc1 e1 e2 e3 e4 => hn.2.2 p e R s m args below meth c H1 (locs ++ loc1) n0 s0 ls C z1 z2 z3 z4 (hI.set hc h7 e1 e2 e3) hL fun q hq => ?_
  rcases List.mem_append.mp hq with z | z
  · exact hl q z
  · rw [e4 q z]
    exact hI.base hc h7
/-- one cell is made -/
theorem iWd.new {c1 : iPC} {n : Nat} (hn : iWd g l M d r h1 pc' L st' (iNew h c1 n))
    (f : ∀ {p : Program} {e : Env} {R : Room} {s : State} {m : MethodId} {args : Array Value} {below : List Frame} {meth : Method} {c : Code} {H : Heap} {locs : List Loc} {cells slots : Nat} {Q : State → Prop} {ls : Array Slot}, iCx g p R s m args meth c M d → H.size = h.2.1 → cells + 1 ≤ R.cells → slots + n ≤ R.slots →
      (∀ (H1 : Heap), iAt g H.size c1 H1 → H1.size = H.size + 1 → (∀ q : Nat, q < H.size → H1[q]? = H[q]?) → W p l e R s m args below meth c H1 locs (cells + 1) (slots + n) Q (F0 m pc' ls st')) → W p l e R s m args below meth c H locs cells slots Q (F0 m pc ls st)) : iWd g l M d r h1 pc L st h := by
  have a1 : h.2.1 + 1 ≤ h1.2.1 := hn.1
  have a2 : h.2.2 + n ≤ h1.2.2 := hn.2.1
  refine ⟨by omega, by omega, fun p e R s m args below meth c H locs n0 s0 ls C z1 z2 z3 z4 hI hL hl => ?_⟩
  refine f C hI.1 (by omega) (by omega) fun H1 e1 e2 e3 => ?_
  have k := hn.2.2 p e R s m args below meth c H1 locs n0 s0 ls C (by show n0 ≤ h.2.1 + 1; omega) (by show s0 ≤ h.2.2 + n; omega) z3 z4 (hI.new e1 e2 e3) hL hl
  have b1 : (iNew h c1 n).2.1 - n0 = h.2.1 - n0 + 1 := by show h.2.1 + 1 - n0 = _; omega
  have b2 : (iNew h c1 n).2.2 - s0 = h.2.2 - s0 + n := by show h.2.2 + n - s0 = _; omega
  rw [b1, b2] at k
  exact k
-- what the pure machine reads and writes
theorem iGet_inv {a ci k : Nat} {v : Value} (hg : iGet h a ci k = some v) : ∃ fs, h.1 a = some (.inr (ci, fs)) ∧ fs[k]? = some v := by
  unfold iGet at hg
  split at hg
  · rename_i c fs e
    by_cases hc : c = ci
    · rw [if_pos hc] at hg
      subst hc
      exact ⟨fs, e, hg⟩
    · rw [if_neg hc] at hg
      cases hg
  · cases hg
theorem iPut_inv {a ci k : Nat} {v : Value} (hg : iPut h a ci k v = some h') : ∃ fs, h.1 a = some (.inr (ci, fs)) ∧ k < fs.length ∧ h' = iSet h a (.inr (ci, fs.set k v)) := by
  unfold iPut at hg
  split at hg
  · rename_i c fs e
    by_cases hc : c = ci ∧ k < fs.length
    · rw [if_pos hc] at hg
      obtain ⟨hc, hk⟩ := hc
      subst hc
      exact ⟨fs, e, hk, (Option.some.inj hg).symm⟩
    · rw [if_neg hc] at hg
      cases hg
  · cases hg
theorem iObj_inv {a ci : Nat} (hg : iObj h a ci = true) : ∃ fs, h.1 a = some (.inr (ci, fs)) := by
  unfold iObj at hg
  split at hg
  · rename_i c fs e
    have : c = ci := by simpa using hg
    subst this
    exact ⟨fs, e⟩
  · cases hg
theorem iLdI_inv {a : Nat} {i x : Int32} (hg : iLdI h a i = some x) : ∃ k n f, h.1 a = some (.inl (k, n, .inl f)) ∧ (k = 0 ∨ k = 7) ∧ vp_in i n ∧ x = f i.toNatClampNeg := by
  unfold iLdI at hg
  split at hg
  · rename_i k n f e
    split at hg
    · rename_i hc
      exact ⟨k, n, f, e, hc.1, hc.2, (Option.some.inj hg).symm⟩
    · cases hg
  · cases hg
theorem iStI_inv {a : Nat} {i x : Int32} (hg : iStI h a i x = some h') : ∃ n f, h.1 a = some (.inl (0, n, .inl f)) ∧ vp_in i n ∧ h' = iSet h a (.inl (0, n, .inl (upd f i.toNatClampNeg x))) := by
  unfold iStI at hg
  split at hg
  · rename_i k n f e
    split at hg
    · rename_i hc
      obtain ⟨rfl, hc⟩ := hc
      exact ⟨n, f, e, hc, (Option.some.inj hg).symm⟩
    · cases hg
  · cases hg
theorem iLdB_inv {a : Nat} {i x : Int32} (hg : iLdB h a i = some x) : ∃ n f, h.1 a = some (.inl (2, n, .inl f)) ∧ vp_in i n ∧ x = f i.toNatClampNeg := by
  unfold iLdB at hg
  split at hg
  · rename_i k n f e
    split at hg
    · rename_i hc
      obtain ⟨rfl, hc⟩ := hc
      exact ⟨n, f, e, hc, (Option.some.inj hg).symm⟩
    · cases hg
  · cases hg
theorem iStB_inv {a : Nat} {i x : Int32} (hg : iStB h a i x = some h') : ∃ n f, h.1 a = some (.inl (2, n, .inl f)) ∧ vp_in i n ∧ h' = iSet h a (.inl (2, n, .inl (upd f i.toNatClampNeg (vp_nar .boolean x)))) := by
  unfold iStB at hg
  split at hg
  · rename_i k n f e
    split at hg
    · rename_i hc
      obtain ⟨rfl, hc⟩ := hc
      exact ⟨n, f, e, hc, (Option.some.inj hg).symm⟩
    · cases hg
  · cases hg
theorem iLdL_inv {a : Nat} {i : Int32} {x : Int64} (hg : iLdL h a i = some x) : ∃ n f, h.1 a = some (.inl (1, n, .inr (.inl f))) ∧ vp_in i n ∧ x = f i.toNatClampNeg := by
  unfold iLdL at hg
  split at hg
  · rename_i k n f e
    split at hg
    · rename_i hc
      obtain ⟨rfl, hc⟩ := hc
      exact ⟨n, f, e, hc, (Option.some.inj hg).symm⟩
    · cases hg
  · cases hg
theorem iStL_inv {a : Nat} {i : Int32} {x : Int64} (hg : iStL h a i x = some h') : ∃ n f, h.1 a = some (.inl (1, n, .inr (.inl f))) ∧ vp_in i n ∧ h' = iSet h a (.inl (1, n, .inr (.inl (vp_updL f i.toNatClampNeg x)))) := by
  unfold iStL at hg
  split at hg
  · rename_i k n f e
    split at hg
    · rename_i hc
      obtain ⟨rfl, hc⟩ := hc
      exact ⟨n, f, e, hc, (Option.some.inj hg).symm⟩
    · cases hg
  · cases hg
theorem iLdQ_inv {a : Nat} {i : Int32} {x : Option Nat} (hg : iLdQ h a i = some x) : ∃ k n f, h.1 a = some (.inl (k, n, .inr (.inr (.inr (.inr f))))) ∧ iRK k = true ∧ vp_in i n ∧ x = f i.toNatClampNeg := by
  unfold iLdQ at hg
  split at hg
  · rename_i k n f e
    split at hg
    · rename_i hc
      exact ⟨k, n, f, e, hc.1, hc.2, (Option.some.inj hg).symm⟩
    · cases hg
  · cases hg
theorem iStQ_inv {a : Nat} {i : Int32} {v : Option Nat} (hg : iStQ h a i v = some h') : ∃ k n f, h.1 a = some (.inl (k, n, .inr (.inr (.inr (.inr f))))) ∧ iRK k = true ∧ vp_in i n ∧ (∀ b, v = some b → iObj h b (k - 10) = true) ∧ h' = iSet h a (.inl (k, n, .inr (.inr (.inr (.inr (va_up f i.toNatClampNeg v)))))) := by
  unfold iStQ at hg
  split at hg
  · rename_i k n f e
    split at hg
    · rename_i hc
      refine ⟨k, n, f, e, hc.1, hc.2.1, fun b hb => ?_, (Option.some.inj hg).symm⟩
      subst hb
      exact hc.2.2
    · cases hg
  · cases hg
-- the tables' words
theorem iFind_mem {α : Type} : ∀ {l : List (Nat × α)} {i : Nat} {x : α}, iFind l i = some x → (i, x) ∈ l
  | [], _, _, h => by cases h
  | e :: l, i, x, h => by
    unfold iFind at h
    split at h
    · rename_i he
      obtain ⟨e1, e2⟩ := e
      cases h
      cases he
      exact List.mem_cons_self
    · exact List.mem_cons_of_mem _ (iFind_mem h)
theorem i_lt11 {P : Nat → Prop} (h : ∀ c, c < 10 → P c) (h10 : P 10) : ∀ c, c < 11 → P c := fun c hc => by
  by_cases e : c = 10
  · subst e; exact h10
  · exact h c (by omega)
theorem i_fl {o idx : Nat} {x : Nat × Nat × Bool} (ho : o < 11) (hf : iFind (iF o) idx = some x) : iFok o (idx, x) :=
  i_lt11 (P := fun o => ∀ e ∈ iF o, iFok o e) (i_lt10 iFok_0 iFok_1 iFok_2 iFok_3 iFok_4 iFok_5 iFok_6 iFok_7 iFok_8 iFok_9) iFok_10 o ho _ (iFind_mem hf)
theorem i_cll {o idx : Nat} {x : Nat} (ho : o < 11) (hf : iFind (iC o) idx = some x) : iCok o (idx, x) :=
  i_lt11 (P := fun o => ∀ e ∈ iC o, iCok o e) (i_lt10 iCok_0 iCok_1 iCok_2 iCok_3 iCok_4 iCok_5 iCok_6 iCok_7 iCok_8 iCok_9) iCok_10 o ho _ (iFind_mem hf)
theorem i_kl {o idx : Nat} {x : iM × Nat × Nat} (ho : o < 11) (hf : iFind (iK o) idx = some x) : iKok o (idx, x) :=
  i_lt11 (P := fun o => ∀ e ∈ iK o, iKok o e) (i_lt10 iKok_0 iKok_1 iKok_2 iKok_3 iKok_4 iKok_5 iKok_6 iKok_7 iKok_8 iKok_9) iKok_10 o ho _ (iFind_mem hf)
end SIM

/-! instruction by instruction -/
theorem i_ac0 : Cond.arrayClass .int ∈ lw_tbl := by decide +kernel
theorem i_ac1 : Cond.arrayClass .long ∈ lw_tbl := by decide +kernel
theorem i_ac2 : Cond.arrayClass .boolean ∈ lw_tbl := by decide +kernel
theorem i_ao2 : Cond.arrayOver (.object RX2) ∈ lw_tbl := by decide +kernel
theorem i_ao3 : Cond.arrayOver (.object RX3) ∈ lw_tbl := by decide +kernel
theorem i_ao5 : Cond.arrayOver (.object RX5) ∈ lw_tbl := by decide +kernel
theorem i_ao7 : Cond.arrayOver (.object RX7) ∈ lw_tbl := by decide +kernel
theorem i_cst6 : Cond.constant (iOwn 6) 47 1103515245 ∈ lw_tbl := by decide +kernel
theorem i_cst9 : Cond.constant (iOwn 9) 288 1103515245 ∈ lw_tbl := by decide +kernel
theorem i_cst10 : Cond.constantLong (iOwn 10) 18 4294967295 ∈ lw_tbl := by decide +kernel
theorem i_own : ∀ c, c < 10 → ∀ k, k < iN c → (iT c k).1 = iOwn c := i_lt10 (by decide +kernel) (by decide +kernel) (by decide +kernel) (by decide +kernel) (by decide +kernel) (by decide +kernel) (by decide +kernel) (by decide +kernel) (by decide +kernel) (by decide +kernel)
theorem i_k32 {o idx : Nat} {v : Int32} (h : iConst32 o idx = some v) : Cond.constant (iOwn o) idx v ∈ lw_tbl := by
  unfold iConst32 at h
  split at h
  · rename_i hc
    cases h
    rcases hc with ⟨rfl, rfl⟩ | ⟨rfl, rfl⟩
    · exact i_cst6
    · exact i_cst9
  · cases h
theorem i_k64 {o idx : Nat} {v : Int64} (h : iConst64 o idx = some v) : Cond.constantLong (iOwn o) idx v ∈ lw_tbl := by
  unfold iConst64 at h
  split at h
  · rename_i hc
    cases h
    obtain ⟨rfl, rfl⟩ := hc
    exact i_cst10
  · cases h
theorem i_fit {ty : FieldType} {v : Value} (h : iFit ty v = true) : narrow ty v = v ∧ fits ty v = true := by
  cases ty <;> cases v <;> first | (cases h; done) | exact ⟨rfl, rfl⟩ | skip
  all_goals
    rename_i x
    simp only [iFit, Bool.or_eq_true, beq_iff_eq] at h
    rcases h with rfl | rfl <;> exact ⟨rfl, rfl⟩
section STEP
variable {g : iG} {l : Launch} {M : iM} {d : Nat} {r : Option Value} {h1 : iHp} {pc pc' : Nat} {L L' st st' : List Value} {h h' : iHp}
theorem iWd.ret {v : Option Value} (f : ∀ {p : Program} {e : Env} {R : Room} {s : State} {m : MethodId} {args : Array Value} {below : List Frame} {meth : Method} {c : Code} {H : Heap} {locs : List Loc} {cells slots : Nat} {Qc : Array Value → State → Outcome → State → Prop} {ls : Array Slot}, iCx g p R s m args meth c M d →
      (∀ t : State, t.heap = H → s.WarmedH t.vm → Qc args s (.returned v) t) → (∀ q ∈ locs, g.2.2.1 ≤ q.base) → W p l e R s m args below meth c H locs cells slots (MQ below Qc args s cells slots (fun q => g.2.2.1 ≤ q)) (F0 m pc ls st)) : iWd g l M d v h pc L st h := by
  refine ⟨Nat.le_refl _, Nat.le_refl _, fun p e R s m args below meth c H locs n0 s0 ls C z1 z2 z3 z4 hI hL hl => ?_⟩
  exact f C (fun t ht _ => ⟨rfl, by rw [ht]; exact hI⟩) hl
theorem iAt_i {a n : Nat} {f : Nat → Int32} {H : Heap} {k : Nat} (h7 : k ≠ 7) (h : iAt g a (.inl (k, n, .inl f)) H) : H[a]? = some (vp_cell (g.2.1 k) (n, .inl f)) := by
  rcases h with ⟨e, -⟩ | ⟨-, e⟩
  · exact absurd e h7
  · exact e
theorem iTy0 {dA : Nat → ClassId} : (iTys dA)[0]? = some (dA 0, .int) := rfl
theorem st_getf {a idx ci k : Nat} {b : Bool} {v : Value} {rest : List Value} (ho : M.2.2.2.2.1 < 11) (hd : decode M.2.1 pc = .ok (.getfield idx, 3)) (hf : iFind (iF M.2.2.2.2.1) idx = some (ci, k, b)) (hg : iGet h a ci k = some v)
    (hn : iWd g l M d r h1 (pc + 3) L (v :: rest) h) : iWd g l M d r h1 pc L (.ref a :: rest) h := by
  obtain ⟨fs, ha, hk⟩ := iGet_inv hg
  obtain ⟨w1, w2, w3⟩ := i_fl ho hf
  refine hn.go fun C hI hL _ _ kk => ?_
  obtain ⟨hx, hb, hml, hr, hown, hts, hlk, hnm, hK, -⟩ := C
  have hat := (hI.2.2 a _ ha).1
  have hP : va_P g.1 iCl [(a, .inr (ci, fs))] _ := fun j q hq => by
    match j, hq with
    | 0, hq => cases hq; exact hat
    | j + 1, hq => simp at hq
  cases b with
  | false => exact va_get hx hb hts (i_in ci w1) hown hK.1 hP 0 rfl (i_cl ci w1) k w2 (hts _ (iok w3 rfl)) (fun x hx => by rw [← i_own ci w1 k w2]; exact hx) hk hd kk
  | true => exact va_getN hx hb hts (i_in ci w1) hown hK.1 hP 0 rfl (i_cl ci w1) k w2 (va_Nw.use rfl (hK.2.2.2 _ w3 rfl)) (fun x hx => by rw [← i_own ci w1 k w2]; exact hx) hk hd kk
theorem st_putf {a idx ci k : Nat} {v : Value} {rest : List Value} (ho : M.2.2.2.2.1 < 11) (hd : decode M.2.1 pc = .ok (.putfield idx, 3)) (hf : iFind (iF M.2.2.2.2.1) idx = some (ci, k, false)) (hfit : iFit (iTy ci k) v = true)
    (hfin : (iT ci k).2.2.2 = false ∨ (M.1.name = "<init>" ∧ ci = M.2.2.2.2.1)) (hg : iPut h a ci k v = some h')
    (hn : iWd g l M d r h1 (pc + 3) L rest h') : iWd g l M d r h1 pc L (v :: .ref a :: rest) h := by
  obtain ⟨fs, ha, hk, rfl⟩ := iPut_inv hg
  obtain ⟨w1, w2, w3⟩ := i_fl ho hf
  obtain ⟨n1, n2⟩ := i_fit hfit
  refine hn.put ha (fun x h => by cases h) fun C hI hL kk => ?_
  obtain ⟨hx, hb, hml, hr, hown, hts, hlk, hnm, hK, -⟩ := C
  rename_i p e R s m args below meth c H locs cells slots Q ls
  have hc := i_cl ci w1
  obtain ⟨rr, e1, cell, q1, q2, q3, q4⟩ := (hI.2.2 a _ ha).1
  have hrr : rr = (iOwn ci, iT ci, iN ci) := Option.some.inj (e1.symm.trans hc)
  subst hrr
  have hap := va_apart (own := iOwn M.2.2.2.2.1) (args := args) (s := s) hts (i_in ci w1) (iTy ci) (i_ty ci w1) (i_nm ci w1) hK.1 hc
  obtain ⟨hS, hfc, kC, hkC, hkind⟩ := hK.1.1 ci _ hc
  obtain ⟨cf, kf, fi, f, hi, hsl⟩ := hS k w2
  have hi2 : s.fieldFound? (iOwn ci) (iT ci k).2.1 (iT ci k).2.2.1 = some (cf, kf, fi, f) := by rw [← i_own ci w1 k w2]; exact hi
  have hlay := hts _ (i_in ci w1 _ (u_in_lay w2))
  have hst := (u_facts hfc hkC (u_lays hts (i_in ci w1) w2) hi).1
  have fin : ∀ H' : Heap, H'[a]? = some (cell.setSlot f.slot v) → H'.size = H.size → (∀ q, q ≠ a → H'[q]? = H[q]?) → W p l e R s m args below meth c H' (locs ++ [⟨a, f.slot⟩]) cells slots Q (F0 m (pc + 3) ls rest) := by
    intro H' e1 e2 e3
    refine kk H' [⟨a, f.slot⟩] ?_ e2 e3 (fun x hx => by rw [List.mem_singleton.mp hx])
    rw [hsl] at e1
    exact ⟨_, hc, t_OB.to (V := updV (vp_V fs) k v) ⟨_, e1, q2, q3, t_set q4 hap w2 v⟩ (fun j _ => vp_updV_set hk v j)⟩
  unfold u_lay at hlay
  by_cases hF : (iT ci k).2.2.2 = true
  · rw [if_pos hF] at hlay
    rcases hfin with z | ⟨z1, z2⟩
    · rw [z] at hF; cases hF
    · have hcf : m.cls = cf := by
        obtain ⟨_, _, c', _, _, _, -, -, hf', -, -, -, hown2, -⟩ := Cond.laysFinal_spec hlay
        have e1 : c' = cf := by have := hi.symm.trans hf'; simp at this; exact this.1.symm
        rw [i_own ci w1 k w2, z2] at hown2
        rw [← e1]; exact Option.some.inj (hown.symm.trans hown2)
      have h6 := u_fits hfc hkC hkind (Or.inr hlay) hi (i_ty ci w1 k w2) n1 n2
      exact W.putFinK hx hb hown (hts _ (iok w3 rfl)) hi2 hst hcf (hnm z1) (by rw [q2]; exact h6) q1 q3 (by rw [hsl]; exact k2_hasslot (q4 k w2)) rfl rfl hd fin
  · rw [if_neg hF] at hlay
    have h6 := u_store hfc hkC hkind hlay hi (i_ty ci w1 k w2) n1 n2
    exact W.putK hx hb (f := f) ⟨hown, hts _ (iok w3 rfl), ⟨_, _, _, hi2⟩, hst⟩ (by rw [q2]; exact h6) q1 q3 (by rw [hsl]; exact k2_hasslot (q4 k w2)) rfl rfl hd fin
theorem i_upd {cA : ClassId} {n : Nat} {f : Nat → Int32} {i : Nat} {x : Int32} : (vp_cell cA (n, .inl f)).setSlot i (.int x) = vp_cell cA (n, .inl (upd f i x)) := by
  rw [vp_cell_i, vp_cell_i, arrV_store]
  congr 1
  funext q
  by_cases hq : q = i <;> simp [updV, upd, hq]
theorem i_updL {cA : ClassId} {n : Nat} {f : Nat → Int64} {i : Nat} {x : Int64} : (vp_cell cA (n, .inr (.inl f))).setSlot i (.long x) = vp_cell cA (n, .inr (.inl (vp_updL f i x))) := by
  rw [vp_cell_l, vp_cell_l, arrV_store]
  congr 1
  funext q
  by_cases hq : q = i <;> simp [updV, vp_updL, hq]
theorem i_updQ {cA : ClassId} {n : Nat} {f : Nat → Option Nat} {i : Nat} {x : Option Nat} : (vp_cell cA (n, .inr (.inr (.inr (.inr f))))).setSlot i (va_rf x) = vp_cell cA (n, .inr (.inr (.inr (.inr (va_up f i x))))) := by
  rw [vp_cell_q, vp_cell_q, arrV_store]
  congr 1
  funext q
  by_cases hq : q = i <;> simp [updV, va_up, hq]
theorem st_iald {a : Nat} {i x : Int32} {rest : List Value} (hd : decode M.2.1 pc = .ok (.iaload, 1)) (hg : iLdI h a i = some x)
    (hn : iWd g l M d r h1 (pc + 1) L (.int x :: rest) h) : iWd g l M d r h1 pc L (.int i :: .ref a :: rest) h := by
  obtain ⟨k, n, f, ha, hk, hin, rfl⟩ := iLdI_inv hg
  refine hn.go fun C hI hL _ _ kk => ?_
  obtain ⟨hx, hb, hml, hr, hown, hts, hlk, hnm, hK, -⟩ := C
  have hlt : i.toNatClampNeg < n := Nat.not_le.mp fun q => hin (Or.inr q)
  rcases (hI.2.2 a _ ha).1 with ⟨e, e2, e3, f', e4, e5⟩ | ⟨e, e2⟩
  · cases e4
    exact W.iald (v := .int (f i.toNatClampNeg)) hx hb e2 hK.2.1 hK.2.2.1 (by rw [e3]; exact hin) (e5 _ hlt) rfl rfl hd kk
  · have hk0 : k = 0 := by rcases hk with z | z <;> first | exact z | exact absurd z e
    subst hk0
    exact W.iald (v := .int (f i.toNatClampNeg)) hx hb e2 ((hK.1.2 0 _ rfl).1 n (fun j => .int (f j))) (fun q => by cases q) (by show ¬ (i < 0 ∨ (arrV _ _ _).slots.size ≤ _); rw [arrV_size]; exact hin) (by show (arrV _ _ _).slots[_]? = _; rw [arrV_read _ _ hlt]) rfl rfl hd kk
theorem st_bald {a : Nat} {i x : Int32} {rest : List Value} (hd : decode M.2.1 pc = .ok (.baload, 1)) (hg : iLdB h a i = some x)
    (hn : iWd g l M d r h1 (pc + 1) L (.int x :: rest) h) : iWd g l M d r h1 pc L (.int i :: .ref a :: rest) h := by
  obtain ⟨n, f, ha, hin, rfl⟩ := iLdB_inv hg
  refine hn.go fun C hI hL _ _ kk => ?_
  obtain ⟨hx, hb, hml, hr, hown, hts, hlk, hnm, hK, -⟩ := C
  have hlt : i.toNatClampNeg < n := Nat.not_le.mp fun q => hin (Or.inr q)
  rcases (hI.2.2 a _ ha).1 with ⟨e, -⟩ | ⟨e, e2⟩
  · cases e
  · exact W.zald (v := .int (f i.toNatClampNeg)) hx hb e2 ((hK.1.2 2 _ rfl).1 n (fun j => .int (f j))) (fun q => by cases q) (by show ¬ (i < 0 ∨ (arrV _ _ _).slots.size ≤ _); rw [arrV_size]; exact hin) (by show (arrV _ _ _).slots[_]? = _; rw [arrV_read _ _ hlt]) rfl rfl hd kk
theorem st_lald {a : Nat} {i : Int32} {x : Int64} {rest : List Value} (hd : decode M.2.1 pc = .ok (.laload, 1)) (hg : iLdL h a i = some x)
    (hn : iWd g l M d r h1 (pc + 1) L (.long x :: rest) h) : iWd g l M d r h1 pc L (.int i :: .ref a :: rest) h := by
  obtain ⟨n, f, ha, hin, rfl⟩ := iLdL_inv hg
  refine hn.go fun C hI hL _ _ kk => ?_
  obtain ⟨hx, hb, hml, hr, hown, hts, hlk, hnm, hK, -⟩ := C
  have hlt : i.toNatClampNeg < n := Nat.not_le.mp fun q => hin (Or.inr q)
  rcases (hI.2.2 a _ ha).1 with ⟨e, -⟩ | ⟨e, e2⟩
  · cases e
  · exact W.lald (v := .long (f i.toNatClampNeg)) hx hb e2 ((hK.1.2 1 _ rfl).1 n (fun j => .long (f j))) (fun q => by cases q) (by show ¬ (i < 0 ∨ (arrV _ _ _).slots.size ≤ _); rw [arrV_size]; exact hin) (by show (arrV _ _ _).slots[_]? = _; rw [arrV_read _ _ hlt]) rfl rfl hd kk
theorem i_rk {k : Nat} {dA : Nat → ClassId} (h : iRK k = true) : ∃ t0 ci : Nat, k = 10 + ci ∧ ci < 10 ∧ (iTys dA)[t0]? = some (dA k, FieldType.object (iOwn ci)) := by
  simp only [iRK, Bool.or_eq_true, beq_iff_eq] at h
  rcases h with ((rfl | rfl) | rfl) | rfl
  · exact ⟨3, 2, rfl, by decide, rfl⟩
  · exact ⟨4, 3, rfl, by decide, rfl⟩
  · exact ⟨5, 5, rfl, by decide, rfl⟩
  · exact ⟨6, 7, rfl, by decide, rfl⟩
theorem i_rk7 {k : Nat} (h : iRK k = true) : k ≠ 7 := by
  rintro rfl
  cases h
theorem st_aald {a : Nat} {i : Int32} {x : Option Nat} {rest : List Value} (hd : decode M.2.1 pc = .ok (.aaload, 1)) (hg : iLdQ h a i = some x)
    (hn : iWd g l M d r h1 (pc + 1) L (va_rf x :: rest) h) : iWd g l M d r h1 pc L (.int i :: .ref a :: rest) h := by
  obtain ⟨k, n, f, ha, hk, hin, rfl⟩ := iLdQ_inv hg
  refine hn.go fun C hI hL _ _ kk => ?_
  obtain ⟨hx, hb, hml, hr, hown, hts, hlk, hnm, hK, -⟩ := C
  have hlt : i.toNatClampNeg < n := Nat.not_le.mp fun q => hin (Or.inr q)
  obtain ⟨t0, ci, rfl, hci, ht⟩ := i_rk (dA := g.2.1) hk
  rcases (hI.2.2 a _ ha).1 with ⟨e, -⟩ | ⟨e, e2⟩
  · exact absurd e (i_rk7 hk)
  · exact W.aald (v := va_rf (f i.toNatClampNeg)) (ty := .object (iOwn ci)) hx hb e2 ((hK.1.2 t0 _ ht).1 n (fun j => va_rf (f j))) rfl (fun q => by cases q) (by show ¬ (i < 0 ∨ (arrV _ _ _).slots.size ≤ _); rw [arrV_size]; exact hin) (by show (arrV _ _ _).slots[_]? = _; rw [arrV_read _ _ hlt]) rfl rfl hd kk
theorem st_iast {a : Nat} {i x : Int32} {rest : List Value} (hd : decode M.2.1 pc = .ok (.iastore, 1)) (hg : iStI h a i x = some h')
    (hn : iWd g l M d r h1 (pc + 1) L rest h') : iWd g l M d r h1 pc L (.int x :: .int i :: .ref a :: rest) h := by
  obtain ⟨n, f, ha, hin, rfl⟩ := iStI_inv hg
  refine hn.put ha (fun x h => by cases h) fun C hI hL kk => ?_
  obtain ⟨hx, hb, hml, hr, hown, hts, hlk, hnm, hK, -⟩ := C
  have e2 := iAt_i (by decide) (hI.2.2 a _ ha).1
  refine W.iast hx hb e2 ((hK.1.2 0 _ rfl).1 n (fun j => .int (f j))) (fun q => by cases q) (by show ¬ (i < 0 ∨ (arrV _ _ _).slots.size ≤ _); rw [arrV_size]; exact hin) rfl rfl hd fun H1 e z oq => ?_
  exact kk H1 [⟨a, i.toNatClampNeg⟩] (Or.inr ⟨by decide, by rw [e, i_upd]⟩) z oq (fun x hx => by rw [List.mem_singleton.mp hx])
theorem st_bast {a : Nat} {i x : Int32} {rest : List Value} (hd : decode M.2.1 pc = .ok (.bastore, 1)) (hg : iStB h a i x = some h')
    (hn : iWd g l M d r h1 (pc + 1) L rest h') : iWd g l M d r h1 pc L (.int x :: .int i :: .ref a :: rest) h := by
  obtain ⟨n, f, ha, hin, rfl⟩ := iStB_inv hg
  refine hn.put ha (fun x h => by cases h) fun C hI hL kk => ?_
  obtain ⟨hx, hb, hml, hr, hown, hts, hlk, hnm, hK, -⟩ := C
  have e2 := iAt_i (by decide) (hI.2.2 a _ ha).1
  refine W.zast hx hb e2 ((hK.1.2 2 _ rfl).1 n (fun j => .int (f j))) (fun q => by cases q) (by show ¬ (i < 0 ∨ (arrV _ _ _).slots.size ≤ _); rw [arrV_size]; exact hin) rfl rfl hd fun H1 e z oq => ?_
  exact kk H1 [⟨a, i.toNatClampNeg⟩] (Or.inr ⟨by decide, by rw [e]; exact congrArg some i_upd⟩) z oq (fun x hx => by rw [List.mem_singleton.mp hx])
theorem st_last {a : Nat} {i : Int32} {x : Int64} {rest : List Value} (hd : decode M.2.1 pc = .ok (.lastore, 1)) (hg : iStL h a i x = some h')
    (hn : iWd g l M d r h1 (pc + 1) L rest h') : iWd g l M d r h1 pc L (.long x :: .int i :: .ref a :: rest) h := by
  obtain ⟨n, f, ha, hin, rfl⟩ := iStL_inv hg
  refine hn.put ha (fun x h => by cases h) fun C hI hL kk => ?_
  obtain ⟨hx, hb, hml, hr, hown, hts, hlk, hnm, hK, -⟩ := C
  rcases (hI.2.2 a _ ha).1 with ⟨e, -⟩ | ⟨e, e2⟩
  · cases e
  · refine W.last hx hb e2 ((hK.1.2 1 _ rfl).1 n (fun j => .long (f j))) (fun q => by cases q) (by show ¬ (i < 0 ∨ (arrV _ _ _).slots.size ≤ _); rw [arrV_size]; exact hin) rfl rfl hd fun H1 e z oq => ?_
    exact kk H1 [⟨a, i.toNatClampNeg⟩] (Or.inr ⟨by decide, by rw [e, i_updL]⟩) z oq (fun x hx => by rw [List.mem_singleton.mp hx])
theorem st_aast {a v : Nat} {i : Int32} {rest : List Value} (hd : decode M.2.1 pc = .ok (.aastore, 1)) (hg : iStQ h a i (some v) = some h')
    (hn : iWd g l M d r h1 (pc + 1) L rest h') : iWd g l M d r h1 pc L (.ref v :: .int i :: .ref a :: rest) h := by
  obtain ⟨k, n, f, ha, hk, hin, hv, rfl⟩ := iStQ_inv hg
  obtain ⟨vs, hv⟩ := iObj_inv (hv v rfl)
  obtain ⟨t0, ci, rfl, hci, ht⟩ := i_rk (dA := g.2.1) hk
  have h7 := i_rk7 hk
  refine hn.put ha (fun x h => by simp only [Sum.inl.injEq, Option.some.injEq, Prod.mk.injEq] at h; exact h7 h.1) fun C hI hL kk => ?_
  obtain ⟨hx, hb, hml, hr, hown, hts, hlk, hnm, hK, -⟩ := C
  have hlt : i.toNatClampNeg < n := Nat.not_le.mp fun q => hin (Or.inr q)
  have h0 : ¬ i < 0 := fun q => hin (Or.inl q)
  rw [Nat.add_sub_cancel_left] at hv
  obtain ⟨r', hr', cellV, g1, g2, g3, -⟩ := (hI.2.2 v _ hv).1
  have hcls := (hK.1.1 ci _ (i_cl ci hci)).2
  obtain ⟨kA, comp, k1, k2, k3, -⟩ := (hK.1.2 t0 _ ht).2
  have hcomp : comp = g.1.1 ci := Option.some.inj (k3.symm.trans hcls.1)
  subst hcomp
  obtain ⟨kC, hkC, -⟩ := hcls.2
  rcases (hI.2.2 a _ ha).1 with ⟨e, -⟩ | ⟨e, e2⟩
  · exact absurd e h7
  · refine W.aast hx hb e2 (fun q h => by cases h) (fun h => by cases h) k1 k2 rfl hkC ⟨h0, by show _ < (arrV _ _ _).slots.size; rw [arrV_size]; exact hlt⟩ g1 (fun q h => by rw [g3] at h; cases h) (by rw [g2]; exact hkC) (by rw [g2]; exact va_assign hcls) rfl rfl hd fun H1 e z oq => ?_
    exact kk H1 [⟨a, i.toNatClampNeg⟩] (Or.inr ⟨h7, by rw [e]; exact congrArg some (i_updQ (x := some v))⟩) z oq (fun x hx => by rw [List.mem_singleton.mp hx])
theorem st_aastN {a : Nat} {i : Int32} {rest : List Value} (hd : decode M.2.1 pc = .ok (.aastore, 1)) (hg : iStQ h a i none = some h')
    (hn : iWd g l M d r h1 (pc + 1) L rest h') : iWd g l M d r h1 pc L (.null :: .int i :: .ref a :: rest) h := by
  obtain ⟨k, n, f, ha, hk, hin, hv, rfl⟩ := iStQ_inv hg
  obtain ⟨t0, ci, rfl, hci, ht⟩ := i_rk (dA := g.2.1) hk
  have h7 := i_rk7 hk
  refine hn.put ha (fun x h => by simp only [Sum.inl.injEq, Option.some.injEq, Prod.mk.injEq] at h; exact h7 h.1) fun C hI hL kk => ?_
  obtain ⟨hx, hb, hml, hr, hown, hts, hlk, hnm, hK, -⟩ := C
  rcases (hI.2.2 a _ ha).1 with ⟨e, -⟩ | ⟨e, e2⟩
  · exact absurd e h7
  · refine va_WaastN (C := iOwn ci) hx hb e2 ((hK.1.2 t0 _ ht).1 n (fun j => va_rf (f j))) (fun h => by cases h) (by show ¬ (i < 0 ∨ (arrV _ _ _).slots.size ≤ _); rw [arrV_size]; exact hin) rfl rfl hd fun H1 e z oq => ?_
    exact kk H1 [⟨a, i.toNatClampNeg⟩] (Or.inr ⟨h7, by rw [e]; exact congrArg some (i_updQ (x := none))⟩) z oq (fun x hx => by rw [List.mem_singleton.mp hx])
theorem st_alen {a : Nat} {x : Int32} {rest : List Value} (hd : decode M.2.1 pc = .ok (.arraylength, 1)) (hg : iLen h a = some x)
    (hn : iWd g l M d r h1 (pc + 1) L (.int x :: rest) h) : iWd g l M d r h1 pc L (.ref a :: rest) h := by
  unfold iLen at hg
  split at hg
  · rename_i k n y ha
    split at hg
    · rename_i hk
      cases hg
      refine hn.go fun C hI hL _ _ kk => ?_
      obtain ⟨hx, hb, hml, hr, hown, hts, hlk, hnm, hK, -⟩ := C
      rcases (hI.2.2 a _ ha).1 with ⟨e, e2, e3, f', e4, e5⟩ | ⟨e, e2⟩
      · exact W.alen (n := Int32.ofNat n) hx hb e2 hK.2.1 (by rw [e3] <;> rfl) rfl rfl hd kk
      · obtain ⟨t0, ty, ht⟩ : ∃ (t0 : Nat) (ty : FieldType), (iTys g.2.1)[t0]? = some (g.2.1 k, ty) := by
          rcases hk with hk | rfl | rfl | rfl | hk
          · exact absurd hk e
          · exact ⟨0, _, rfl⟩
          · exact ⟨1, _, rfl⟩
          · exact ⟨2, _, rfl⟩
          · obtain ⟨t0, ci, -, -, ht⟩ := i_rk (dA := g.2.1) hk
            exact ⟨t0, _, ht⟩
        obtain ⟨z, hz⟩ : ∃ z, vp_cell (g.2.1 k) (n, y) = arrV (g.2.1 k) n z := by
          rcases y with f | f | f | f | f
          · exact ⟨_, vp_cell_i _ _ _⟩
          · exact ⟨_, vp_cell_l _ _ _⟩
          · exact ⟨_, vp_cell_f _ _ _⟩
          · exact ⟨_, vp_cell_d _ _ _⟩
          · exact ⟨_, vp_cell_q _ _ _⟩
        rw [hz] at e2
        exact W.alen (n := Int32.ofNat n) hx hb e2 ((hK.1.2 t0 _ ht).1 n z) (by rw [arrV_size] <;> rfl) rfl rfl hd kk
    · cases hg
  · cases hg
end STEP

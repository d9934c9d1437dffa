/-! calls, and the whole of it -/

section CALL
variable {g : iG} {l : Launch} {M M' : iM} {d : Nat} {r r' : Option Value} {h1 h2 : iHp} {pc pc' : Nat} {L L' st st' : List Value} {h h' : iHp}
theorem iMet {args : List Value} {d' : Nat} {ws : List Cond} (hws : ws = Cond.code M'.1 M'.2.1 M'.2.2.1 M'.2.2.2.1 :: lw_ok) (hok : iMok M') (hw : iWd g l M' d' r' h2 0 (iInit M'.2.2.1 args) [] h) (hlen : (iInit M'.2.2.1 args).length = M'.2.2.1) (hd : 1 ≤ d') :
    Met l M'.1 ws ({ frames := d', cells := h2.2.1 - h.2.1, slots := h2.2.2 - h.2.2, locals := 64 * d' } : Room) (va_Pc args (fun U => iIm g h U.heap ∧ iKU g U)) (iQ g r' h2) (h2.2.1 - h.2.1) (h2.2.2 - h.2.2) (fun q => g.2.2.1 ≤ q) := by
  obtain ⟨k1, k2, k3, k4, k5, k6, k7⟩ := hok
  refine Met.ofW (cc := M'.2.1) (maxL := M'.2.2.1) (ret := M'.2.2.2.1) k3 hws ?_
  intro p e s m args' below meth c s₁ B hml hv
  obtain ⟨rfl, hI, hK⟩ := hv
  have hts0 := atoms_spec (ws := ws) B.pre
  rw [lg_entry_eq]
  have := hw.2.2 p e (headSpec ws { frames := d', cells := h2.2.1 - h.2.1, slots := h2.2.2 - h.2.2, locals := 64 * d' }).room s m args.toArray below meth c s.heap [] h.2.1 h.2.2 _ ⟨B.exec, B.bytes, hml, B.returns, (by rw [← k5]; exact findClass_of_methodNamed B.named), fun w hw => hts0 w (by rw [hws]; exact List.mem_cons_of_mem _ hw), B.notSynchronized, fun hn => (name_of_methodNamed B.named B.method).1.trans hn, hK, Nat.le_refl _, Nat.le_refl _, hd⟩ (Nat.le_refl _) (Nat.le_refl _) (Nat.le_refl _) (Nat.le_refl _) hI (iInit_ls hlen) (fun q h => by cases h)
  rw [Nat.sub_self, Nat.sub_self] at this
  exact this
theorem st_after {rest : List Value} {a' : Array Value} (hle1 : h.2.1 ≤ h2.2.1) (hle2 : h.2.2 ≤ h2.2.2) (hn : iWd g l M d r h1 (pc + 3) L (r'.toList ++ rest) h2)
    (f : ∀ {p : Program} {e : Env} {R : Room} {s : State} {m : MethodId} {args : Array Value} {below : List Frame} {meth : Method} {c : Code} {H : Heap} {locs : List Loc} {cells slots : Nat} {ls : Array Slot}, iCx g p R s m args meth c M d → iIm g h H → iLs L ls → cells + (h2.2.1 - h.2.1) ≤ R.cells → slots + (h2.2.2 - h.2.2) ≤ R.slots →
      va_Run p l e R s m args below meth c H locs cells slots (h2.2.1 - h.2.1) (h2.2.2 - h.2.2) (F0 m pc ls st) rest (iQ g r' h2 a') (fun q => g.2.2.1 ≤ q)) : iWd g l M d r h1 pc L st h := by
  refine ⟨Nat.le_trans hle1 hn.1, Nat.le_trans hle2 hn.2.1, fun p e R s m args below meth c H locs n0 s0 ls C z1 z2 z3 z4 hI hL hl => ?_⟩
  have y1 := hn.1
  have y2 := hn.2.1
  intro T hT X
  obtain ⟨v, st₀, t, T', L', h0, X', hL', e1, e2, ⟨hv, hI'⟩, stp⟩ := f (e := e) (below := below) (locs := locs) (cells := h.2.1 - n0) (slots := h.2.2 - s0) C hI hL (by omega) (by omega) T hT X
  cases hv
  have k := hn.2.2 p e R s m args below meth c T'.heap (locs ++ L') n0 s0 ls C (by omega) (by omega) z3 z4 (by rw [e1]; exact hI') hL (fun q hq => by
    rcases List.mem_append.mp hq with z | z
    · exact hl q z
    · exact hL' q z)
  rw [show h2.2.1 - n0 = h.2.1 - n0 + (h2.2.1 - h.2.1) by omega, show h2.2.2 - s0 = h.2.2 - s0 + (h2.2.2 - h.2.2) by omega] at k
  obtain ⟨t2, a1, b1⟩ := k T' rfl X'
  exact ⟨t2, stp t2 a1, b1⟩
theorem iBlind {args : List Value} : FrameBlind (va_Pc args (fun U => iIm g h U.heap ∧ iKU g U)) := fun a U gg mk q => ⟨q.1, q.2.1, iKU.same (u := U) (U := U.calling gg mk a) rfl q.2.2⟩
theorem iPre {args : List Value} {s : State} {H : Heap} (hI : iIm g h H) (hK : iKU g s) : ∀ U : State, U.heap = H → s.WarmedH U.vm → va_Pc args (fun U => iIm g h U.heap ∧ iKU g U) args.toArray U := fun U hU hW => ⟨rfl, by rw [hU]; exact hI, hK.warm hW⟩
theorem iFix {p : Program} {R : Room} {s : State} {m : MethodId} {args : Array Value} {meth : Method} {c : Code} (C : iCx g p R s m args meth c M d) : CallFix p m c M.2.1 M.2.2.1 s args lw_ok (iOwn M.2.2.2.2.1) := ⟨C.1, C.2.1, C.2.2.1, C.2.2.2.2.1, C.2.2.2.2.2.1⟩
theorem iTop {rest : List Value} {n : Nat} (hd : st.drop n = rest) : st = ((st.take n).reverse).reverse ++ rest := by
  rw [List.reverse_reverse, ← hd, List.take_append_drop]
theorem iLen2 {n : Nat} (h : n ≤ st.length) : ((st.take n).reverse).length = n := by simp; omega
theorem iSub {ws : List Cond} (hws : ws = Cond.code M'.1 M'.2.1 M'.2.2.1 M'.2.2.2.1 :: lw_ok) (hok : iMok M') : ∀ w ∈ ws, w ∈ lw_ok := by
  intro w hw
  rw [hws] at hw
  rcases List.mem_cons.mp hw with rfl | hw
  · exact iok hok.1 rfl
  · exact hw
theorem iRm {d' : Nat} {p : Program} {R : Room} {s : State} {m : MethodId} {args : Array Value} {meth : Method} {c : Code} (C : iCx g p R s m args meth c M d) (hok : iMok M') (hd : d' < d) : d' + 1 ≤ R.frames ∧ 8 + (M'.2.2.1 + 11) + 64 * d' ≤ R.locals := by
  obtain ⟨-, -, -, -, -, -, -, -, -, a, b, -⟩ := C
  obtain ⟨-, -, -, -, -, k, -⟩ := hok
  omega
theorem iRecv {s : State} {H : Heap} {b ci : Nat} {fs : List Value} (hci : ci < 10) (hI : iIm g h H) (hK : iKU g s) (hb : h.1 b = some (.inr (ci, fs))) : ∃ cell : Cell, H[b]? = some cell ∧ cell.vm.isStatics = false ∧ s.vm.findClass (iOwn ci) = some cell.cls := by
  obtain ⟨rr, e1, cell, q1, q2, q3, -⟩ := (hI.2.2 b _ hb).1
  exact ⟨cell, q1, by rw [q3]; rfl, by rw [q2]; exact (hK.1.1 ci _ (i_cl ci hci)).2.1⟩
theorem st_callV {idx n b d' : Nat} {rest : List Value} (ho : M.2.2.2.2.1 < 11) (hlen : L.length = M.2.2.1) (hd : decode M.2.1 pc = .ok (.invokevirtual idx, 3)) (hf : iFind (iK M.2.2.2.2.1) idx = some (M', 0, n)) (hdr : st.drop n = .ref b :: rest) (hnl : n ≤ st.length) (hobj : iObj h b M'.2.2.2.2.1 = true)
    (hdd : d' < d) (h1d : 1 ≤ d') (hs : iSum rest ≤ 8) (hil : (iInit M'.2.2.1 (.ref b :: (st.take n).reverse)).length = M'.2.2.1) (hc : iWd g l M' d' r' h2 0 (iInit M'.2.2.1 (.ref b :: (st.take n).reverse)) [] h) (hn : iWd g l M d r h1 (pc + 3) L (r'.toList ++ rest) h2) : iWd g l M d r h1 pc L st h := by
  obtain ⟨hok, hps, w1, w2, w3⟩ := i_kl ho hf
  obtain ⟨fs, hb⟩ := iObj_inv hobj
  obtain ⟨ws, hws⟩ : ∃ ws, ws = Cond.code M'.1 M'.2.1 M'.2.2.1 M'.2.2.2.1 :: lw_ok := ⟨_, rfl⟩
  refine st_after (a' := (Value.ref b :: (st.take n).reverse).toArray) hc.1 hc.2.1 hn fun C hI hL z1 z2 => ?_
  have hK := C.2.2.2.2.2.2.2.2.1
  have hts := C.2.2.2.2.2.1
  exact va_runV (As := (st.take n).reverse) (rest := rest) (iFix C) (iMet hws hok hc hil h1d) ⟨callB_of n hts (i_goodIn (iSub hws hok)) hws rfl rfl (hts _ (iok hok.2.1 rfl)) (hts _ (iok w1 rfl)) ⟨hok.2.2.2.1.1, hok.2.2.2.1.2, hps⟩ (iRm C hok hdd), hts _ (iok w2 rfl), hts _ (iok w3 rfl)⟩ ⟨iBlind, by rw [hok.2.2.2.2.1]; exact iRecv hok.2.2.2.2.2.2 hI hK hb, iPre hI hK⟩ rfl (iLen2 hnl) (hL.1.trans hlen) (iTop hdr) (lv_room hs) hd ⟨z1, z2⟩
theorem st_callS {idx n d' : Nat} {rest : List Value} (ho : M.2.2.2.2.1 < 11) (hlen : L.length = M.2.2.1) (hd : decode M.2.1 pc = .ok (.invokestatic idx, 3)) (hf : iFind (iK M.2.2.2.2.1) idx = some (M', 1, n)) (hdr : st.drop n = rest) (hnl : n ≤ st.length)
    (hdd : d' < d) (h1d : 1 ≤ d') (hs : iSum rest ≤ 8) (hil : (iInit M'.2.2.1 ((st.take n).reverse)).length = M'.2.2.1) (hc : iWd g l M' d' r' h2 0 (iInit M'.2.2.1 ((st.take n).reverse)) [] h) (hn : iWd g l M d r h1 (pc + 3) L (r'.toList ++ rest) h2) : iWd g l M d r h1 pc L st h := by
  obtain ⟨hok, hps, w1, w2, w3⟩ := i_kl ho hf
  obtain ⟨ws, hws⟩ : ∃ ws, ws = Cond.code M'.1 M'.2.1 M'.2.2.1 M'.2.2.2.1 :: lw_ok := ⟨_, rfl⟩
  refine st_after (a' := ((st.take n).reverse).toArray) hc.1 hc.2.1 hn fun C hI hL z1 z2 => ?_
  have hK := C.2.2.2.2.2.2.2.2.1
  have hts := C.2.2.2.2.2.1
  exact va_runS (As := (st.take n).reverse) (rest := rest) (iFix C) (iMet hws hok hc hil h1d) ⟨callB_of n hts (i_goodIn (iSub hws hok)) hws rfl rfl (hts _ (iok hok.2.1 rfl)) (hts _ (iok w1 rfl)) ⟨hok.2.2.2.1.1, hok.2.2.2.1.2, hps⟩ (iRm C hok hdd), hts _ (iok w2 rfl)⟩ ⟨iBlind, iPre hI hK⟩ rfl (iLen2 hnl) (hL.1.trans hlen) (iTop hdr) (lv_room hs) hd ⟨z1, z2⟩
theorem st_callSN {idx n d' : Nat} {rest : List Value} (ho : M.2.2.2.2.1 < 11) (hlen : L.length = M.2.2.1) (hd : decode M.2.1 pc = .ok (.invokestatic idx, 3)) (hf : iFind (iK M.2.2.2.2.1) idx = some (M', 4, n)) (hdr : st.drop n = rest) (hnl : n ≤ st.length)
    (hdd : d' < d) (h1d : 1 ≤ d') (hs : iSum rest ≤ 8) (hil : (iInit M'.2.2.1 ((st.take n).reverse)).length = M'.2.2.1) (hc : iWd g l M' d' r' h2 0 (iInit M'.2.2.1 ((st.take n).reverse)) [] h) (hn : iWd g l M d r h1 (pc + 3) L (r'.toList ++ rest) h2) : iWd g l M d r h1 pc L st h := by
  obtain ⟨hok, hps, w1, w2, w3⟩ := i_kl ho hf
  obtain ⟨ws, hws⟩ : ∃ ws, ws = Cond.code M'.1 M'.2.1 M'.2.2.1 M'.2.2.2.1 :: lw_ok := ⟨_, rfl⟩
  refine st_after (a' := ((st.take n).reverse).toArray) hc.1 hc.2.1 hn fun C hI hL z1 z2 => ?_
  have hK := C.2.2.2.2.2.2.2.2.1
  have hts := C.2.2.2.2.2.1
  exact va_runSN (As := (st.take n).reverse) (rest := rest) (iFix C) (iMet hws hok hc hil h1d) ⟨va_cnB n hts (i_goodIn (iSub hws hok)) hws rfl rfl (hK.2.2.2 _ w1 rfl) (hts _ (iok hok.2.1 rfl)) ⟨hok.2.2.2.1.1, hok.2.2.2.1.2, hps⟩ (iRm C hok hdd), hts _ (iok w2 rfl), trivial⟩ ⟨iBlind, iPre hI hK⟩ rfl (iLen2 hnl) (hL.1.trans hlen) (iTop hdr) (lv_room hs) hd ⟨z1, z2⟩
theorem st_callI {idx n b d' : Nat} {rest : List Value} (ho : M.2.2.2.2.1 < 11) (hlen : L.length = M.2.2.1) (hd : decode M.2.1 pc = .ok (.invokespecial idx, 3)) (hf : iFind (iK M.2.2.2.2.1) idx = some (M', 2, n)) (hdr : st.drop n = .ref b :: rest) (hnl : n ≤ st.length)
    (hdd : d' < d) (h1d : 1 ≤ d') (hs : iSum rest ≤ 8) (hil : (iInit M'.2.2.1 (.ref b :: (st.take n).reverse)).length = M'.2.2.1) (hc : iWd g l M' d' r' h2 0 (iInit M'.2.2.1 (.ref b :: (st.take n).reverse)) [] h) (hn : iWd g l M d r h1 (pc + 3) L (r'.toList ++ rest) h2) : iWd g l M d r h1 pc L st h := by
  obtain ⟨hok, hps, w1, w2, w3, w4⟩ := i_kl ho hf
  obtain ⟨ws, hws⟩ : ∃ ws, ws = Cond.code M'.1 M'.2.1 M'.2.2.1 M'.2.2.2.1 :: lw_ok := ⟨_, rfl⟩
  refine st_after (a' := (Value.ref b :: (st.take n).reverse).toArray) hc.1 hc.2.1 hn fun C hI hL z1 z2 => ?_
  have hK := C.2.2.2.2.2.2.2.2.1
  have hts := C.2.2.2.2.2.1
  rename_i p e R s m args below meth c H locs cells slots ls
  have cb := callB_of (R := R) (rm := ({ frames := d', cells := h2.2.1 - h.2.1, slots := h2.2.2 - h.2.2, locals := 64 * d' } : Room)) (maxL := M'.2.2.1) (bytes := M'.2.1) (ret := M'.2.2.2.1) n hts (i_goodIn (iSub hws hok)) hws rfl rfl (hts _ (iok hok.2.1 rfl)) (hts _ (iok w1 rfl)) ⟨hok.2.2.2.1.1, hok.2.2.2.1.2, hps⟩ (iRm C hok hdd)
  have hm := iMet hws hok hc hil h1d
  dsimp only at w4
  rw [w4] at cb
  exact va_runI (As := (st.take n).reverse) (rest := rest) (iFix C) hm ⟨cb, w3, hts _ (iok w2 rfl)⟩ ⟨iBlind, iPre hI hK⟩ rfl (iLen2 hnl) (hL.1.trans hlen) (iTop hdr) (lv_room hs) hd ⟨z1, z2⟩
theorem st_callIN {idx n b d' : Nat} {rest : List Value} (ho : M.2.2.2.2.1 < 11) (hlen : L.length = M.2.2.1) (hd : decode M.2.1 pc = .ok (.invokespecial idx, 3)) (hf : iFind (iK M.2.2.2.2.1) idx = some (M', 3, n)) (hdr : st.drop n = .ref b :: rest) (hnl : n ≤ st.length)
    (hdd : d' < d) (h1d : 1 ≤ d') (hs : iSum rest ≤ 8) (hil : (iInit M'.2.2.1 (.ref b :: (st.take n).reverse)).length = M'.2.2.1) (hc : iWd g l M' d' r' h2 0 (iInit M'.2.2.1 (.ref b :: (st.take n).reverse)) [] h) (hn : iWd g l M d r h1 (pc + 3) L (r'.toList ++ rest) h2) : iWd g l M d r h1 pc L st h := by
  obtain ⟨hok, hps, w1, w2, w3, w4⟩ := i_kl ho hf
  obtain ⟨ws, hws⟩ : ∃ ws, ws = Cond.code M'.1 M'.2.1 M'.2.2.1 M'.2.2.2.1 :: lw_ok := ⟨_, rfl⟩
  refine st_after (a' := (Value.ref b :: (st.take n).reverse).toArray) hc.1 hc.2.1 hn fun C hI hL z1 z2 => ?_
  have hK := C.2.2.2.2.2.2.2.2.1
  have hts := C.2.2.2.2.2.1
  rename_i p e R s m args below meth c H locs cells slots ls
  have cb := va_cnB (R := R) (rm := ({ frames := d', cells := h2.2.1 - h.2.1, slots := h2.2.2 - h.2.2, locals := 64 * d' } : Room)) (maxL := M'.2.2.1) (bytes := M'.2.1) (ret := M'.2.2.2.1) n hts (i_goodIn (iSub hws hok)) hws rfl rfl (hK.2.2.2 _ w1 rfl) (hts _ (iok hok.2.1 rfl)) ⟨hok.2.2.2.1.1, hok.2.2.2.1.2, hps⟩ (iRm C hok hdd)
  have hm := iMet hws hok hc hil h1d
  dsimp only at w4
  rw [w4] at cb
  exact va_runIN (As := (st.take n).reverse) (rest := rest) (iFix C) hm ⟨cb, w3, hts _ (iok w2 rfl)⟩ ⟨iBlind, iPre hI hK⟩ rfl (iLen2 hnl) (hL.1.trans hlen) (iTop hdr) (lv_room hs) hd ⟨z1, z2⟩
theorem iRank1 (h : 1 ≤ M'.2.2.2.2.2.1) (args : List Value) : 1 ≤ iRank M' args := by
  unfold iRank
  omega
end CALL

/-! new objects and arrays, arraycopy, calls -/
section NEWS
variable {g : iG} {l : Launch} {M : iM} {d : Nat} {r : Option Value} {h1 : iHp} {pc pc' : Nat} {L L' st st' : List Value} {h h' : iHp}
theorem i_defs (ci : Nat) : ∀ j, j < iN ci → defaultValue (iTy ci j) = vp_V (iDefs ci) j := by
  intro j hj
  unfold vp_V iDefs
  rw [List.getD_eq_getElem?_getD, List.getElem?_map, List.getElem?_range hj]
  rfl
theorem st_new {idx ci : Nat} {rest : List Value} (ho : M.2.2.2.2.1 < 11) (hd : decode M.2.1 pc = .ok (.new idx, 3)) (hf : iFind (iC M.2.2.2.2.1) idx = some ci)
    (hn : iWd g l M d r h1 (pc + 3) L (.ref h.2.1 :: rest) (iNewO h ci)) : iWd g l M d r h1 pc L rest h := by
  obtain ⟨w1, w2⟩ := i_cll ho hf
  refine iWd.new hn fun C hsz hc hs kk => ?_
  obtain ⟨hx, hb, hml, hr, hown, hts, hlk, hnm, hK, -⟩ := C
  have hKn := hK.1.1 ci _ (i_cl ci w1)
  refine W.newcK hx hb hown (hts _ (iok w2 rfl)) (hts _ (iok (i_inst ci w1) rfl)) (hts _ (iok (i_init ci (by omega)) rfl)) rfl hd hc hs hKn.2.1 hsz fun H1 kC hkC e1 z1 o1 => ?_
  rw [← hsz] at e1 z1 o1
  exact kk H1 ⟨_, i_cl ci w1, (u_born (iTy ci) hts (i_in ci w1) hKn hkC e1 (i_ty ci w1)).to (i_defs ci)⟩ z1 o1
theorem st_newa {aty : ArrayType} {n : Int32} {rest : List Value} (hd : decode M.2.1 pc = .ok (.newarray aty, 2)) (hg : iNewA h aty n = some h')
    (hn : iWd g l M d r h1 (pc + 2) L (.ref h.2.1 :: rest) h') : iWd g l M d r h1 pc L (.int n :: rest) h := by
  unfold iNewA at hg
  split at hg
  · rename_i hc
    obtain ⟨hn0, hn1⟩ := hc
    have hsum : ∀ (ty : FieldType), n.toNatClampNeg * componentBytes ty ≤ 536870912 := by
      intro ty
      have : componentBytes ty ≤ 8 := by cases ty <;> exact Nat.le_of_ble_eq_true rfl
      calc n.toNatClampNeg * componentBytes ty ≤ 60000000 * 8 := Nat.mul_le_mul hn1 this
        _ ≤ 536870912 := by decide
    split at hg
    · cases hg
      refine iWd.new hn fun C hsz hcl hs kk => ?_
      obtain ⟨hx, hb, hml, hr, hown, hts, hlk, hnm, hK, -⟩ := C
      refine va_newaK hx hb (atype := .int) (hts _ (iok i_ac0 rfl)) rfl hd rfl hn0 rfl (hsum _) hcl hs hsz fun H1 cA e1 z1 o1 hAr hNm => ?_
      have hcA : cA = g.2.1 0 := Option.some.inj (hNm.symm.trans (hK.1.2 0 _ rfl).2)
      subst hcA
      rw [← hsz] at e1 z1 o1
      exact kk H1 (Or.inr ⟨by decide, e1⟩) z1 o1
    · cases hg
      refine iWd.new hn fun C hsz hcl hs kk => ?_
      obtain ⟨hx, hb, hml, hr, hown, hts, hlk, hnm, hK, -⟩ := C
      refine va_newaK hx hb (atype := .long) (hts _ (iok i_ac1 rfl)) rfl hd rfl hn0 rfl (hsum _) hcl hs hsz fun H1 cA e1 z1 o1 hAr hNm => ?_
      have hcA : cA = g.2.1 1 := Option.some.inj (hNm.symm.trans (hK.1.2 1 _ rfl).2)
      subst hcA
      rw [← hsz] at e1 z1 o1
      exact kk H1 (Or.inr ⟨by decide, e1⟩) z1 o1
    · cases hg
      refine iWd.new hn fun C hsz hcl hs kk => ?_
      obtain ⟨hx, hb, hml, hr, hown, hts, hlk, hnm, hK, -⟩ := C
      refine va_newaK hx hb (atype := .boolean) (hts _ (iok i_ac2 rfl)) rfl hd rfl hn0 rfl (hsum _) hcl hs hsz fun H1 cA e1 z1 o1 hAr hNm => ?_
      have hcA : cA = g.2.1 2 := Option.some.inj (hNm.symm.trans (hK.1.2 2 _ rfl).2)
      subst hcA
      rw [← hsz] at e1 z1 o1
      exact kk H1 (Or.inr ⟨by decide, e1⟩) z1 o1
    · cases hg
  · cases hg
theorem i_ao {ci : Nat} (h : iRK (10 + ci) = true) : Cond.arrayOver (.object (iOwn ci)) ∈ lw_tbl := by
  simp only [iRK, Bool.or_eq_true, beq_iff_eq] at h
  have : ci = 2 ∨ ci = 3 ∨ ci = 5 ∨ ci = 7 := by omega
  rcases this with rfl | rfl | rfl | rfl
  · exact i_ao2
  · exact i_ao3
  · exact i_ao5
  · exact i_ao7
theorem st_newq {idx ci : Nat} {n : Int32} {rest : List Value} (ho : M.2.2.2.2.1 < 11) (hd : decode M.2.1 pc = .ok (.anewarray idx, 3)) (hf : iFind (iC M.2.2.2.2.1) idx = some ci) (hg : iNewQ h ci n = some h')
    (hn : iWd g l M d r h1 (pc + 3) L (.ref h.2.1 :: rest) h') : iWd g l M d r h1 pc L (.int n :: rest) h := by
  obtain ⟨w1, w2⟩ := i_cll ho hf
  unfold iNewQ at hg
  split at hg
  · rename_i hc
    obtain ⟨hn0, hn1, hrk⟩ := hc
    cases hg
    refine iWd.new hn fun C hsz hcl hs kk => ?_
    obtain ⟨hx, hb, hml, hr, hown, hts, hlk, hnm, hK, -⟩ := C
    rename_i p e R s m args below meth c H locs cells slots Q ls
    refine W.anew hx hb hown (hts _ (iok w2 rfl)) (va_AO.use (hK.2.2.2 _ (i_ao hrk) rfl)) rfl hd rfl hn0 (by omega) hcl hs fun cA kA comp f1 f2 f3 f4 => ?_
    obtain ⟨t0, cj, e1, e2, ht⟩ := i_rk (dA := g.2.1) hrk
    have : cj = ci := by omega
    subst this
    obtain ⟨kA', comp', q1, q2, q3, q4⟩ := (hK.1.2 t0 _ ht).2
    have hcA : cA = g.2.1 (10 + cj) := Option.some.inj (f1.symm.trans q4)
    subst hcA
    rw [hsz]
    refine kk _ (Or.inr ⟨i_rk7 hrk, ?_⟩) (by rw [Array.size_push]) (fun q hq => by rw [Array.getElem?_push, if_neg (Nat.ne_of_lt hq)])
    rw [Array.getElem?_push_size]
    exact congrArg some (arrV_new _ _ _)
  · cases hg
theorem i_nat {n : Nat} {x : Int32} (h : ¬ x < 0) (e : x.toNatClampNeg = n) : x.toInt = (n : Int) := by
  have h0 : (0 : Int) ≤ x.toInt := by
    have := Int32.not_lt.mp h
    simpa using Int32.le_iff_toInt_le.mp this
  rw [← e]
  show x.toInt = ((x.toInt.toNat : Nat) : Int)
  omega
theorem i_native : Cond.native arraycopyName ∈ lw_tbl := by decide +kernel
theorem i_nstat : Cond.static arraycopyName ∈ lw_tbl := by decide +kernel
theorem i_nini : Cond.initialized "java/lang/System" ∈ lw_tbl := by decide +kernel
theorem i_mxs : Cond.static Lib.Math.max.name ∈ lw_tbl := by decide +kernel
theorem i_mns : Cond.static Lib.Math.min.name ∈ lw_tbl := by decide +kernel
theorem i_mini : Cond.initialized "java/lang/Math" ∈ lw_tbl := by decide +kernel
theorem i_mxc : Cond.code Lib.Math.max.name Lib.Math.max.code 2 (some .int) ∈ lw_tbl := by decide +kernel
theorem i_mnc : Cond.code Lib.Math.min.name Lib.Math.min.code 2 (some .int) ∈ lw_tbl := by decide +kernel
theorem i_obi : Cond.instanceMethod objectInit ∈ lw_tbl := by decide +kernel
theorem i_obc : Cond.code objectInit ⟨#[0xb1]⟩ 1 none ∈ lw_tbl := by decide +kernel
theorem st_max {idx : Nat} {x y : Int32} {rest : List Value} (ho : M.2.2.2.2.1 < 11) (hlen : L.length = M.2.2.1) (hs : iSum rest ≤ 8) (h0 : idx ≠ 0) (hi : idx = iX M.2.2.2.2.1) (hd : decode M.2.1 pc = .ok (.invokestatic idx, 3))
    (hn : iWd g l M d r h1 (pc + 3) L (.int (if x < y then y else x) :: rest) h) : iWd g l M d r h1 pc L (.int y :: .int x :: rest) h := by
  refine hn.go fun C hI hL hc hsl kk => ?_
  obtain ⟨hx, hb, hml, hr, hown, hts, hlk, hnm, hK, hR1, hR2, hd1⟩ := C
  subst hi
  have hs' : (rest.map fun v => v.category).sum ≤ 8 := hs
  exact va_mmax hx hb (by rw [hml, hL.1, hlen]) hown (hts _ (iok (iXok _ ho h0) rfl)) (hts _ (iok i_mxs rfl)) (hts _ (iok i_mini rfl)) (hts _ (iok i_mxc rfl)) (by omega) (by omega) hc hsl hd kk
theorem st_min {idx : Nat} {x y : Int32} {rest : List Value} (ho : M.2.2.2.2.1 < 11) (hlen : L.length = M.2.2.1) (hs : iSum rest ≤ 8) (h0 : idx ≠ 0) (hi : idx = iI M.2.2.2.2.1) (hd : decode M.2.1 pc = .ok (.invokestatic idx, 3))
    (hn : iWd g l M d r h1 (pc + 3) L (.int (if y < x then y else x) :: rest) h) : iWd g l M d r h1 pc L (.int y :: .int x :: rest) h := by
  refine hn.go fun C hI hL hc hsl kk => ?_
  obtain ⟨hx, hb, hml, hr, hown, hts, hlk, hnm, hK, hR1, hR2, hd1⟩ := C
  subst hi
  have hs' : (rest.map fun v => v.category).sum ≤ 8 := hs
  exact va_mmin hx hb (by rw [hml, hL.1, hlen]) hown (hts _ (iok (iIok _ ho h0) rfl)) (hts _ (iok i_mns rfl)) (hts _ (iok i_mini rfl)) (hts _ (iok i_mnc rfl)) (by omega) (by omega) hc hsl hd kk
theorem st_obj {idx : Nat} {a : Nat} {rest : List Value} (ho : M.2.2.2.2.1 < 11) (hlen : L.length = M.2.2.1) (hs : iSum rest ≤ 8) (h0 : idx ≠ 0) (hi : idx = iO M.2.2.2.2.1) (hd : decode M.2.1 pc = .ok (.invokespecial idx, 3))
    (hn : iWd g l M d r h1 (pc + 3) L rest h) : iWd g l M d r h1 pc L (.ref a :: rest) h := by
  refine hn.go fun C hI hL hc hsl kk => ?_
  obtain ⟨hx, hb, hml, hr, hown, hts, hlk, hnm, hK, hR1, hR2, hd1⟩ := C
  subst hi
  have hs' : (rest.map fun v => v.category).sum ≤ 8 := hs
  refine W.objInit hx hb hown (hts _ (iok (iOok _ ho h0) rfl)) (hts _ (iok i_obi rfl)) (hts _ (iok i_obc rfl)) rfl (by rw [hml]; exact hL.1.trans hlen) rfl hd (by omega) ?_ kk
  have := lv_room (m := ⟨0, 0⟩) (pc := 0) (ls := #[]) (rest := []) hs'
  show 2 * 0 + _ + 12 ≤ _
  omega
theorem i_fitI {x : Int32} : fits .int (.int x) = true := rfl
theorem i_copied {α : Type} (mk : α → Value) (cA : ClassId) {n0 n1 : Nat} {f f2 : Nat → α} {sp dp n : Int32} (hs : sp.toNatClampNeg + n.toNatClampNeg ≤ n0) :
    copied (arrV cA n0 (fun j => mk (f j))) (arrV cA n1 (fun j => mk (f2 j))) sp dp n = arrV cA n1 (fun j => mk (va_cpy f f2 sp.toNatClampNeg dp.toNatClampNeg n.toNatClampNeg j)) := va_copied mk cA cA f f2 hs
/-- System.arraycopy of one prim kind, over whole cells -/
theorem st_cpyG {α : Type} (mk : α → Value) (ty : FieldType) (t0 : Nat) {k idx a0 a n0 n1 : Nat} {f f2 : Nat → α} {x0 x1 x2 : vp_A} {sp dp n : Int32} {rest : List Value} (ho : M.2.2.2.2.1 < 11) (hlen : L.length = M.2.2.1) (hs : iSum rest ≤ 8) (h0 : idx ≠ 0) (hi : idx = iP M.2.2.2.2.1) (hd : decode M.2.1 pc = .ok (.invokestatic idx, 3))
    (ht : ∀ dA, (iTys dA)[t0]? = some (dA k, ty)) (hk7 : k ≠ 7) (hprim : refKind ty = false) (hmk : ∀ z, fits ty (mk z) = true ∧ ((∃ x, mk z = .int x) ∨ ∃ x, mk z = .long x))
    (hc0 : ∀ cA, vp_cell cA x0 = arrV cA n0 (fun j => mk (f j))) (hc1 : ∀ cA, vp_cell cA x1 = arrV cA n1 (fun j => mk (f2 j))) (hc2 : ∀ cA, vp_cell cA x2 = arrV cA n1 (fun j => mk (va_cpy f f2 sp.toNatClampNeg dp.toNatClampNeg n.toNatClampNeg j)))
    (ha0 : h.1 a0 = some (.inl (k, x0))) (ha1 : h.1 a = some (.inl (k, x1))) (g1 : ¬ sp < 0) (g2 : ¬ dp < 0) (g3 : ¬ n < 0) (g4 : sp.toNatClampNeg + n.toNatClampNeg ≤ n0) (g5 : dp.toNatClampNeg + n.toNatClampNeg ≤ n1)
    (hn : iWd g l M d r h1 (pc + 3) L rest (iSet h a (.inl (k, x2)))) : iWd g l M d r h1 pc L (.int n :: .int dp :: .ref a :: .int sp :: .ref a0 :: rest) h := by
  refine hn.put ha1 (fun x h => by simp only [Sum.inl.injEq, Option.some.injEq, Prod.mk.injEq] at h; exact hk7 h.1) fun C hI hL kk => ?_
  obtain ⟨hx, hb, hml, hr, hown, hts, hlk, hnm, hK, hR1, hR2, hd1⟩ := C
  rename_i p e R s m args below meth c H locs cells slots Q ls
  have z0 : H[a0]? = some (vp_cell (g.2.1 k) x0) := by
    rcases (hI.2.2 a0 _ ha0).1 with ⟨e, -⟩ | ⟨-, e⟩
    · exact absurd e hk7
    · exact e
  have z1 : H[a]? = some (vp_cell (g.2.1 k) x1) := by
    rcases (hI.2.2 a _ ha1).1 with ⟨e, -⟩ | ⟨-, e⟩
    · exact absurd e hk7
    · exact e
  rw [hc0] at z0
  rw [hc1] at z1
  subst hi
  intro T hT X
  obtain ⟨-, k0, hk0, cm0, hkk0⟩ := (hK.1.2 t0 _ (ht _)).1 n0 (fun j => mk (f j))
  obtain ⟨-, k1, hk1, cm1, hkk1⟩ := (hK.1.2 t0 _ (ht _)).1 n1 (fun j => mk (f2 j))
  have hs' : (rest.map fun v => v.category).sum ≤ 8 := hs
  obtain ⟨vm', X', step⟩ := X.arraycopy hx hown (hts _ (iok (iPok _ ho h0) rfl)) (hts _ (iok i_native rfl)) (hts _ (iok i_nstat rfl)) (hts _ (iok i_nini rfl)) (src := a0) (dst := a) (cs := arrV (g.2.1 k) n0 (fun j => mk (f j))) (cd := arrV (g.2.1 k) n1 (fun j => mk (f2 j))) (srcPos := sp) (destPos := dp) (n := n) (by rw [hT]; exact z0) (by rw [hT]; exact z1)
    (fun _ h => by cases h) (fun _ h => by cases h) (fun h => by cases h) (fun h => by cases h) hk0 hk1 hkk0 hkk1 (by simp [hprim]) g1 g2 g3
    (by rw [i_nat g1 rfl, i_nat g3 rfl, arrV_size]; omega)
    (by rw [i_nat g2 rfl, i_nat g3 rfl, arrV_size]; omega)
    (fun vm₁ _ i hi => by
      have e : (arrV (g.2.1 k) n0 (fun j => mk (f j))).slots.getD (sp.toNatClampNeg + i) .null = mk (f (sp.toNatClampNeg + i)) := by
        rw [Array.getD_eq_getD_getElem?, arrV_read _ _ (by omega)]
        rfl
      refine ⟨?_, ?_⟩
      · rw [e]
        exact (hmk _).1
      · rw [e]
        rcases (hmk (f (sp.toNatClampNeg + i))).2 with ⟨x, hm⟩ | ⟨x, hm⟩
        · rw [hm]; exact trivial
        · rw [hm]; exact trivial)
    (g := F0 m pc ls (.int n :: .int dp :: .ref a :: .int sp :: .ref a0 :: rest)) rfl (by rw [hml]; exact hL.1.trans hlen) (rest := rest) rfl (by rw [hb]; exact hd) (by omega) (by
      have : nativeFrameWords "java/lang/System" "arraycopy" 5 ≤ 30 := by decide +kernel
      show 2 * 0 + _ + _ ≤ _
      omega)
  rw [i_copied mk (g.2.1 k) g4] at X' step
  have hl : a < H.size := (Array.getElem?_eq_some_iff.mp z1).1
  have hheap : ((T.setVm vm').setCell a (arrV (g.2.1 k) n1 (fun j => mk (va_cpy f f2 sp.toNatClampNeg dp.toNatClampNeg n.toNatClampNeg j)))).heap = H.setIfInBounds a (arrV (g.2.1 k) n1 (fun j => mk (va_cpy f f2 sp.toNatClampNeg dp.toNatClampNeg n.toNatClampNeg j))) := by rw [← hT]; rfl
  obtain ⟨t, a1, b1⟩ := kk _ _ (Or.inr ⟨hk7, by rw [hc2]; simp [Array.getElem?_setIfInBounds, hl]⟩) (by simp) (fun q hq => by simp [Array.getElem?_setIfInBounds, Ne.symm hq]) (fun q hq => by
      obtain ⟨z, -, hz⟩ := List.mem_map.mp hq
      rw [← hz]) _ hheap X'
  exact ⟨t, step t a1, b1⟩
theorem st_cpy {idx a0 a : Nat} {sp dp n : Int32} {rest : List Value} (ho : M.2.2.2.2.1 < 11) (hlen : L.length = M.2.2.1) (hs : iSum rest ≤ 8) (h0 : idx ≠ 0) (hi : idx = iP M.2.2.2.2.1) (hd : decode M.2.1 pc = .ok (.invokestatic idx, 3)) (hg : iCpy h a0 sp a dp n = some h')
    (hn : iWd g l M d r h1 (pc + 3) L rest h') : iWd g l M d r h1 pc L (.int n :: .int dp :: .ref a :: .int sp :: .ref a0 :: rest) h := by
  unfold iCpy at hg
  split at hg
  · rename_i k0 n0 f k1 n1 f2 e0 e1
    split at hg
    · rename_i hc
      obtain ⟨rfl, rfl, g1, g2, g3, g4, g5⟩ := hc
      cases hg
      exact st_cpyG (fun z => .int z) .int 0 ho hlen hs h0 hi hd (fun _ => rfl) (by decide) rfl (fun z => ⟨rfl, Or.inl ⟨z, rfl⟩⟩) (fun _ => rfl) (fun _ => rfl) (fun _ => rfl) e0 e1 g1 g2 g3 g4 g5 hn
    · cases hg
  · rename_i k0 n0 f k1 n1 f2 e0 e1
    split at hg
    · rename_i hc
      obtain ⟨rfl, rfl, g1, g2, g3, g4, g5⟩ := hc
      cases hg
      exact st_cpyG (fun z => .long z) .long 1 ho hlen hs h0 hi hd (fun _ => rfl) (by decide) rfl (fun z => ⟨rfl, Or.inr ⟨z, rfl⟩⟩) (fun _ => rfl) (fun _ => rfl) (fun _ => rfl) e0 e1 g1 g2 g3 g4 g5 hn
    · cases hg
  · cases hg
end NEWS

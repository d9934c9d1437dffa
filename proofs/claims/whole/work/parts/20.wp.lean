/-! RUNS OF THE PURE MACHINE, told by what holds behind them: iWp (from a place in a method), iEv (a whole call) -/
def iOb {α : Type} (o : Option α) (P : α → Prop) : Prop := ∃ v, o = some v ∧ P v
theorem iOb_some {α : Type} {v : α} {P : α → Prop} : iOb (some v) P = P v := propext ⟨fun ⟨_, e, h⟩ => by cases e; exact h, fun h => ⟨_, rfl, h⟩⟩
theorem iOb_none {α : Type} {P : α → Prop} : iOb none P = False := propext ⟨(fun h => by obtain ⟨v, e, -⟩ := h; cases e), False.elim⟩
def iB (b : Bool) : Int32 := match b with
  | true => 1
  | false => 0
theorem iB_t : iB true = 1 := rfl
theorem iB_f : iB false = 0 := rfl
theorem iB_0 (b : Bool) : (iB b = 0) = (b = false) := by cases b <;> simp [iB]
theorem iClr_i (x : Int32) : iClr (.int x) = .int x := rfl
theorem iClr_r (x : Nat) : iClr (.ref x) = .ref x := rfl
theorem iClr_n : iClr .null = .null := rfl
theorem iClr_u : iClr iU = iU := rfl
theorem iClr_l (x : Int64) : iClr (.long x) = iU := rfl
theorem cat_i (x : Int32) : (Value.int x).category = 1 := rfl
theorem cat_r (x : Nat) : (Value.ref x).category = 1 := rfl
theorem cat_l (x : Int64) : (Value.long x).category = 2 := rfl
theorem cat_n : Value.null.category = 1 := rfl
theorem rf_s (x : Nat) : va_rf (some x) = .ref x := rfl
theorem rf_n : va_rf none = .null := rfl
def iWp (d : Nat) (M : iM) (pc : Nat) (L st : List Value) (h : iHp) (Q : Option Value → iHp → Prop) : Prop := ∃ (N : Nat) (r : Option Value) (h1 : iHp), (∀ n, N ≤ n → iExec n d M pc L st h = some (r, h1)) ∧ Q r h1
def iEv (M : iM) (args : List Value) (h : iHp) (r : Option Value) (h1 : iHp) : Prop := ∃ N, ∀ n, N ≤ n → iExec n (iRank M args) M 0 (iInit M.2.2.1 args) [] h = some (r, h1)
section WP
variable {d pc pc' len idx n b : Nat} {M M' : iM} {i : Instr} {L L' st st' rest args : List Value} {h h' h2 : iHp} {r : Option Value} {Q : Option Value → iHp → Prop}
theorem iExec_s (hd : decode M.2.1 pc = .ok (i, len)) (hl : iLenOk i len = true) (n : Nat) : iExec (n + 1) d M pc L st h = iStp (iExec n d M) (fun M' args h => iExec n (iRank M' args) M' 0 (iInit M'.2.2.1 args) [] h) M d pc L st h i := by
  show (match decode M.2.1 pc with
    | .ok (i, len) => if iLenOk i len = true then _ else none
    | _ => none) = _
  rw [hd]
  exact if_pos hl
theorem iWp_k (hd : decode M.2.1 pc = .ok (i, len)) (hl : iLenOk i len = true) (hs : ∀ K CAL, iStp K CAL M d pc L st h i = K pc' L' st' h') : iWp d M pc L st h Q = iWp d M pc' L' st' h' Q := by
  apply propext
  constructor
  · rintro ⟨N, r, h1, e, q⟩
    refine ⟨N, r, h1, fun n hn => ?_, q⟩
    have := e (n + 1) (by omega)
    rwa [iExec_s hd hl, hs] at this
  · rintro ⟨N, r, h1, e, q⟩
    refine ⟨N + 1, r, h1, fun n hn => ?_, q⟩
    obtain ⟨m, rfl⟩ : ∃ m, n = m + 1 := ⟨n - 1, by omega⟩
    rw [iExec_s hd hl, hs]
    exact e m (by omega)
theorem iWp_r {v : Option Value} (hd : decode M.2.1 pc = .ok (i, len)) (hl : iLenOk i len = true) (hs : ∀ K CAL, iStp K CAL M d pc L st h i = some (v, h)) : iWp d M pc L st h Q = Q v h := by
  apply propext
  constructor
  · rintro ⟨N, r, h1, e, q⟩
    have := e (N + 1) (by omega)
    rw [iExec_s hd hl, hs] at this
    cases this
    exact q
  · intro q
    refine ⟨1, v, h, fun n hn => ?_, q⟩
    obtain ⟨m, rfl⟩ : ∃ m, n = m + 1 := ⟨n - 1, by omega⟩
    rw [iExec_s hd hl, hs]
theorem iWp_if {c : Prop} [hc : Decidable c] {t1 t2 : Nat} (hd : decode M.2.1 pc = .ok (i, len)) (hl : iLenOk i len = true) (hs : ∀ K CAL, iStp K CAL M d pc L st h i = if decide c = true then K t1 L st' h else K t2 L st' h) : iWp d M pc L st h Q = if c then iWp d M t1 L st' h Q else iWp d M t2 L st' h Q := by
  by_cases z : c
  · rw [if_pos z]
    exact iWp_k hd hl fun K CAL => by rw [hs, if_pos (decide_eq_true z)]
  · rw [if_neg z]
    exact iWp_k hd hl fun K CAL => by rw [hs, if_neg (by rw [decide_eq_false z]; exact Bool.false_ne_true)]
theorem iWp_ifn {c : Prop} [hc : Decidable c] {t1 t2 : Nat} (hd : decode M.2.1 pc = .ok (i, len)) (hl : iLenOk i len = true) (hs : ∀ K CAL, iStp K CAL M d pc L st h i = if (!decide c) = true then K t2 L st' h else K t1 L st' h) : iWp d M pc L st h Q = if c then iWp d M t1 L st' h Q else iWp d M t2 L st' h Q := by
  by_cases z : c
  · rw [if_pos z]
    exact iWp_k hd hl fun K CAL => by rw [hs, if_neg (by rw [decide_eq_true z]; exact Bool.false_ne_true)]
  · rw [if_neg z]
    exact iWp_k hd hl fun K CAL => by rw [hs, if_pos (by rw [decide_eq_false z]; rfl)]
theorem iWp_o {α : Type} {o : Option α} {F : α → List Value} {G : α → iHp} (hd : decode M.2.1 pc = .ok (i, len)) (hl : iLenOk i len = true) (hs : ∀ K CAL, iStp K CAL M d pc L st h i = match o with
    | some v => K pc' L' (F v) (G v)
    | none => none) : iWp d M pc L st h Q = iOb o (fun v => iWp d M pc' L' (F v) (G v) Q) := by
  cases o with
  | some v =>
    rw [iOb_some]
    exact iWp_k hd hl hs
  | none =>
    rw [iOb_none]
    apply propext
    constructor
    · rintro ⟨N, r, h1, e, q⟩
      have := e (N + 1) (by omega)
      rw [iExec_s hd hl, hs] at this
      cases this
    · exact False.elim
theorem iWp_call (hd : decode M.2.1 pc = .ok (i, len)) (hl : iLenOk i len = true) (he : iEv M' args h r h2) (hs : ∀ (K : Nat → List Value → List Value → iHp → iRes) (CAL : iM → List Value → iHp → iRes), CAL M' args h = some (r, h2) → iStp K CAL M d pc L st h i = K (pc + 3) L (r.toList ++ rest) h2) : iWp d M pc L st h Q = iWp d M (pc + 3) L (r.toList ++ rest) h2 Q := by
  obtain ⟨N0, he⟩ := he
  apply propext
  constructor
  · rintro ⟨N, r1, h1, e, q⟩
    refine ⟨max N N0, r1, h1, fun n hn => ?_, q⟩
    have := e (n + 1) (by omega)
    rwa [iExec_s hd hl, hs _ _ (he n (by omega))] at this
  · rintro ⟨N, r1, h1, e, q⟩
    refine ⟨max N N0 + 1, r1, h1, fun n hn => ?_, q⟩
    obtain ⟨m, rfl⟩ : ∃ m, n = m + 1 := ⟨n - 1, by omega⟩
    rw [iExec_s hd hl, hs _ _ (he m (by omega))]
    exact e m (by omega)
theorem iCall_eq {K : Nat → List Value → List Value → iHp → iRes} {CAL : iM → List Value → iHp → iRes} {kd : Nat} (hr : iRank M' args < d) (hs : iSum rest ≤ 8) (hlen : (iInit M'.2.2.1 args).length = M'.2.2.1) (hc : CAL M' args h = some (r, h2)) : iCall K CAL d pc L h (M', kd, n) args rest = K (pc + 3) L (r.toList ++ rest) h2 := by
  unfold iCall
  rw [if_pos ⟨hr, hs, hlen⟩]
  dsimp only
  rw [hc]
theorem iWp_cV (hd : decode M.2.1 pc = .ok (.invokevirtual idx, 3)) (hf : iFind (iK M.2.2.2.2.1) idx = some (M', 0, n)) (hdr : st.drop n = .ref b :: rest) (ha : args = .ref b :: (st.take n).reverse) (ho : iObj h b M'.2.2.2.2.1 = true) (hnl : n ≤ st.length) (hr : iRank M' args < d) (hlen : (iInit M'.2.2.1 args).length = M'.2.2.1) (hs : iSum rest ≤ 8) (he : iEv M' args h r h2) (hres : r.toList ++ rest = st') : iWp d M pc L st h Q = iWp d M (pc + 3) L st' h2 Q := by
  subst hres
  refine iWp_call hd rfl he fun K CAL hc => ?_
  simp only [iStp, iInvV, hf, hdr]
  rw [if_pos ⟨hnl, ho⟩, ← ha]
  exact iCall_eq hr hs hlen hc
theorem iWp_cS (hd : decode M.2.1 pc = .ok (.invokestatic idx, 3)) (hf : iFind (iK M.2.2.2.2.1) idx = some (M', 1, n)) (hdr : st.drop n = rest) (ha : args = (st.take n).reverse) (hnl : n ≤ st.length) (hr : iRank M' args < d) (hlen : (iInit M'.2.2.1 args).length = M'.2.2.1) (hs : iSum rest ≤ 8) (he : iEv M' args h r h2) (hres : r.toList ++ rest = st') : iWp d M pc L st h Q = iWp d M (pc + 3) L st' h2 Q := by
  subst hres
  refine iWp_call hd rfl he fun K CAL hc => ?_
  simp only [iStp, iInvS, hf, hdr]
  rw [if_pos hnl, ← ha]
  exact iCall_eq hr hs hlen hc
theorem iWp_cSN (hd : decode M.2.1 pc = .ok (.invokestatic idx, 3)) (hf : iFind (iK M.2.2.2.2.1) idx = some (M', 4, n)) (hdr : st.drop n = rest) (ha : args = (st.take n).reverse) (hnl : n ≤ st.length) (hr : iRank M' args < d) (hlen : (iInit M'.2.2.1 args).length = M'.2.2.1) (hs : iSum rest ≤ 8) (he : iEv M' args h r h2) (hres : r.toList ++ rest = st') : iWp d M pc L st h Q = iWp d M (pc + 3) L st' h2 Q := by
  subst hres
  refine iWp_call hd rfl he fun K CAL hc => ?_
  simp only [iStp, iInvS, hf, hdr]
  rw [if_pos hnl, ← ha]
  exact iCall_eq hr hs hlen hc
theorem iWp_cI (hd : decode M.2.1 pc = .ok (.invokespecial idx, 3)) (hf : iFind (iK M.2.2.2.2.1) idx = some (M', 2, n)) (hdr : st.drop n = .ref b :: rest) (ha : args = .ref b :: (st.take n).reverse) (hnl : n ≤ st.length) (hr : iRank M' args < d) (hlen : (iInit M'.2.2.1 args).length = M'.2.2.1) (hs : iSum rest ≤ 8) (he : iEv M' args h r h2) (hres : r.toList ++ rest = st') : iWp d M pc L st h Q = iWp d M (pc + 3) L st' h2 Q := by
  subst hres
  refine iWp_call hd rfl he fun K CAL hc => ?_
  simp only [iStp, iInvI, hf, hdr]
  rw [if_pos hnl, ← ha]
  exact iCall_eq hr hs hlen hc
theorem iWp_cIN (hd : decode M.2.1 pc = .ok (.invokespecial idx, 3)) (hf : iFind (iK M.2.2.2.2.1) idx = some (M', 3, n)) (hdr : st.drop n = .ref b :: rest) (ha : args = .ref b :: (st.take n).reverse) (hnl : n ≤ st.length) (hr : iRank M' args < d) (hlen : (iInit M'.2.2.1 args).length = M'.2.2.1) (hs : iSum rest ≤ 8) (he : iEv M' args h r h2) (hres : r.toList ++ rest = st') : iWp d M pc L st h Q = iWp d M (pc + 3) L st' h2 Q := by
  subst hres
  refine iWp_call hd rfl he fun K CAL hc => ?_
  simp only [iStp, iInvI, hf, hdr]
  rw [if_pos hnl, ← ha]
  exact iCall_eq hr hs hlen hc
theorem iEv_of (hrk : iRank M args = d) (hi : iInit M.2.2.1 args = L) (hw : iWp d M 0 L [] h Q) : ∃ r h1, iEv M args h r h1 ∧ Q r h1 := by
  subst hrk; subst hi
  obtain ⟨N, r, h1, e, q⟩ := hw
  exact ⟨r, h1, ⟨N, e⟩, q⟩
theorem iEv_ev {h1 : iHp} (hrk : iRank M args = d) (hi : iInit M.2.2.1 args = L) (hw : iWp d M 0 L [] h (fun r' h' => r' = r ∧ h' = h1)) : iEv M args h r h1 := by
  obtain ⟨r', h', e, rfl, rfl⟩ := iEv_of hrk hi hw
  exact e
theorem iWp_mono {P Q : Option Value → iHp → Prop} (hw : iWp d M pc L st h P) (hq : ∀ r h1, P r h1 → Q r h1) : iWp d M pc L st h Q := by
  obtain ⟨N, r, h1, e, q⟩ := hw
  exact ⟨N, r, h1, e, hq _ _ q⟩
theorem iCpyS {K : Nat → List Value → List Value → iHp → iRes} {CAL : iM → List Value → iHp → iRes} {n dp sp : Int32} {a a0 : Nat} (hs : iSum rest ≤ 8) (hf : iFind (iK M.2.2.2.2.1) idx = none) (h0 : decide (idx = 0) = false) (hp : decide (idx = iP M.2.2.2.2.1) = true) : iStp K CAL M d pc L (.int n :: .int dp :: .ref a :: .int sp :: .ref a0 :: rest) h (.invokestatic idx) = match iCpy h a0 sp a dp n with
    | some h' => K (pc + 3) L rest h'
    | none => none := by
  simp only [iStp, iInvS, hf, if_neg (of_decide_eq_false h0), if_pos (of_decide_eq_true hp), if_pos hs]
  cases iCpy h a0 sp a dp n <;> rfl
theorem w_cpy {n dp sp : Int32} {a a0 : Nat} (hd : decode M.2.1 pc = .ok (.invokestatic idx, 3)) (hs : iSum rest ≤ 8) (hf : iFind (iK M.2.2.2.2.1) idx = none) (h0 : decide (idx = 0) = false) (hp : decide (idx = iP M.2.2.2.2.1) = true) : iWp d M pc L (.int n :: .int dp :: .ref a :: .int sp :: .ref a0 :: rest) h Q = iOb (iCpy h a0 sp a dp n) (fun g => iWp d M (pc + 3) L rest g Q) := iWp_o (F := fun _ => rest) (G := fun g => g) hd rfl fun K CAL => by
  rw [iCpyS hs hf h0 hp]
  cases iCpy h a0 sp a dp n <;> rfl
theorem iMaxS {K : Nat → List Value → List Value → iHp → iRes} {CAL : iM → List Value → iHp → iRes} {x y : Int32} (hs : iSum rest ≤ 8) (hf : iFind (iK M.2.2.2.2.1) idx = none) (h0 : decide (idx = 0) = false) (h1 : decide (idx = iP M.2.2.2.2.1) = false) (hp : decide (idx = iX M.2.2.2.2.1) = true) : iStp K CAL M d pc L (.int y :: .int x :: rest) h (.invokestatic idx) = K (pc + 3) L (.int (if x < y then y else x) :: rest) h := by
  simp only [iStp, iInvS, hf, if_neg (of_decide_eq_false h0), if_neg (of_decide_eq_false h1), if_pos (of_decide_eq_true hp), if_pos hs]
theorem iMinS {K : Nat → List Value → List Value → iHp → iRes} {CAL : iM → List Value → iHp → iRes} {x y : Int32} (hs : iSum rest ≤ 8) (hf : iFind (iK M.2.2.2.2.1) idx = none) (h0 : decide (idx = 0) = false) (h1 : decide (idx = iP M.2.2.2.2.1) = false) (h2 : decide (idx = iX M.2.2.2.2.1) = false) (hp : decide (idx = iI M.2.2.2.2.1) = true) : iStp K CAL M d pc L (.int y :: .int x :: rest) h (.invokestatic idx) = K (pc + 3) L (.int (if y < x then y else x) :: rest) h := by
  simp only [iStp, iInvS, hf, if_neg (of_decide_eq_false h0), if_neg (of_decide_eq_false h1), if_neg (of_decide_eq_false h2), if_pos (of_decide_eq_true hp), if_pos hs]
theorem iObS {K : Nat → List Value → List Value → iHp → iRes} {CAL : iM → List Value → iHp → iRes} {a : Nat} (hs : iSum rest ≤ 8) (hf : iFind (iK M.2.2.2.2.1) idx = none) (h0 : decide (idx = 0) = false) (hp : decide (idx = iO M.2.2.2.2.1) = true) : iStp K CAL M d pc L (.ref a :: rest) h (.invokespecial idx) = K (pc + 3) L rest h := by
  simp only [iStp, iInvI, hf, if_neg (of_decide_eq_false h0), if_pos (of_decide_eq_true hp), if_pos hs]
end WP

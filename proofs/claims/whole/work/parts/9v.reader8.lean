/-! tree: the class's Reader -/
def rrC (p q : Nat) (va vd : Int32) : iPC := .inr (4, [.ref (p + 1), .ref q, .int va, .int vd])
/-- a Reader at p, its Tree right behind it -/
def rrH (b : iHp) (p q : Nat) (T : tT) (va vd : Int32) : iHp := trT (iSet b p (rrC p q va vd)) (p + 1) T
section READER8
variable {h h1 b : iHp} {o sN n k i j l x m a c p q r t u d L st : Nat} {T U V : tT} {va vd v so ky : Int32} {fz : Nat → Int64} {K B D : Nat → Int32}
theorem rr_c : (rrH b p q T va vd).1 p = some (rrC p q va vd) := (trH_off (Or.inl (Nat.lt_succ_self p))).trans (if_pos rfl)
theorem rr_g {k : Nat} : iGet (rrH b p q T va vd) p 4 k = [Value.ref (p + 1), .ref q, .int va, .int vd][k]? := iGet_of rr_c
theorem rr_o : iObj (rrH b p q T va vd) p 4 = true := iObj_of rr_c
theorem rr_g0 : iGet (rrH b p q T va vd) p 4 0 = some (.ref (p + 1)) := rr_g
theorem rr_g1 : iGet (rrH b p q T va vd) p 4 1 = some (.ref q) := rr_g
theorem rr_g2 : iGet (rrH b p q T va vd) p 4 2 = some (.int va) := rr_g
theorem rr_g3 : iGet (rrH b p q T va vd) p 4 3 = some (.int vd) := rr_g
theorem rr_set {c c' : iPC} : iSet (trT (iSet b p c) (p + 1) T) p c' = trT (iSet b p c') (p + 1) T := by
  refine Prod.ext (funext fun z => ?_) rfl
  show (if z = p then some c' else (if p + 1 ≤ z ∧ z < p + 1 + 4 then some (trC (p + 1) T.1 T.2.1 T.2.2.1 T.2.2.2 (z - (p + 1))) else (if z = p then some c else b.1 z))) = (if p + 1 ≤ z ∧ z < p + 1 + 4 then some (trC (p + 1) T.1 T.2.1 T.2.2.1 T.2.2.2 (z - (p + 1))) else (if z = p then some c' else b.1 z))
  by_cases e : z = p
  · rw [if_pos e, if_neg (by omega), if_pos e]
  · rw [if_neg e, if_neg e, if_neg e]
theorem iPut_at {h : iHp} {a ci k : Nat} {fs : List Value} {v : Value} (e : h.1 a = some (.inr (ci, fs))) (hk : k < fs.length) : iPut h a ci k v = some (iSet h a (.inr (ci, fs.set k v))) := by
  unfold iPut
  rw [e]
  dsimp only
  rw [if_pos ⟨rfl, hk⟩]
theorem rr_p2 {w : Int32} : iPut (rrH b p q T va vd) p 4 2 (.int w) = some (rrH b p q T w vd) := by
  rw [iPut_at rr_c (show 2 < 4 by decide)]
  exact congrArg some rr_set
theorem rr_p3 {w : Int32} : iPut (rrH b p q T va vd) p 4 3 (.int w) = some (rrH b p q T va w) := by
  rw [iPut_at rr_c (show 3 < 4 by decide)]
  exact congrArg some rr_set
theorem rr_t (hn : T.1 ≤ 80) : trAt (rrH b p q T va vd) (p + 1) T.1 T.2.1 T.2.2.1 T.2.2.2 := trH_tr hn
theorem rr_off {z : Nat} (hz : z < p ∨ p + 5 ≤ z) : (rrH b p q T va vd).1 z = b.1 z := (trH_off (by omega)).trans (if_neg (by omega))
theorem rr_w (hw : rwAt b q so L fz) (hq : q + 1 < p) : rwAt (rrH b p q T va vd) q so L fz := ⟨(rr_off (by omega)).trans hw.1, (rr_off (by omega)).trans hw.2.1, hw.2.2⟩
theorem ev_isDigit4 (ha : a < 2 ^ 31) (hw : rwAt b q so L fz) (hq : q + 1 < p) : iEv mX4_isDigit [.ref p, .int (nI a)] (rrH b p q T va vd) (some (.int (iB (dg (fun j => (fz j).toInt32) L a)))) (rrH b p q T va vd) := by
  have w1 := rr_w (T := T) (va := va) (vd := vd) hw hq
  have hL := hw.2.2
  refine J4_isDigit ?_
  unfold dg
  · by_cases c : a < L
    · have e := ev_rint w1 c
      by_cases c1 : (fz a).toInt32 < 48
      · rw [decide_eq_false (fun z => absurd z.2.1 (Int32.not_le.mpr c1))]
        simp only [X4_isDigit_0, X4_isDigit_1, X4_isDigit_4, X4_isDigit_5 e w1.o, X4_isDigit_8, X4_isDigit_9, X4_isDigit_10, X4_isDigit_12, X4_isDigit_15, X4_isDigit_16, X4_isDigit_18, X4_isDigit_21, X4_isDigit_22, X4_isDigit_25, X4_isDigit_26, X4_isDigit_26z, X4_isDigit_26o, iOb_some, iClr_i, iClr_r, iClr_n, iClr_u, iClr_l, rf_s, rf_n, iB_0, iSum_nil, rr_g1, if_pos c1]
        exact ⟨trivial, trivial⟩
      · by_cases c2 : (57 : Int32) < (fz a).toInt32
        · rw [decide_eq_false (fun z => absurd z.2.2 (Int32.not_le.mpr c2))]
          simp only [X4_isDigit_0, X4_isDigit_1, X4_isDigit_4, X4_isDigit_5 e w1.o, X4_isDigit_8, X4_isDigit_9, X4_isDigit_10, X4_isDigit_12, X4_isDigit_15, X4_isDigit_16, X4_isDigit_18, X4_isDigit_21, X4_isDigit_22, X4_isDigit_25, X4_isDigit_26, X4_isDigit_26z, X4_isDigit_26o, iOb_some, iClr_i, iClr_r, iClr_n, iClr_u, iClr_l, rf_s, rf_n, iB_0, iSum_nil, rr_g1, if_neg c1, if_pos c2]
          exact ⟨trivial, trivial⟩
        · rw [decide_eq_true ⟨c, Int32.not_lt.mp c1, Int32.not_lt.mp c2⟩]
          simp only [X4_isDigit_0, X4_isDigit_1, X4_isDigit_4, X4_isDigit_5 e w1.o, X4_isDigit_8, X4_isDigit_9, X4_isDigit_10, X4_isDigit_12, X4_isDigit_15, X4_isDigit_16, X4_isDigit_18, X4_isDigit_21, X4_isDigit_22, X4_isDigit_25, X4_isDigit_26, X4_isDigit_26z, X4_isDigit_26o, iOb_some, iClr_i, iClr_r, iClr_n, iClr_u, iClr_l, rf_s, rf_n, iB_0, iSum_nil, rr_g1, if_neg c1, if_neg c2]
          exact ⟨trivial, trivial⟩
    · have e := ev_rint0 w1 (i := nI a) (Or.inr (nI_le (by omega) ha))
      rw [decide_eq_false (fun z => c z.1)]
      simp only [X4_isDigit_0, X4_isDigit_1, X4_isDigit_4, X4_isDigit_5 e w1.o, X4_isDigit_8, X4_isDigit_9, X4_isDigit_10, X4_isDigit_12, X4_isDigit_15, X4_isDigit_16, X4_isDigit_18, X4_isDigit_21, X4_isDigit_22, X4_isDigit_25, X4_isDigit_26, X4_isDigit_26z, X4_isDigit_26o, iOb_some, iClr_i, iClr_r, iClr_n, iClr_u, iClr_l, rf_s, rf_n, iB_0, iSum_nil, rr_g1, if_pos (show (0 : Int32) < 48 by decide)]
      exact ⟨trivial, trivial⟩
theorem tI1_end {v : Int32} : tI1 K n n v = upd K n v := by
  unfold tI1
  rw [Nat.sub_self]
  have : va_cpy K K n (n + 1) 0 = K := by
    funext z
    unfold va_cpy
    rw [if_neg (by omega)]
  rw [this]
def rnQ (b : iHp) (p q L : Nat) (f : Nat → Int32) (a d : Nat) (T : tT) (r : Option Value) (h1 : iHp) : Prop := (∃ x w, rdN f L a d T = .inl x ∧ r = some (.int (nI x)) ∧ h1 = rrH b p q T w (nI d)) ∨ ∃ y, rdN f L a d T = .inr y ∧ r = some (.int (-1)) ∧ h1 = rrH b p q y.2 (nI y.1) (nI d)
theorem rn_key {f : Nat → Int32} {a' : Nat} {lb : Int32} (hn : T.1 < 40) (hr : rdN f L a d T = rdK f a d T ky a') (hlb : lb = f a) : iWp 5 mX4_readNode 113 [.ref p, .int lb, .int (nI (a + 1)), .int ky] [] (rrH b p q T (nI a') (nI d)) (rnQ b p q L f a d T) := by
  have hT := rr_t (b := b) (p := p) (q := q) (va := nI a') (vd := nI d) (show T.1 ≤ 80 by omega)
  have ef := ev_whereOf hT ky
  unfold rdK at hr
  by_cases c1 : ky < 1
  · rw [if_neg (fun z => absurd z.1 (Int32.not_le.mpr c1))] at hr
    simp only [X4_readNode_113, X4_readNode_114, X4_readNode_115, X4_readNode_118, X4_readNode_119, X4_readNode_121, X4_readNode_124, X4_readNode_125, X4_readNode_128, X4_readNode_132, X4_readNode_133, X4_readNode_136, X4_readNode_137, iOb_some, iClr_i, iClr_r, iClr_n, iClr_u, iClr_l, rf_s, rf_n, iB_0, iSum_nil, if_pos c1]
    exact Or.inl ⟨_, _, hr, rfl, rfl⟩
  · by_cases c2 : (60 : Int32) < ky
    · rw [if_neg (fun z => absurd z.2.1 (Int32.not_le.mpr c2))] at hr
      simp only [X4_readNode_113, X4_readNode_114, X4_readNode_115, X4_readNode_118, X4_readNode_119, X4_readNode_121, X4_readNode_124, X4_readNode_125, X4_readNode_128, X4_readNode_132, X4_readNode_133, X4_readNode_136, X4_readNode_137, iOb_some, iClr_i, iClr_r, iClr_n, iClr_u, iClr_l, rf_s, rf_n, iB_0, iSum_nil, if_neg c1, if_pos c2]
      exact Or.inl ⟨_, _, hr, rfl, rfl⟩
    · cases hwh : tWhere T.2.1 T.1 ky with
      | some j =>
        have hj := (tWhere_lt hwh).1
        rw [hwh] at ef
        rw [if_neg (fun z => by rw [hwh] at z; exact absurd z.2.2 (by simp))] at hr
        simp only [X4_readNode_113, X4_readNode_114, X4_readNode_115, X4_readNode_118, X4_readNode_119, X4_readNode_121, X4_readNode_124, X4_readNode_125, X4_readNode_128, X4_readNode_129 ef hT.o, X4_readNode_132, X4_readNode_133, X4_readNode_136, X4_readNode_137, iOb_some, iClr_i, iClr_r, iClr_n, iClr_u, iClr_l, rf_s, rf_n, iB_0, iSum_nil, if_neg c1, if_neg c2, rr_g0, oI_s, if_neg (oI_ne (show j < 2 ^ 31 by omega))]
        exact Or.inl ⟨_, _, hr, rfl, rfl⟩
      | none =>
        rw [hwh] at ef
        rw [if_pos ⟨Int32.not_lt.mp c1, Int32.not_lt.mp c2, hwh⟩] at hr
        have ei := ev_insert (b := iSet b p (rrC p q (nI a') (nI d))) (t := p + 1) (n := T.1) (K := T.2.1) (B := T.2.2.1) (D := T.2.2.2) (i := T.1) (by omega) (Nat.le_refl _) ky lb (nI d)
        have ei : iEv mX7_insert [.ref (p + 1), .int (nI T.1), .int ky, .int lb, .int (nI d)] (rrH b p q T (nI a') (nI d)) none (rrH b p q (T.1 + 1, upd T.2.1 T.1 ky, upd T.2.2.1 T.1 (f a), upd T.2.2.2 T.1 (nI d)) (nI a') (nI d)) := by
          rw [tI1_end, tI1_end, tI1_end] at ei
          rw [← hlb]
          exact ei
        simp only [X4_readNode_113, X4_readNode_114, X4_readNode_115, X4_readNode_118, X4_readNode_119, X4_readNode_121, X4_readNode_124, X4_readNode_125, X4_readNode_128, X4_readNode_129 ef hT.o, X4_readNode_132, X4_readNode_133, X4_readNode_136, X4_readNode_137, X4_readNode_138, X4_readNode_139, X4_readNode_142, X4_readNode_143, X4_readNode_146, X4_readNode_149, X4_readNode_150, X4_readNode_151, X4_readNode_152, X4_readNode_155 ei hT.o, X4_readNode_158, X4_readNode_159, iOb_some, iClr_i, iClr_r, iClr_n, iClr_u, iClr_l, rf_s, rf_n, iB_0, iSum_nil, if_neg c1, if_neg c2, rr_g0, oI_n, if_true, hT.s, rr_g3]
        exact Or.inr ⟨_, hr, rfl, rfl⟩
theorem ev_readNode (hw : rwAt b q so L fz) (hq : q + 1 < p) (ha : a < L) (hT4 : T.1 ≤ 40) : ∃ r h1, iEv mX4_readNode [.ref p] (rrH b p q T (nI a) (nI d)) r h1 ∧ rnQ b p q L (fun j => (fz j).toInt32) a d T r h1 := by
  have hL := hw.2.2
  have w1 : ∀ va, rwAt (rrH b p q T va (nI d)) q so L fz := fun va => rr_w hw hq
  have hT := fun va => rr_t (b := b) (p := p) (q := q) (va := va) (vd := nI d) (show T.1 ≤ 80 by omega)
  have es := ev_rint (w1 (nI a)) ha
  refine I4_readNode ?_
  by_cases cL : 97 ≤ (fz a).toInt32 ∧ (fz a).toInt32 ≤ 122
  · have el := c8_isLabel (h := rrH b p q T (nI a) (nI d)) (fz a).toInt32
    rw [decide_eq_true cL, show iB true = 1 from rfl] at el
    by_cases cn : T.1 < 40
    · have d1 := ev_isDigit4 (p := p) (T := T) (va := nI a) (vd := nI d) (a := a + 1) (by omega) hw hq
      cases b1 : dg (fun j => (fz j).toInt32) L (a + 1) with
      | false =>
        have hr : rdN (fun j => (fz j).toInt32) L a d T = .inl (a + 1) := by
          unfold rdN
          rw [if_pos ⟨ha, cL.1, cL.2, cn⟩, if_neg (by rw [b1]; decide)]
        rw [b1, show iB false = 0 from rfl] at d1
        simp only [X4_readNode_0, X4_readNode_1, X4_readNode_4, X4_readNode_5, X4_readNode_8 es (w1 _).o, X4_readNode_11, X4_readNode_12, X4_readNode_13 el, X4_readNode_16, X4_readNode_19, X4_readNode_20, X4_readNode_23, X4_readNode_26, X4_readNode_28, X4_readNode_31, X4_readNode_32, X4_readNode_35, X4_readNode_36, X4_readNode_37, X4_readNode_40, X4_readNode_41, X4_readNode_42, X4_readNode_43, X4_readNode_44, X4_readNode_45 d1 rr_o, X4_readNode_48, X4_readNode_51, X4_readNode_52, iOb_some, iClr_i, iClr_r, iClr_n, iClr_u, iClr_l, rf_s, rf_n, iB_0, iSum_nil, rr_g1, rr_g2, rr_g0, if_neg (show ¬ (1 : Int32) = 0 by decide), (hT _).s, if_pos (show nI T.1 < 40 from nI_lt (b := 40) cn (by decide)), nI_1, if_true]
        exact Or.inl ⟨_, _, hr, rfl, rfl⟩
      | true =>
        rw [b1, show iB true = 1 from rfl] at d1
        obtain ⟨l1, -, -⟩ := of_decide_eq_true b1
        have e1 := ev_rint (w1 (nI a)) l1
        have d2 := ev_isDigit4 (p := p) (T := T) (va := nI (a + 1 + 1)) (vd := nI d) (a := a + 1 + 1) (by omega) hw hq
        simp only [X4_readNode_0, X4_readNode_1, X4_readNode_4, X4_readNode_5, X4_readNode_8 es (w1 _).o, X4_readNode_11, X4_readNode_12, X4_readNode_13 el, X4_readNode_16, X4_readNode_19, X4_readNode_20, X4_readNode_23, X4_readNode_26, X4_readNode_28, X4_readNode_31, X4_readNode_32, X4_readNode_35, X4_readNode_36, X4_readNode_37, X4_readNode_40, X4_readNode_41, X4_readNode_42, X4_readNode_43, X4_readNode_44, X4_readNode_45 d1 rr_o, X4_readNode_48, X4_readNode_51, X4_readNode_52, X4_readNode_53, X4_readNode_54, X4_readNode_57, X4_readNode_58 e1 (w1 _).o, X4_readNode_61, X4_readNode_63, X4_readNode_64, X4_readNode_65, X4_readNode_66, X4_readNode_67, X4_readNode_68, X4_readNode_69, iOb_some, iClr_i, iClr_r, iClr_n, iClr_u, iClr_l, rf_s, rf_n, iB_0, iSum_nil, rr_g1, rr_g2, rr_g0, if_neg (show ¬ (1 : Int32) = 0 by decide), (hT _).s, if_pos (show nI T.1 < 40 from nI_lt (b := 40) cn (by decide)), nI_1, rr_p2]
        cases b2 : dg (fun j => (fz j).toInt32) L (a + 1 + 1) with
        | false =>
          rw [b2, show iB false = 0 from rfl] at d2
          have hr : rdN (fun j => (fz j).toInt32) L a d T = rdK (fun j => (fz j).toInt32) a d T ((fz (a + 1)).toInt32 - 48) (a + 1 + 1) := by
            unfold rdN
            rw [if_pos ⟨ha, cL.1, cL.2, cn⟩, if_pos b1, if_neg (show ¬ dg (fun j => (fz j).toInt32) L (a + 2) = true from by rw [show a + 2 = a + 1 + 1 from rfl, b2]; decide)]
          simp only [X4_readNode_72, X4_readNode_73, X4_readNode_74, X4_readNode_77 d2 rr_o, X4_readNode_80, iOb_some, iClr_i, iClr_r, iClr_n, iClr_u, iClr_l, rf_s, rf_n, iB_0, iSum_nil, rr_g2, if_true]
          exact rn_key cn hr rfl
        | true =>
          rw [b2, show iB true = 1 from rfl] at d2
          obtain ⟨l2, -, -⟩ := of_decide_eq_true b2
          have e2 := ev_rint (w1 (nI (a + 1 + 1))) l2
          have hr : rdN (fun j => (fz j).toInt32) L a d T = rdK (fun j => (fz j).toInt32) a d T (10 * ((fz (a + 1)).toInt32 - 48) + (fz (a + 1 + 1)).toInt32 - 48) (a + 1 + 1 + 1) := by
            unfold rdN
            rw [if_pos ⟨ha, cL.1, cL.2, cn⟩, if_pos b1, if_pos (show dg (fun j => (fz j).toInt32) L (a + 2) = true from b2)]
          simp only [X4_readNode_72, X4_readNode_73, X4_readNode_74, X4_readNode_77 d2 rr_o, X4_readNode_80, X4_readNode_83, X4_readNode_85, X4_readNode_86, X4_readNode_87, X4_readNode_88, X4_readNode_91, X4_readNode_92, X4_readNode_95 e2 (w1 _).o, X4_readNode_98, X4_readNode_99, X4_readNode_101, X4_readNode_102, X4_readNode_103, X4_readNode_104, X4_readNode_105, X4_readNode_108, X4_readNode_109, X4_readNode_110, iOb_some, iClr_i, iClr_r, iClr_n, iClr_u, iClr_l, rf_s, rf_n, iB_0, iSum_nil, rr_g1, rr_g2, if_neg (show ¬ (1 : Int32) = 0 by decide), nI_1, rr_p2]
          exact rn_key cn hr rfl
    · have hr : rdN (fun j => (fz j).toInt32) L a d T = .inl a := if_neg (fun z => cn z.2.2.2)
      simp only [X4_readNode_0, X4_readNode_1, X4_readNode_4, X4_readNode_5, X4_readNode_8 es (w1 _).o, X4_readNode_11, X4_readNode_12, X4_readNode_13 el, X4_readNode_16, X4_readNode_19, X4_readNode_20, X4_readNode_23, X4_readNode_26, X4_readNode_28, X4_readNode_31, X4_readNode_32, X4_readNode_35, iOb_some, iClr_i, iClr_r, iClr_n, iClr_u, iClr_l, rf_s, rf_n, iB_0, iSum_nil, rr_g1, rr_g2, rr_g0, if_neg (show ¬ (1 : Int32) = 0 by decide), (hT _).s, if_neg (show ¬ nI T.1 < 40 from Int32.not_lt.mpr (nI_le (a := 40) (by omega) (by omega)))]
      exact Or.inl ⟨_, _, hr, rfl, rfl⟩
  · have hr : rdN (fun j => (fz j).toInt32) L a d T = .inl a := if_neg (fun z => cL ⟨z.2.1, z.2.2.1⟩)
    have el := c8_isLabel (h := rrH b p q T (nI a) (nI d)) (fz a).toInt32
    rw [decide_eq_false cL, show iB false = 0 from rfl] at el
    simp only [X4_readNode_0, X4_readNode_1, X4_readNode_4, X4_readNode_5, X4_readNode_8 es (w1 _).o, X4_readNode_11, X4_readNode_12, X4_readNode_13 el, X4_readNode_16, X4_readNode_19, X4_readNode_20, X4_readNode_23, X4_readNode_26, X4_readNode_28, X4_readNode_31, X4_readNode_32, X4_readNode_35, iOb_some, iClr_i, iClr_r, iClr_n, iClr_u, iClr_l, rf_s, rf_n, iB_0, iSum_nil, rr_g1, rr_g2, if_true]
    exact Or.inl ⟨_, _, hr, rfl, rfl⟩
end READER8

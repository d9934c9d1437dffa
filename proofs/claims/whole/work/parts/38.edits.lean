/-! the class's Edit -/
section EDIT
variable {h : iHp} {p q n : Nat} {e f : Nat → Int32}
theorem iNew_at {c : iPC} {m : Nat} : (iNew h c m).1 h.2.1 = some c := if_pos rfl
theorem iNew_off {c : iPC} {m q : Nat} (hq : q ≠ h.2.1) : (iNew h c m).1 q = h.1 q := if_neg hq
theorem iNew_set {c c' : iPC} {m : Nat} : iSet (iNew h c m) h.2.1 c' = iNew h c' m := by
  refine Prod.ext (funext fun q => ?_) rfl
  show (if q = h.2.1 then some c' else (if q = h.2.1 then some c else h.1 q)) = (if q = h.2.1 then some c' else h.1 q)
  by_cases e : q = h.2.1
  · rw [if_pos e, if_pos e]
  · rw [if_neg e, if_neg e, if_neg e]
theorem iNew_put {ci k m : Nat} {fs : List Value} {v : Value} (hk : k < fs.length) : iPut (iNew h (.inr (ci, fs)) m) h.2.1 ci k v = some (iNew h (.inr (ci, fs.set k v)) m) := by
  unfold iPut
  rw [iNew_at]
  dsimp only
  rw [if_pos ⟨rfl, hk⟩, iNew_set]
def eL (e : Nat → Int32) : List Value := [.int (e 0), .int (e 1), .int (e 2), .int (e 3), .int (e 4), .int (e 5), .int (e 6)]
def e7 (a b c d x y z : Int32) : Nat → Int32 := fun k => match k with
  | 0 => a
  | 1 => b
  | 2 => c
  | 3 => d
  | 4 => x
  | 5 => y
  | _ => z
/-- an Edit is made -/
def eNew (h : iHp) (e : Nat → Int32) : iHp := iNew h (.inr (2, eL e)) 7
theorem eNewO : iNewO h 2 = iNew h (.inr (2, [.int 0, .int 0, .int 0, .int 0, .int 0, .int 0, .int 0])) 7 := rfl
def edAt (h : iHp) (p : Nat) (e : Nat → Int32) : Prop := h.1 p = some (.inr (2, eL e))
theorem edAt.o (hE : edAt h p e) : iObj h p 2 = true := iObj_of hE
theorem edAt.g (hE : edAt h p e) {k : Nat} : iGet h p 2 k = (eL e)[k]? := iGet_of hE
theorem edAt.g0 (hE : edAt h p e) : iGet h p 2 0 = some (.int (e 0)) := iGet_of hE
theorem edAt.g1 (hE : edAt h p e) : iGet h p 2 1 = some (.int (e 1)) := iGet_of hE
theorem edAt.g2 (hE : edAt h p e) : iGet h p 2 2 = some (.int (e 2)) := iGet_of hE
theorem edAt.g3 (hE : edAt h p e) : iGet h p 2 3 = some (.int (e 3)) := iGet_of hE
theorem edAt.g4 (hE : edAt h p e) : iGet h p 2 4 = some (.int (e 4)) := iGet_of hE
theorem edAt.g5 (hE : edAt h p e) : iGet h p 2 5 = some (.int (e 5)) := iGet_of hE
theorem edAt.g6 (hE : edAt h p e) : iGet h p 2 6 = some (.int (e 6)) := iGet_of hE
theorem eNew_at : edAt (eNew h e) h.2.1 e := iNew_at
theorem put7 {a0 a1 a2 a3 a4 a5 a6 : Value} {k : Nat} {v : Value} (hk : k < 7) : iPut (iNew h (.inr (2, [a0, a1, a2, a3, a4, a5, a6])) 7) h.2.1 2 k v = some (iNew h (.inr (2, [a0, a1, a2, a3, a4, a5, a6].set k v)) 7) := iNew_put hk
theorem ev_einit (a b c d x y z : Int32) : iEv mX2_init [.ref h.2.1, .int a, .int b, .int c, .int d, .int x, .int y, .int z] (iNewO h 2) none (eNew h (e7 a b c d x y z)) := by
  refine J2_init ?_
  rw [eNewO]
  simp only [X2_init_0, X2_init_1, X2_init_4, X2_init_5, X2_init_6, X2_init_9, X2_init_10, X2_init_11, X2_init_14, X2_init_15, X2_init_16, X2_init_19, X2_init_20, X2_init_22, X2_init_25, X2_init_26, X2_init_28, X2_init_31, X2_init_32, X2_init_34, X2_init_37, X2_init_38, X2_init_40, X2_init_43, iOb_some, iClr_i, iClr_r, iClr_n, iClr_u, iClr_l, rf_s, rf_n, iB_0, iSum_nil, put7 (show 0 < 7 by decide), put7 (show 1 < 7 by decide), put7 (show 2 < 7 by decide), put7 (show 3 < 7 by decide), put7 (show 4 < 7 by decide), put7 (show 5 < 7 by decide), put7 (show 6 < 7 by decide), List.set_cons_zero, List.set_cons_succ]
  exact ⟨trivial, rfl⟩
theorem ev_name (k a c : Int32) : iEv mX2_name [.int k, .int a, .int c] h (some (.ref h.2.1)) (eNew h (e7 0 k a c 0 0 0)) := by
  refine J2_name ?_
  simp only [X2_name_0, X2_name_3, X2_name_4, X2_name_5, X2_name_6, X2_name_7, X2_name_8, X2_name_9, X2_name_10, X2_name_11 (ev_einit 0 k a c 0 0 0), X2_name_14, X2_name_14n, iOb_some, iClr_i, iClr_r, iClr_n, iClr_u, iClr_l, rf_s, rf_n, iB_0, iSum_nil, and_self]
theorem ev_take (k a c d : Int32) : iEv mX2_take [.int k, .int a, .int c, .int d] h (some (.ref h.2.1)) (eNew h (e7 1 k a c d 0 0)) := by
  refine J2_take ?_
  simp only [X2_take_0, X2_take_3, X2_take_4, X2_take_5, X2_take_6, X2_take_7, X2_take_8, X2_take_9, X2_take_10, X2_take_11 (ev_einit 1 k a c d 0 0), X2_take_14, X2_take_14n, iOb_some, iClr_i, iClr_r, iClr_n, iClr_u, iClr_l, rf_s, rf_n, iB_0, iSum_nil, and_self]
theorem ev_give (k a c d : Int32) : iEv mX2_give [.int k, .int a, .int c, .int d] h (some (.ref h.2.1)) (eNew h (e7 2 k a c d 0 0)) := by
  refine J2_give ?_
  simp only [X2_give_0, X2_give_3, X2_give_4, X2_give_5, X2_give_6, X2_give_7, X2_give_8, X2_give_9, X2_give_10, X2_give_11 (ev_einit 2 k a c d 0 0), X2_give_14, X2_give_14n, iOb_some, iClr_i, iClr_r, iClr_n, iClr_u, iClr_l, rf_s, rf_n, iB_0, iSum_nil, and_self]
theorem ev_move (k a c d x : Int32) : iEv mX2_move [.int k, .int a, .int c, .int d, .int x] h (some (.ref h.2.1)) (eNew h (e7 3 k 0 a c d x)) := by
  refine J2_move ?_
  simp only [X2_move_0, X2_move_3, X2_move_4, X2_move_5, X2_move_6, X2_move_7, X2_move_8, X2_move_9, X2_move_10, X2_move_12 (ev_einit 3 k 0 a c d x), X2_move_15, X2_move_15n, iOb_some, iClr_i, iClr_r, iClr_n, iClr_u, iClr_l, rf_s, rf_n, iB_0, iSum_nil, and_self]
/-- an edit turned -/
def eTurn (e : Nat → Int32) : Nat → Int32 := if e 0 = 0 then e7 0 (e 1) (e 3) (e 2) 0 0 0 else if e 0 = 1 then e7 2 (e 1) (e 2) (e 3) (e 4) 0 0 else if e 0 = 2 then e7 1 (e 1) (e 2) (e 3) (e 4) 0 0 else e7 3 (e 1) 0 (e 5) (e 6) (e 3) (e 4)
theorem i_sw3 {x : Int32} (h0 : ¬ x = 0) (h1 : ¬ x = 1) (h2 : ¬ x = 2) : x.toInt < 0 ∨ 2 < x.toInt := by
  by_cases c : x.toInt < 0
  · exact Or.inl c
  · refine Or.inr ?_
    have e0 : x.toInt ≠ 0 := fun z => h0 (Int32.toInt_inj.mp z)
    have e1 : x.toInt ≠ 1 := fun z => h1 (Int32.toInt_inj.mp z)
    have e2 : x.toInt ≠ 2 := fun z => h2 (Int32.toInt_inj.mp z)
    omega
theorem ev_turned (hE : edAt h p e) : iEv mX2_turned [.ref p] h (some (.ref h.2.1)) (eNew h (eTurn e)) := by
  refine J2_turned ?_
  unfold eTurn
  simp only [X2_turned_0, X2_turned_1, iOb_some, iClr_i, iClr_r, iClr_n, iClr_u, iClr_l, rf_s, rf_n, iB_0, iSum_nil, hE.g0]
  by_cases c0 : e 0 = 0
  · rw [c0]
    simp only [X2_turned_0, X2_turned_1, X2_turned_4_0, X2_turned_4_1, X2_turned_4_2, X2_turned_32, X2_turned_33, X2_turned_36, X2_turned_37, X2_turned_40, X2_turned_41, X2_turned_44 (ev_name _ _ _), X2_turned_47, X2_turned_47n, X2_turned_48, X2_turned_49, X2_turned_52, X2_turned_53, X2_turned_56, X2_turned_57, X2_turned_60, X2_turned_61, X2_turned_67, X2_turned_67n, X2_turned_68, X2_turned_69, X2_turned_72, X2_turned_73, X2_turned_76, X2_turned_77, X2_turned_80, X2_turned_81, X2_turned_87, X2_turned_87n, X2_turned_88, X2_turned_89, X2_turned_92, X2_turned_93, X2_turned_96, X2_turned_97, X2_turned_100, X2_turned_101, X2_turned_104, X2_turned_105, X2_turned_111, X2_turned_111n, iOb_some, iClr_i, iClr_r, iClr_n, iClr_u, iClr_l, rf_s, rf_n, iB_0, iSum_nil, hE.g1, hE.g2, hE.g3, if_true, and_self]
  · by_cases c1 : e 0 = 1
    · rw [c1]
      simp only [X2_turned_0, X2_turned_1, X2_turned_4_0, X2_turned_4_1, X2_turned_4_2, X2_turned_32, X2_turned_33, X2_turned_36, X2_turned_37, X2_turned_40, X2_turned_41, X2_turned_47, X2_turned_47n, X2_turned_48, X2_turned_49, X2_turned_52, X2_turned_53, X2_turned_56, X2_turned_57, X2_turned_60, X2_turned_61, X2_turned_64 (ev_give _ _ _ _), X2_turned_67, X2_turned_67n, X2_turned_68, X2_turned_69, X2_turned_72, X2_turned_73, X2_turned_76, X2_turned_77, X2_turned_80, X2_turned_81, X2_turned_87, X2_turned_87n, X2_turned_88, X2_turned_89, X2_turned_92, X2_turned_93, X2_turned_96, X2_turned_97, X2_turned_100, X2_turned_101, X2_turned_104, X2_turned_105, X2_turned_111, X2_turned_111n, iOb_some, iClr_i, iClr_r, iClr_n, iClr_u, iClr_l, rf_s, rf_n, iB_0, iSum_nil, hE.g1, hE.g2, hE.g3, hE.g4, if_neg (show ¬ (1 : Int32) = 0 by decide), if_true, and_self]
    · by_cases c2 : e 0 = 2
      · rw [c2]
        simp only [X2_turned_0, X2_turned_1, X2_turned_4_0, X2_turned_4_1, X2_turned_4_2, X2_turned_32, X2_turned_33, X2_turned_36, X2_turned_37, X2_turned_40, X2_turned_41, X2_turned_47, X2_turned_47n, X2_turned_48, X2_turned_49, X2_turned_52, X2_turned_53, X2_turned_56, X2_turned_57, X2_turned_60, X2_turned_61, X2_turned_67, X2_turned_67n, X2_turned_68, X2_turned_69, X2_turned_72, X2_turned_73, X2_turned_76, X2_turned_77, X2_turned_80, X2_turned_81, X2_turned_84 (ev_take _ _ _ _), X2_turned_87, X2_turned_87n, X2_turned_88, X2_turned_89, X2_turned_92, X2_turned_93, X2_turned_96, X2_turned_97, X2_turned_100, X2_turned_101, X2_turned_104, X2_turned_105, X2_turned_111, X2_turned_111n, iOb_some, iClr_i, iClr_r, iClr_n, iClr_u, iClr_l, rf_s, rf_n, iB_0, iSum_nil, hE.g1, hE.g2, hE.g3, hE.g4, if_neg (show ¬ (2 : Int32) = 0 by decide), if_neg (show ¬ (2 : Int32) = 1 by decide), if_true, and_self]
      · rw [if_neg c0, if_neg c1, if_neg c2, X2_turned_4_d (i_sw3 c0 c1 c2)]
        simp only [X2_turned_88, X2_turned_89, X2_turned_92, X2_turned_93, X2_turned_96, X2_turned_97, X2_turned_100, X2_turned_101, X2_turned_104, X2_turned_105, X2_turned_108 (ev_move _ _ _ _ _), X2_turned_111, X2_turned_111n, iOb_some, iClr_i, iClr_r, iClr_n, iClr_u, iClr_l, rf_s, rf_n, iB_0, iSum_nil, hE.g1, hE.g3, hE.g4, hE.g5, hE.g6, and_self]
end EDIT

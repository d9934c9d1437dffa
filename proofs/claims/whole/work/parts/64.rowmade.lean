/-! a Row made; what a Patch says as a patch of its sort -/
section ROWMADE
variable {h : iHp} {n c p : Nat} {E : Nat → Option Nat} {C : Nat → Int32} {st so sr : Int32}
theorem iDefs5 : iDefs 5 = [.int 0, .null] := rfl
theorem nH_p2 {cs : List iPC} {sl ci k : Nat} {a0 a1 v : Value} (hk : k < 2) : iPut (nH h (.inr (ci, [a0, a1]) :: cs) sl) h.2.1 ci k v = some (nH h (.inr (ci, [a0, a1].set k v) :: cs) sl) := nH_put0 rfl hk
theorem ev_rinit (so : Int32) (hn : n ≤ 160) : iEv mX5_init [.ref h.2.1, .int so, .int (nI n)] (iNewO h 5) none (nH h [.inr (5, [.int so, .ref (h.2.1 + 1)]), .inl (1, n, .inr (.inl (fun _ => 0)))] (h.2.2 + 2 + n)) := by
  refine J5_init ?_
  rw [nH_o, iDefs5]
  simp only [X5_init_0, X5_init_1, X5_init_4, X5_init_5, X5_init_6, X5_init_9, X5_init_10, X5_init_11, X5_init_14, X5_init_15, X5_init_18, X5_init_19, X5_init_21, X5_init_21n, X5_init_24, iOb_some, iClr_i, iClr_r, iClr_n, iClr_u, iClr_l, rf_s, rf_n, iB_0, iSum_nil, if_pos (show 0 ≤ nI n from nI_pos' (by omega)), nH_al (show n ≤ 60000000 by omega), nH_next, List.length_cons, List.length_nil, List.length_append, List.cons_append, List.nil_append, nH_p2 (show 0 < 2 by decide), nH_p2 (show 1 < 2 by decide), List.set_cons_zero, List.set_cons_succ]
  exact ⟨trivial, rfl⟩
/-- what it says: of another's its source, of the rebased how many conflicts, else how many edits -/
def pSays (i : Int32) (n c : Nat) (sr : Int32) : Int32 := if i = 2 then sr else if i = 3 then nI c else nI n
theorem ev_psays (hP : ptAt h p n c st so sr E C) (i : Int32) : iEv mX3_saysAs [.ref p, .int i] h (some (.int (pSays i n c sr))) h := by
  refine J3_saysAs ?_
  unfold pSays
  by_cases c0 : i = 2
  · rw [c0, if_pos rfl]
    simp only [X3_saysAs_0, X3_saysAs_1_2, X3_saysAs_1_3, X3_saysAs_28, X3_saysAs_29, X3_saysAs_32, X3_saysAs_33, X3_saysAs_37, X3_saysAs_38, X3_saysAs_39, X3_saysAs_42, X3_saysAs_43, iOb_some, iClr_i, iClr_r, iClr_n, iClr_u, iClr_l, rf_s, rf_n, iB_0, iSum_nil, hP.g4, and_self]
  · rw [if_neg c0]
    by_cases c1 : i = 3
    · rw [c1, if_pos rfl]
      simp only [X3_saysAs_0, X3_saysAs_1_2, X3_saysAs_1_3, X3_saysAs_28, X3_saysAs_29, X3_saysAs_32, X3_saysAs_33, X3_saysAs_34 (ev_pccount hP) hP.o, X3_saysAs_37, X3_saysAs_38, X3_saysAs_39, X3_saysAs_42, X3_saysAs_43, iOb_some, iClr_i, iClr_r, iClr_n, iClr_u, iClr_l, rf_s, rf_n, iB_0, iSum_nil, and_self]
    · rw [if_neg c1]
      simp only [X3_saysAs_0, iOb_some, iClr_i, iClr_r, iClr_n, iClr_u, iClr_l, rf_s, rf_n, iB_0, iSum_nil]
      rw [X3_saysAs_1_d ⟨fun z => c0 (Int32.toInt_inj.mp z), fun z => c1 (Int32.toInt_inj.mp z)⟩]
      simp only [X3_saysAs_38, X3_saysAs_39, X3_saysAs_42, X3_saysAs_43, iOb_some, iClr_i, iClr_r, iClr_n, iClr_u, iClr_l, rf_s, rf_n, iB_0, iSum_nil, hP.g1, hP.ln, and_self]
end ROWMADE

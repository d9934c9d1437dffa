/-! difference, far, moves: the class -/
section DRAFTCL
variable {h h1 h2 hb : iHp} {o sN ta tu i j k l p c q a n m g w A : Nat} {R L Sg E0 C1 : Nat → Int32} {X : dfX} {T U : tT} {Q : Option Value → iHp → Prop} {im : Option Nat} {RR E Ts Ps : Nat → Option Nat} {sh rf C : Nat → Int32} {W : wW}
theorem iPut_of {ci k : Nat} {fs : List Value} {v : Value} (e : h.1 a = some (.inr (ci, fs))) (hk : k < fs.length) : iPut h a ci k v = some (iSet h a (.inr (ci, fs.set k v))) := by
  unfold iPut
  rw [e]
  dsimp only
  rw [if_pos ⟨rfl, hk⟩]
theorem nH_p7 {cs : List iPC} {sl k : Nat} {a0 a1 a2 a3 a4 a5 a6 v : Value} (hk : k < 7) : iPut (nH h (.inr (0, [a0, a1, a2, a3, a4, a5, a6]) :: cs) sl) h.2.1 0 k v = some (nH h (.inr (0, [a0, a1, a2, a3, a4, a5, a6].set k v) :: cs) sl) := nH_put0 rfl hk
theorem iDefs0 : iDefs 0 = [.null, .null, .null, .null, .null, .null, .null] := rfl
/-- a Differ made -/
theorem ev_dfinit (hW : dfW h o ta tu T U) (hD : drAt h (o + 4) 0 0 E C) : ∃ h1, iEv mX0_init [.ref h.2.1, .ref (o + 4), .ref ta, .ref tu] (iNewO h 0) none h1 ∧ dG h h1 o ta tu (fun _ => 0) (fun _ => 0) (fun _ => 0) (dfX0 T) := by
  obtain ⟨w1, ⟨⟨K, B, D, tr, te⟩, w3, w4⟩, -⟩ := hW
  have gE : (nH h [.inr (0, [.null, .null, .null, .ref (o + 4), .ref (h.2.1 + 1), .ref (h.2.1 + 2), .ref (h.2.1 + 3)]), .inl (0, 80, .inl (fun _ => 0)), .inl (0, 80, .inl (fun _ => 0)), .inl (2, 80, .inl (fun _ => 0))] (h.2.2 + 247)).1 = (nH h [.inr (0, [.null, .null, .null, .ref (o + 4), .ref (h.2.1 + 1), .ref (h.2.1 + 2), .ref (h.2.1 + 3)]), .inl (0, 80, .inl (fun _ => 0)), .inl (0, 80, .inl (fun _ => 0)), .inl (2, 80, .inl (fun _ => 0))] (h.2.2 + 247)).1 := rfl
  have ex : ∃ g : iHp, g = nH h [.inr (0, [.ref ta, .ref tu, .null, .ref (o + 4), .ref (h.2.1 + 1), .ref (h.2.1 + 2), .ref (h.2.1 + 3)]), .inl (0, 80, .inl (fun _ => 0)), .inl (0, 80, .inl (fun _ => 0)), .inl (2, 80, .inl (fun _ => 0))] (h.2.2 + 247) := ⟨_, rfl⟩
  obtain ⟨g, hg⟩ := ex
  have c0 : g.1 h.2.1 = some (.inr (0, [.ref ta, .ref tu, .null, .ref (o + 4), .ref (h.2.1 + 1), .ref (h.2.1 + 2), .ref (h.2.1 + 3)])) := by rw [hg]; exact nH_at (k := 0) (Nat.le_of_ble_eq_true rfl)
  have c1 : g.1 (h.2.1 + 1) = some (.inl (0, 80, .inl (fun _ => 0))) := by rw [hg]; exact nH_at (k := 1) (Nat.le_of_ble_eq_true rfl)
  have c2 : g.1 (h.2.1 + 2) = some (.inl (0, 80, .inl (fun _ => 0))) := by rw [hg]; exact nH_at (k := 2) (Nat.le_of_ble_eq_true rfl)
  have c3 : g.1 (h.2.1 + 3) = some (.inl (2, 80, .inl (fun _ => 0))) := by rw [hg]; exact nH_at (k := 3) (Nat.le_of_ble_eq_true rfl)
  have goff : ∀ q, q < h.2.1 → g.1 q = h.1 q := fun q hq => by rw [hg]; exact nH_off hq
  have gn : g.2.1 = h.2.1 + 4 := by rw [hg]; rfl
  have gs : g.2.2 = h.2.2 + 247 := by rw [hg]; rfl
  have tg : trAt g ta T.1 K B D := ⟨(goff _ (by omega)).trans tr.1, (goff _ (by omega)).trans tr.2.1, (goff _ (by omega)).trans tr.2.2.1, (goff _ (by omega)).trans tr.2.2.2.1, tr.2.2.2.2⟩
  have et := ev_tcopy tg (by omega)
  have ex2 : ∃ g2 : iHp, g2 = nH g [trC g.2.1 T.1 (cpyOf K) (cpyOf B) (cpyOf D) 0, trC g.2.1 T.1 (cpyOf K) (cpyOf B) (cpyOf D) 1, trC g.2.1 T.1 (cpyOf K) (cpyOf B) (cpyOf D) 2, trC g.2.1 T.1 (cpyOf K) (cpyOf B) (cpyOf D) 3] (g.2.2 + 244) := ⟨_, rfl⟩
  obtain ⟨g2, hg2⟩ := ex2
  rw [← hg2] at et
  have d0 : g2.1 (g.2.1 + 0) = some (trC g.2.1 T.1 (cpyOf K) (cpyOf B) (cpyOf D) 0) := by rw [hg2]; exact nH_at (k := 0) (Nat.le_of_ble_eq_true rfl)
  have d1 : g2.1 (g.2.1 + 1) = some (trC g.2.1 T.1 (cpyOf K) (cpyOf B) (cpyOf D) 1) := by rw [hg2]; exact nH_at (k := 1) (Nat.le_of_ble_eq_true rfl)
  have d2 : g2.1 (g.2.1 + 2) = some (trC g.2.1 T.1 (cpyOf K) (cpyOf B) (cpyOf D) 2) := by rw [hg2]; exact nH_at (k := 2) (Nat.le_of_ble_eq_true rfl)
  have d3 : g2.1 (g.2.1 + 3) = some (trC g.2.1 T.1 (cpyOf K) (cpyOf B) (cpyOf D) 3) := by rw [hg2]; exact nH_at (k := 3) (Nat.le_of_ble_eq_true rfl)
  have g2off : ∀ q, q < g.2.1 → g2.1 q = g.1 q := fun q hq => by rw [hg2]; exact nH_off hq
  have g2n : g2.2.1 = g.2.1 + 4 := by rw [hg2]; rfl
  have g2s : g2.2.2 = g.2.2 + 244 := by rw [hg2]; rfl
  have e2 : iPut g2 h.2.1 0 2 (.ref g.2.1) = some (iSet g2 h.2.1 (dO h.2.1 ta tu o)) := by
    rw [iPut_of ((g2off _ (by omega)).trans c0) (Nat.le_of_ble_eq_true rfl), gn]
    rfl
  rw [gn] at d0 d1 d2 d3
  refine ⟨iSet g2 h.2.1 (dO h.2.1 ta tu o), ?_, (T.1, cpyOf K, cpyOf B, cpyOf D), E, C, ⟨if_pos rfl, (if_neg (by omega)).trans ((g2off _ (by omega)).trans c1), (if_neg (by omega)).trans ((g2off _ (by omega)).trans c2), (if_neg (by omega)).trans ((g2off _ (by omega)).trans c3)⟩, ⟨⟨(if_neg (by omega)).trans d0, (if_neg (by omega)).trans d1, (if_neg (by omega)).trans d2, (if_neg (by omega)).trans d3, tr.2.2.2.2⟩, (cpyOf_eq tr).trans te⟩, ?_, fun j hj => absurd hj (Nat.not_lt_zero j), fun q q1 q2 => (if_neg (by omega)).trans ((g2off q (by omega)).trans (goff q q1)), ?_, ?_⟩
  · refine J0_init (cat_r (o + 4)) (cat_r ta) (cat_r tu) ?_
    have a1 {cs : List iPC} {sl : Nat} : iNewA (nH h cs sl) .int 80 = some (nH h (cs ++ [.inl (0, 80, .inl (fun _ => 0))]) (sl + 80)) := nH_ai (m := 80) (by decide)
    have a2 {cs : List iPC} {sl : Nat} : iNewA (nH h cs sl) .boolean 80 = some (nH h (cs ++ [.inl (2, 80, .inl (fun _ => 0))]) (sl + 80)) := nH_ab (m := 80) (by decide)
    rw [nH_o, iDefs0]
    simp only [X0_init_0, X0_init_1, X0_init_4, X0_init_5, X0_init_7, X0_init_9, X0_init_9n, X0_init_12, X0_init_13, X0_init_15, X0_init_17, X0_init_17n, X0_init_20, X0_init_21, X0_init_23, X0_init_25, X0_init_25n, X0_init_28, X0_init_29, X0_init_29n, X0_init_30, X0_init_30n, X0_init_33, X0_init_34, X0_init_34n, X0_init_35, X0_init_35n, X0_init_38, X0_init_39, X0_init_39n, X0_init_40, X0_init_40n, X0_init_43, iOb_some, iClr_i, iClr_r, iClr_n, iClr_u, iClr_l, rf_s, rf_n, iB_0, iSum_nil, a1, a2, nH_next, List.length_cons, List.length_nil, List.length_append, List.cons_append, List.nil_append, nH_p7 (show 0 < 7 by decide), nH_p7 (show 1 < 7 by decide), nH_p7 (show 3 < 7 by decide), nH_p7 (show 4 < 7 by decide), nH_p7 (show 5 < 7 by decide), nH_p7 (show 6 < 7 by decide), List.set_cons_zero, List.set_cons_succ]
    have eg : nH h [.inr (0, [.ref ta, .ref tu, .null, .ref (o + 4), .ref (h.2.1 + (0 + 1)), .ref (h.2.1 + (0 + 1 + 1)), .ref (h.2.1 + (0 + 1 + 1 + 1))]), .inl (0, 80, .inl (fun _ => 0)), .inl (0, 80, .inl (fun _ => 0)), .inl (2, 80, .inl (fun _ => 0))] (h.2.2 + iN 0 + 80 + 80 + 80) = g := by
      rw [hg]
      rfl
    rw [eg]
    simp only [X0_init_44, X0_init_47, X0_init_48, X0_init_48n, X0_init_49 et (cat_r ta), X0_init_52, X0_init_52n, X0_init_55, iOb_some, iClr_i, iClr_r, iClr_n, iClr_u, iClr_l, rf_s, rf_n, iB_0, iSum_nil, e2, and_self]
  · exact ⟨(if_neg (by omega)).trans ((g2off _ (by omega)).trans ((goff _ (by omega)).trans hD.1)), (if_neg (by omega)).trans ((g2off _ (by omega)).trans ((goff _ (by omega)).trans hD.2.1)), (if_neg (by omega)).trans ((g2off _ (by omega)).trans ((goff _ (by omega)).trans hD.2.2.1)), hD.2.2.2⟩
  · show g2.2.1 = h.2.1 + 8 + 0
    omega
  · show g2.2.2 = h.2.2 + 491 + 7 * 0
    omega
theorem drafts_loop (hW : dfW h o ta tu T U) : ∀ k p X R L Sg h1, p + k = U.1 → dC T U p (p + 1) (dfA0 T U) X → (∀ c q, c < U.1 → tPar U.2.2.2 c = some q → p ≤ q → Sg c = 0) → dG h h1 o ta tu R L Sg X → (∀ h2 R L Sg a4, dG h h2 o ta tu R L Sg (dfP U k p X) → iWp 7 mX0_draftInto 75 [.ref (o + 4), .ref ta, .ref tu, .ref h.2.1, a4] [] h2 Q) → iWp 7 mX0_draftInto 48 [.ref (o + 4), .ref ta, .ref tu, .ref h.2.1, .int (nI p)] [] h1 Q := by
  have hU := hW.2.2.2.2.1
  have u60 := hU.1.le
  intro k
  induction k with
  | zero =>
    intro p X R L Sg h1 hp hC hS hG hQ
    obtain rfl : p = U.1 := by omega
    rw [X0_draftInto_48]
    simp only [X0_draftInto_50, X0_draftInto_50n, X0_draftInto_51, X0_draftInto_54, X0_draftInto_57, X0_draftInto_57n, X0_draftInto_58, X0_draftInto_63, X0_draftInto_63n, X0_draftInto_64, X0_draftInto_69, X0_draftInto_72, iOb_some, iClr_i, iClr_r, iClr_n, iClr_u, iClr_l, rf_s, rf_n, iB_0, iSum_nil, (hG.to hW).s, if_pos (Int32.le_refl (nI U.1))]
    exact hQ h1 R L Sg _ hG
  | succ k ih =>
    intro p X R L Sg h1 hp hC hS hG hQ
    have hpn : p < U.1 := by omega
    obtain ⟨g, g1, g2, g3⟩ := dC_par hU hC hpn
    obtain ⟨h2, R2, L2, Sg2, e2, G2, s2⟩ := ev_markStaying hW hC.1.1 hpn g1 hG
    obtain ⟨h3, e3, G3⟩ := ev_bringOthers hW hpn (fun c hc hpc => by
      rw [s2 c, hS c p hc hpc (Nat.le_refl p)]) hC G2
    rw [X0_draftInto_48]
    simp only [X0_draftInto_50, X0_draftInto_50n, X0_draftInto_51, X0_draftInto_54, X0_draftInto_57, X0_draftInto_57n, X0_draftInto_58, X0_draftInto_60 e2 hG.ob, X0_draftInto_63, X0_draftInto_63n, X0_draftInto_64, X0_draftInto_66 e3 G2.ob, X0_draftInto_69, X0_draftInto_72, iOb_some, iClr_i, iClr_r, iClr_n, iClr_u, iClr_l, rf_s, rf_n, iB_0, iSum_nil, (hG.to hW).s, if_neg (nI_ge hpn (show U.1 < 2 ^ 31 by omega)), nI_1]
    refine ih (p + 1) _ R2 L2 Sg2 h3 (by omega) (dP_step hU hpn hC) (fun c q hc hq hpq => ?_) G3 hQ
    rw [s2 c]
    by_cases y : dfS U X.1 p c = true
    · have := (dfS_in y).2.1
      rw [hq] at this
      cases this
      omega
    · rw [if_neg y]
      exact hS c q hc hq (by omega)
/-- all of it -/
theorem ev_drafted (hW : dfW h o ta tu T U) (hD : drAt h (o + 4) n k E C) : ∃ h1 R L Sg, iEv mX0_draftInto [.ref (o + 4), .ref ta, .ref tu] h (some (.int 0)) h1 ∧ dG (drH h (o + 4) 0 0 E C) h1 o ta tu R L Sg (dfR T U) := by
  have hT := hW.2.2.2.1
  have hU := hW.2.2.2.2.1
  have ecl := ev_dclear (b := h) (d := o + 4) (n := n) (c := k) (E := E) (C := C)
  rw [hD.eq] at ecl
  have D0 : drAt (drH h (o + 4) 0 0 E C) (o + 4) 0 0 E C := drH_dr (by omega) (by omega)
  have off0 : ∀ q, (q < o + 4 ∨ o + 7 ≤ q) → (drH h (o + 4) 0 0 E C).1 q = h.1 q := fun q hq => drH_off (by omega)
  have n0 : (drH h (o + 4) 0 0 E C).2.1 = h.2.1 := rfl
  obtain ⟨w1, ⟨w2, w3, w4⟩, ⟨w5, w6, w7⟩, w8, w9, w10⟩ := hW
  have kt := w2.keyAt (i := 0) hT.2.choose_spec.2.1
  have ku := w5.keyAt (i := 0) hU.2.choose_spec.2.1
  rw [nI_0] at kt ku
  have to := w2.o
  have uo := w5.o
  have hW0 : dfW (drH h (o + 4) 0 0 E C) o ta tu T U := ⟨w1, ⟨w2.same (fun j hj => off0 _ (by omega)), w3, w4⟩, ⟨w5.same (fun j hj => off0 _ (by omega)), w6, w7⟩, w8, w9, w10⟩
  generalize drH h (o + 4) 0 0 E C = h0 at ecl D0 n0 hW0 ⊢
  obtain ⟨h1, e1, G1⟩ := ev_dfinit hW0 D0
  obtain ⟨h2, e2, G2⟩ := ev_nameOthers hW0 (dN_0 hT) G1
  have h1d := dN_run (U := U) hT T.1 0 _ (Nat.zero_add _) (dN_0 hT)
  have h2d := dP_0 hU (dC_0 hT hU w10 h1d)
  have z : iWp 7 mX0_draftInto 0 [.ref (o + 4), .ref ta, .ref tu, iU, iU] [] h (fun v h5 => v = some (.int 0) ∧ ∃ R L Sg, dG h0 h5 o ta tu R L Sg (dfR T U)) := by
    rw [w10] at kt
    simp only [X0_draftInto_0, X0_draftInto_0n, X0_draftInto_1, X0_draftInto_1n, X0_draftInto_4, X0_draftInto_4n, X0_draftInto_5, X0_draftInto_5n, X0_draftInto_8, X0_draftInto_9, X0_draftInto_10, X0_draftInto_10n, X0_draftInto_11, X0_draftInto_12 kt to, X0_draftInto_15, X0_draftInto_15n, X0_draftInto_16, X0_draftInto_17 ku uo, X0_draftInto_20, X0_draftInto_23, X0_draftInto_25, X0_draftInto_26, X0_draftInto_26n, X0_draftInto_27 ecl hD.o, X0_draftInto_30, X0_draftInto_33, X0_draftInto_34, X0_draftInto_34n, X0_draftInto_35, X0_draftInto_35n, X0_draftInto_36, X0_draftInto_36n, X0_draftInto_37 e1 (cat_r (o + 4)) (cat_r ta) (cat_r tu), X0_draftInto_40, X0_draftInto_40n, X0_draftInto_41, X0_draftInto_41n, X0_draftInto_42 e2 G1.ob, X0_draftInto_45, X0_draftInto_46, iOb_some, iClr_i, iClr_r, iClr_n, iClr_u, iClr_l, rf_s, rf_n, iB_0, iSum_nil, if_true]
    refine drafts_loop hW0 U.1 0 _ _ _ _ h2 (Nat.zero_add _) h2d (fun c q _ _ _ => rfl) G2 (fun h4 R L Sg a4 G4 => ?_)
    have h3d := dP_run hU U.1 0 _ (Nat.zero_add _) h2d
    obtain ⟨h5, e5, G5⟩ := ev_takeOthers hW0 (dK_0 hU h3d) G4
    simp only [X0_draftInto_75, X0_draftInto_75n, X0_draftInto_76 e5 G4.ob, X0_draftInto_79, X0_draftInto_80, iOb_some, iClr_i, iClr_r, iClr_n, iClr_u, iClr_l, rf_s, rf_n, iB_0, iSum_nil]
    exact ⟨trivial, R, L, Sg, G5⟩
  obtain ⟨v, h5, ev, rfl, R, L, Sg, g5⟩ := I0_draftInto (cat_r (o + 4)) (cat_r ta) (cat_r tu) z
  exact ⟨h5, R, L, Sg, ev, g5⟩
-- the calls
noncomputable def aDf (W : wW) (t u : Int32) (f : dfX → Int32 × wW) : Int32 × wW := match iIx t W.1.1, iIx u W.1.1 with
  | some i, some j => if (W.1.2.1 i).2.1 0 = (W.1.2.1 j).2.1 0 then f (dfR (W.1.2.1 i) (W.1.2.1 j)) else (-6, wRef W 6)
  | _, _ => (-1, wRef W 1)
noncomputable def aDiff (W : wW) (t u : Int32) : Int32 × wW := aDf W t u (fun X => aNew W X.2.1 0 1 (-1) X.2.2 (fun _ => 0))
noncomputable def aFar (W : wW) (t u : Int32) : Int32 × wW := aDf W t u (fun X => (nI X.2.1, W))
noncomputable def aMoves (W : wW) (t u : Int32) : Int32 × wW := aDf W t u (fun X => (nI (cntE X.2.2 3 X.2.1), W))
theorem drH_drH {d n' k' : Nat} {E' : Nat → Option Nat} {C' : Nat → Int32} : drH (drH h d n k E C) d n' k' E' C' = drH h d n' k' E' C' := by
  refine Prod.ext (funext fun q => ?_) rfl
  show (if d ≤ q ∧ q < d + 3 then _ else (if d ≤ q ∧ q < d + 3 then _ else h.1 q)) = (if d ≤ q ∧ q < d + 3 then _ else h.1 q)
  by_cases c : d ≤ q ∧ q < d + 3
  · rw [if_pos c, if_pos c]
  · rw [if_neg c, if_neg c, if_neg c]
/-- the world behind it -/
theorem dG_re (hR : cRe h o sN im RR sh rf n k E C Ts Ps W) (hG : dG (drH h (o + 4) 0 0 E C) h1 o ta tu R L Sg X) (hn : X.2.1 ≤ 120) : ∃ E' C', cRe h1 o sN im RR sh rf X.2.1 0 E' C' Ts Ps W ∧ dEd h1 o sN X.2.1 E' X.2.2 ∧ gr h h1 o sN 128 1331 := by
  obtain ⟨V, E', C', ⟨f1, f2, f3, f4⟩, ⟨t1, t2⟩, f5, f6, f7, f8, f9⟩ := hG
  have n0 : (drH h (o + 4) 0 0 E C).2.1 = h.2.1 := rfl
  have s0 : (drH h (o + 4) 0 0 E C).2.2 = h.2.2 := rfl
  rw [n0] at f6 f7 f8
  rw [s0] at f9
  have hlo := hR.lo
  have hsn := hR.sNh
  have cell : ∀ q, q < h.2.1 → (q < o + 4 ∨ o + 7 ≤ q) → h1.1 q = h.1 q := fun q q1 q2 => (f7 q q1 q2).trans (drH_off (by omega))
  have hb : ∀ q, q < h.2.1 → (drH h1 (o + 4) n k E C).1 q = h.1 q := by
    intro q hq
    by_cases c : q < o + 4 ∨ o + 7 ≤ q
    · exact (drH_off (by omega)).trans (cell q hq c)
    · obtain ⟨j, hj, rfl⟩ : ∃ j, j < 3 ∧ q = o + 4 + j := ⟨q - (o + 4), by omega, by omega⟩
      rw [drH_at hj, ← drH_at (b := h) hj, hR.dreq]
  have h5 := (hR.grow hb (by show h.2.1 ≤ h1.2.1; omega)).setD (n' := X.2.1) (k' := 0) (E' := E') (C' := C') (by omega) (by omega)
  rw [drH_drH, f5.eq] at h5
  refine ⟨E', C', h5, fun j hj => ?_, fun q hq => cell q (by omega) (by omega), fun q hq => ⟨⟨hq.1, by have := hq.2.1; omega, hq.2.2⟩, cell q hq.2.1 (Or.inr (by have := hq.1; omega))⟩, by omega, by omega, by omega, by omega⟩
  obtain ⟨x, x1, x2, x3, x4⟩ := f6 j hj
  exact ⟨x, x1, x2, by omega, x4, by omega⟩
theorem c8_draft (hR : cRe h o sN im RR sh rf n k E C Ts Ps W) (hW : wOk W) (t u : Int32) : ∃ v1 v2, iEv mX8_treeAt [.ref o, .int t] h (some v1) h ∧ v1.category = 1 ∧ (v1 = .null ∨ ∃ a, v1 = .ref a) ∧ iEv mX8_treeAt [.ref o, .int u] h (some v2) h ∧ v2.category = 1 ∧ ((iEv mX0_draftInto [.ref (o + 4), v1, v2] h (some (.int (-1))) h ∧ ∀ f, aDf W t u f = (-1, wRef W 1)) ∨ (iEv mX0_draftInto [.ref (o + 4), v1, v2] h (some (.int (-6))) h ∧ ∀ f, aDf W t u f = (-6, wRef W 6)) ∨ ∃ X h1 E' C', iEv mX0_draftInto [.ref (o + 4), v1, v2] h (some (.int 0)) h1 ∧ (∀ f, aDf W t u f = f X) ∧ cRe h1 o sN im RR sh rf X.2.1 0 E' C' Ts Ps W ∧ dEd h1 o sN X.2.1 E' X.2.2 ∧ X.2.1 ≤ 120 ∧ gr h h1 o sN 128 1331) := by
  have hm : W.1.1 < 2 ^ 31 := by have := hW.1.1; omega
  have cn : Value.null.category = 1 := rfl
  have nul : ∀ v2 : Value, v2.category = 1 → iEv mX0_draftInto [.ref (o + 4), .null, v2] h (some (.int (-1))) h := by
    intro v2 hv
    refine J0_draftInto (cat_r (o + 4)) cn hv ?_
    simp only [X0_draftInto_0, X0_draftInto_0n, X0_draftInto_1, X0_draftInto_1n, X0_draftInto_4, X0_draftInto_4n, X0_draftInto_5, X0_draftInto_5n, X0_draftInto_8, X0_draftInto_9, iOb_some, iClr_i, iClr_r, iClr_n, iClr_u, iClr_l, rf_s, rf_n, iB_0, iSum_nil, and_self]
  rcases iIx_cases t hm with ⟨e, z⟩ | ⟨i, hi, rfl, e⟩
  · rcases iIx_cases u hm with ⟨f, y⟩ | ⟨j, hj, rfl, f⟩
    · exact ⟨.null, .null, c8_treeN hR z, cn, Or.inl rfl, c8_treeN hR y, cn, Or.inl ⟨nul _ cn, fun F => by unfold aDf; rw [e, f]⟩⟩
    · obtain ⟨ta, K, B, D, f1, f2, f3, f4⟩ := c8_tree hR hj
      exact ⟨.null, .ref ta, c8_treeN hR z, cn, Or.inl rfl, f1, cat_r ta, Or.inl ⟨nul _ (cat_r ta), fun F => by unfold aDf; rw [e, f]⟩⟩
  · obtain ⟨ta, K, B, D, e1, e2, e3, e4⟩ := c8_tree hR hi
    rcases iIx_cases u hm with ⟨f, y⟩ | ⟨j, hj, rfl, f⟩
    · refine ⟨.ref ta, .null, e1, cat_r ta, Or.inr ⟨ta, rfl⟩, c8_treeN hR y, cn, Or.inl ⟨?_, fun F => by unfold aDf; rw [e, f]⟩⟩
      refine J0_draftInto (cat_r (o + 4)) (cat_r ta) cn ?_
      simp only [X0_draftInto_0, X0_draftInto_0n, X0_draftInto_1, X0_draftInto_1n, X0_draftInto_4, X0_draftInto_4n, X0_draftInto_5, X0_draftInto_5n, X0_draftInto_8, X0_draftInto_9, iOb_some, iClr_i, iClr_r, iClr_n, iClr_u, iClr_l, rf_s, rf_n, iB_0, iSum_nil, and_self]
    · obtain ⟨tu, K', B', D', f1, f2, f3, f4⟩ := c8_tree hR hj
      refine ⟨.ref ta, .ref tu, e1, cat_r ta, Or.inr ⟨ta, rfl⟩, f1, cat_r tu, Or.inr ?_⟩
      have hT := hW.1.2.2.1 i hi
      have hU := hW.1.2.2.1 j hj
      have tA1 : tA h ta (W.1.2.1 i) := tA_of e2 e3
      have tA2 : tA h tu (W.1.2.1 j) := tA_of f2 f3
      have a0 := e4 0 (by decide)
      have a3 := e4 3 (by decide)
      have b0 := f4 0 (by decide)
      have b3 := f4 3 (by decide)
      by_cases c : (W.1.2.1 i).2.1 0 = (W.1.2.1 j).2.1 0
      · have hD : dfW h o ta tu (W.1.2.1 i) (W.1.2.1 j) := ⟨hR.lo, ⟨tA1, a0.1, by have := a3.2.1; omega⟩, ⟨tA2, b0.1, by have := b3.2.1; omega⟩, hT, hU, c⟩
        obtain ⟨h1, R, L, Sg, ev, G⟩ := ev_drafted hD hR.2.1
        have le := (dfR_ok hT hU c).2
        obtain ⟨E', C', r1, r2, r3⟩ := dG_re hR G le
        refine Or.inr ⟨dfR (W.1.2.1 i) (W.1.2.1 j), h1, E', C', ev, fun F => ?_, r1, r2, le, r3⟩
        unfold aDf
        rw [e, f]
        exact if_pos c
      · refine Or.inl ⟨?_, fun F => ?_⟩
        · have kt := tA1.keyAt (i := 0) hT.2.choose_spec.2.1
          have ku := tA2.keyAt (i := 0) hU.2.choose_spec.2.1
          rw [nI_0] at kt ku
          refine J0_draftInto (cat_r (o + 4)) (cat_r ta) (cat_r tu) ?_
          simp only [X0_draftInto_0, X0_draftInto_0n, X0_draftInto_1, X0_draftInto_1n, X0_draftInto_4, X0_draftInto_4n, X0_draftInto_5, X0_draftInto_5n, X0_draftInto_8, X0_draftInto_9, X0_draftInto_10, X0_draftInto_10n, X0_draftInto_11, X0_draftInto_12 kt tA1.o, X0_draftInto_15, X0_draftInto_15n, X0_draftInto_16, X0_draftInto_17 ku tA2.o, X0_draftInto_20, X0_draftInto_23, X0_draftInto_25, iOb_some, iClr_i, iClr_r, iClr_n, iClr_u, iClr_l, rf_s, rf_n, iB_0, iSum_nil, if_neg c, and_self]
        · unfold aDf
          rw [e, f]
          exact if_neg c
theorem X8_diff_11q {d : Nat} {a0 a1 a2 a3 rw : Value} {p t1 : Nat} {x0 : Int32} (he : iEv mX8_treeAt [.ref p, .int x0] h (some rw) h2) (ho : iObj h p 8 = true) : iWp 8 mX8_difference 11 [a0, a1, a2, a3] [.int x0, .ref p, .null, .ref t1] h Q = iWp 8 mX8_difference 14 [a0, a1, a2, a3] [rw, .null, .ref t1] h2 Q := iWp_cV dX8_difference_11 fK_8_121 rfl rfl ho (Nat.le_of_ble_eq_true rfl) (Nat.le_of_ble_eq_true rfl) rfl (Nat.le_of_ble_eq_true rfl) he rfl
theorem X8_far_11q {d : Nat} {a0 a1 a2 a3 rw : Value} {p t1 : Nat} {x0 : Int32} (he : iEv mX8_treeAt [.ref p, .int x0] h (some rw) h2) (ho : iObj h p 8 = true) : iWp 8 mX8_far 11 [a0, a1, a2, a3] [.int x0, .ref p, .null, .ref t1] h Q = iWp 8 mX8_far 14 [a0, a1, a2, a3] [rw, .null, .ref t1] h2 Q := iWp_cV dX8_far_11 fK_8_121 rfl rfl ho (Nat.le_of_ble_eq_true rfl) (Nat.le_of_ble_eq_true rfl) rfl (Nat.le_of_ble_eq_true rfl) he rfl
theorem X8_moves_11q {d : Nat} {a0 a1 a2 a3 rw : Value} {p t1 : Nat} {x0 : Int32} (he : iEv mX8_treeAt [.ref p, .int x0] h (some rw) h2) (ho : iObj h p 8 = true) : iWp 8 mX8_moves 11 [a0, a1, a2, a3] [.int x0, .ref p, .null, .ref t1] h Q = iWp 8 mX8_moves 14 [a0, a1, a2, a3] [rw, .null, .ref t1] h2 Q := iWp_cV dX8_moves_11 fK_8_121 rfl rfl ho (Nat.le_of_ble_eq_true rfl) (Nat.le_of_ble_eq_true rfl) rfl (Nat.le_of_ble_eq_true rfl) he rfl
theorem c8_diff (hR : cRep h o W) (hW : wOk W) (t u : Int32) : ∃ r h1, iEv mX8_difference [.ref o, .int t, .int u] h r h1 ∧ c8P h o (aDiff W t u) r h1 := by
  obtain ⟨sN, im, RR, sh, rf, n, k, E, C, Ts, Ps, hR⟩ := hR
  obtain ⟨v1, v2, e1, k1, kk, e2, k2, ed⟩ := c8_draft hR hW t u
  refine I8_difference ?_
  have pre : ∀ (rv : Int32) h1, iEv mX0_draftInto [.ref (o + 4), v1, v2] h (some (.int rv)) h1 → ∀ Q : Option Value → iHp → Prop, iWp 8 mX8_difference 0 [.ref o, .int t, .int u, iU] [] h Q = iWp 8 mX8_difference 18 [.ref o, .int t, .int u, .int rv] [] h1 Q := by
    intro rv h1 ev Q
    rcases kk with rfl | ⟨a, rfl⟩
    · simp only [X8_difference_0, X8_difference_1, X8_difference_4, X8_difference_5, X8_difference_6 e1 hR.ob, X8_difference_9, X8_difference_10, X8_difference_14 ev (cat_r (o + 4)) k1 k2, X8_difference_17, iOb_some, iClr_i, iClr_r, iClr_n, iClr_u, iClr_l, rf_s, rf_n, iB_0, iSum_nil, hR.g3, X8_diff_11q (d := 0) e2 hR.ob]
    · simp only [X8_difference_0, X8_difference_1, X8_difference_4, X8_difference_5, X8_difference_6 e1 hR.ob, X8_difference_9, X8_difference_10, X8_difference_11 e2 hR.ob, X8_difference_14 ev (cat_r (o + 4)) k1 k2, X8_difference_17, iOb_some, iClr_i, iClr_r, iClr_n, iClr_u, iClr_l, rf_s, rf_n, iB_0, iSum_nil, hR.g3]
  unfold aDiff
  rcases ed with ⟨ev, ea⟩ | ⟨ev, ea⟩ | ⟨X, h1, E', C', ev, ea, r1, r2, le, gg⟩
  · rw [ea, pre _ _ ev]
    simp only [X8_difference_18, X8_difference_19, X8_difference_22, X8_difference_23, X8_difference_24, X8_difference_28, X8_difference_31, X8_difference_32, X8_difference_33 (ev8_refuse hR (v := -1) (r := 1) (by decide) (by decide) rfl) hR.ob, X8_difference_36, iOb_some, iClr_i, iClr_r, iClr_n, iClr_u, iClr_l, rf_s, rf_n, iB_0, iSum_nil, if_neg (by decide : ¬ (-1 : Int32) = 0)]
    exact c8_end hR (by decide)
  · rw [ea, pre _ _ ev]
    simp only [X8_difference_18, X8_difference_19, X8_difference_22, X8_difference_23, X8_difference_24, X8_difference_28, X8_difference_31, X8_difference_32, X8_difference_33 (ev8_refuse hR (v := -6) (r := 6) (by decide) (by decide) rfl) hR.ob, X8_difference_36, iOb_some, iClr_i, iClr_r, iClr_n, iClr_u, iClr_l, rf_s, rf_n, iB_0, iSum_nil, if_neg (by decide : ¬ (-6 : Int32) = 0)]
    exact c8_end hR (by decide)
  · rw [ea, pre _ _ ev]
    obtain ⟨h4, c4, r4, f4, q1, q2, q3, q4⟩ := ev8_keep (C2 := fun _ => 0) r1 hW (by omega) (fun _ => r2) (fun q (hq : q < 2 * 0) => by omega) 1 (-1)
    simp only [X8_difference_18, X8_difference_19, X8_difference_22, X8_difference_23, X8_difference_24, X8_difference_25 c4 r1.ob, X8_difference_28, X8_difference_31, X8_difference_32, X8_difference_36, iOb_some, iClr_i, iClr_r, iClr_n, iClr_u, iClr_l, rf_s, rf_n, iB_0, iSum_nil, if_true]
    exact k8_fin gg r4 f4 q1 q2 q3 q4 (by omega) (by omega)
theorem gr_fin {v : Int32 × wW} {a b : Nat} (g : gr h h1 o sN a b) (h1' : cRep h1 o v.2) (ha : a ≤ 1000) (hb : b ≤ 14000) : c8P h o v (some (.int v.1)) h1 := by
  obtain ⟨x1, x2, x3, x4, x5, x6⟩ := g
  exact ⟨rfl, h1', x1, by omega, by omega, by omega, by omega⟩
theorem c8_far (hR : cRep h o W) (hW : wOk W) (t u : Int32) : ∃ r h1, iEv mX8_far [.ref o, .int t, .int u] h r h1 ∧ c8P h o (aFar W t u) r h1 := by
  obtain ⟨sN, im, RR, sh, rf, n, k, E, C, Ts, Ps, hR⟩ := hR
  obtain ⟨v1, v2, e1, k1, kk, e2, k2, ed⟩ := c8_draft hR hW t u
  refine I8_far ?_
  have pre : ∀ (rv : Int32) h1, iEv mX0_draftInto [.ref (o + 4), v1, v2] h (some (.int rv)) h1 → ∀ Q : Option Value → iHp → Prop, iWp 8 mX8_far 0 [.ref o, .int t, .int u, iU] [] h Q = iWp 8 mX8_far 18 [.ref o, .int t, .int u, .int rv] [] h1 Q := by
    intro rv h1 ev Q
    rcases kk with rfl | ⟨a, rfl⟩
    · simp only [X8_far_0, X8_far_1, X8_far_4, X8_far_5, X8_far_6 e1 hR.ob, X8_far_9, X8_far_10, X8_far_14 ev (cat_r (o + 4)) k1 k2, X8_far_17, iOb_some, iClr_i, iClr_r, iClr_n, iClr_u, iClr_l, rf_s, rf_n, iB_0, iSum_nil, hR.g3, X8_far_11q (d := 0) e2 hR.ob]
    · simp only [X8_far_0, X8_far_1, X8_far_4, X8_far_5, X8_far_6 e1 hR.ob, X8_far_9, X8_far_10, X8_far_11 e2 hR.ob, X8_far_14 ev (cat_r (o + 4)) k1 k2, X8_far_17, iOb_some, iClr_i, iClr_r, iClr_n, iClr_u, iClr_l, rf_s, rf_n, iB_0, iSum_nil, hR.g3]
  unfold aFar
  rcases ed with ⟨ev, ea⟩ | ⟨ev, ea⟩ | ⟨X, h1, E', C', ev, ea, r1, r2, le, gg⟩
  · rw [ea, pre _ _ ev]
    simp only [X8_far_18, X8_far_19, X8_far_22, X8_far_23, X8_far_26, X8_far_29, X8_far_32, X8_far_33, X8_far_34 (ev8_refuse hR (v := -1) (r := 1) (by decide) (by decide) rfl) hR.ob, X8_far_37, iOb_some, iClr_i, iClr_r, iClr_n, iClr_u, iClr_l, rf_s, rf_n, iB_0, iSum_nil, if_neg (by decide : ¬ (-1 : Int32) = 0)]
    exact c8_end hR (by decide)
  · rw [ea, pre _ _ ev]
    simp only [X8_far_18, X8_far_19, X8_far_22, X8_far_23, X8_far_26, X8_far_29, X8_far_32, X8_far_33, X8_far_34 (ev8_refuse hR (v := -6) (r := 6) (by decide) (by decide) rfl) hR.ob, X8_far_37, iOb_some, iClr_i, iClr_r, iClr_n, iClr_u, iClr_l, rf_s, rf_n, iB_0, iSum_nil, if_neg (by decide : ¬ (-6 : Int32) = 0)]
    exact c8_end hR (by decide)
  · rw [ea, pre _ _ ev]
    simp only [X8_far_18, X8_far_19, X8_far_22, X8_far_23, X8_far_26, X8_far_29, X8_far_32, X8_far_33, X8_far_37, iOb_some, iClr_i, iClr_r, iClr_n, iClr_u, iClr_l, rf_s, rf_n, iB_0, iSum_nil, if_true, r1.g3, r1.2.1.g2]
    exact gr_fin gg ⟨sN, im, RR, sh, rf, _, _, E', C', Ts, Ps, r1⟩ (by omega) (by omega)
theorem c8_moves (hR : cRep h o W) (hW : wOk W) (t u : Int32) : ∃ r h1, iEv mX8_moves [.ref o, .int t, .int u] h r h1 ∧ c8P h o (aMoves W t u) r h1 := by
  obtain ⟨sN, im, RR, sh, rf, n, k, E, C, Ts, Ps, hR⟩ := hR
  obtain ⟨v1, v2, e1, k1, kk, e2, k2, ed⟩ := c8_draft hR hW t u
  refine I8_moves ?_
  have pre : ∀ (rv : Int32) h1, iEv mX0_draftInto [.ref (o + 4), v1, v2] h (some (.int rv)) h1 → ∀ Q : Option Value → iHp → Prop, iWp 8 mX8_moves 0 [.ref o, .int t, .int u, iU] [] h Q = iWp 8 mX8_moves 18 [.ref o, .int t, .int u, .int rv] [] h1 Q := by
    intro rv h1 ev Q
    rcases kk with rfl | ⟨a, rfl⟩
    · simp only [X8_moves_0, X8_moves_1, X8_moves_4, X8_moves_5, X8_moves_6 e1 hR.ob, X8_moves_9, X8_moves_10, X8_moves_14 ev (cat_r (o + 4)) k1 k2, X8_moves_17, iOb_some, iClr_i, iClr_r, iClr_n, iClr_u, iClr_l, rf_s, rf_n, iB_0, iSum_nil, hR.g3, X8_moves_11q (d := 0) e2 hR.ob]
    · simp only [X8_moves_0, X8_moves_1, X8_moves_4, X8_moves_5, X8_moves_6 e1 hR.ob, X8_moves_9, X8_moves_10, X8_moves_11 e2 hR.ob, X8_moves_14 ev (cat_r (o + 4)) k1 k2, X8_moves_17, iOb_some, iClr_i, iClr_r, iClr_n, iClr_u, iClr_l, rf_s, rf_n, iB_0, iSum_nil, hR.g3]
  unfold aMoves
  rcases ed with ⟨ev, ea⟩ | ⟨ev, ea⟩ | ⟨X, h1, E', C', ev, ea, r1, r2, le, gg⟩
  · rw [ea, pre _ _ ev]
    simp only [X8_moves_18, X8_moves_19, X8_moves_22, X8_moves_23, X8_moves_26, X8_moves_30, X8_moves_33, X8_moves_34, X8_moves_35 (ev8_refuse hR (v := -1) (r := 1) (by decide) (by decide) rfl) hR.ob, X8_moves_38, iOb_some, iClr_i, iClr_r, iClr_n, iClr_u, iClr_l, rf_s, rf_n, iB_0, iSum_nil, if_neg (by decide : ¬ (-1 : Int32) = 0)]
    exact c8_end hR (by decide)
  · rw [ea, pre _ _ ev]
    simp only [X8_moves_18, X8_moves_19, X8_moves_22, X8_moves_23, X8_moves_26, X8_moves_30, X8_moves_33, X8_moves_34, X8_moves_35 (ev8_refuse hR (v := -6) (r := 6) (by decide) (by decide) rfl) hR.ob, X8_moves_38, iOb_some, iClr_i, iClr_r, iClr_n, iClr_u, iClr_l, rf_s, rf_n, iB_0, iSum_nil, if_neg (by decide : ¬ (-6 : Int32) = 0)]
    exact c8_end hR (by decide)
  · rw [ea, pre _ _ ev]
    have ec := ev_dcount r1.2.1 le (fun j hj => by
      obtain ⟨x, x1, x2, -⟩ := r2 j hj
      exact ⟨x, x1, x2⟩) 3
    simp only [X8_moves_18, X8_moves_19, X8_moves_22, X8_moves_23, X8_moves_26, X8_moves_27 ec r1.2.1.o, X8_moves_30, X8_moves_33, X8_moves_34, X8_moves_38, iOb_some, iClr_i, iClr_r, iClr_n, iClr_u, iClr_l, rf_s, rf_n, iB_0, iSum_nil, if_true, r1.g3]
    exact gr_fin gg ⟨sN, im, RR, sh, rf, _, _, E', C', Ts, Ps, r1⟩ (by omega) (by omega)
end DRAFTCL

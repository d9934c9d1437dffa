/-! rebase: the class -/
section REBCL
variable {E0 : Nat → Option Nat} {C0 : Nat → Int32} {h h1 b : iHp} {o sN n k i j l x m a c p q r t u : Nat} {im : Option Nat} {R E T P : Nat → Option Nat} {sh rf C C2 : Nat → Int32} {W : wW} {G : Nat → Nat → Int32} {e : Nat → Int32} {Z : pP} {U V : tT} {S : rbX}
abbrev rbH (b : iHp) (o t : Nat) (U : tT) (S : rbX) (E : Nat → Option Nat) (C : Nat → Int32) : iHp := drH (trT b t U) (o + 4) S.2.1 S.2.2.2.1 E C
def rbC (h : iHp) (o sN : Nat) (S : rbX) (i : Nat) (b : iHp) (U : tT) (E : Nat → Option Nat) (C : Nat → Int32) : Prop := (∀ q, q < h.2.1 → b.1 q = h.1 q) ∧ (h.2.1 + 4 ≤ b.2.1 ∧ b.2.1 ≤ h.2.1 + 4 + i ∧ h.2.2 ≤ b.2.2 ∧ b.2.2 ≤ h.2.2 + 244 + 7 * i) ∧ tEq U S.1 ∧ (∀ j, j < S.2.1 → ∃ x, E j = some x ∧ edAt b x (S.2.2.1 j) ∧ oc b o sN x ∧ (x < h.2.1 ∨ h.2.1 + 4 ≤ x)) ∧ ∀ j, j < 2 * S.2.2.2.1 → C j = S.2.2.2.2 j
theorem rbC.ag (hI : rbC h o sN S i b U E C) : agt h (rbH b o h.2.1 U S E C) o sN sN := fun q hq => ⟨⟨hq.1, by show q < b.2.1; have := hq.2.1; have := hI.2.1; omega, hq.2.2⟩, (drH_off (by have := hq.1; omega)).trans ((trH_off (Or.inl hq.2.1)).trans (hI.1 q hq.2.1))⟩
theorem rbC.re (hI : rbC h o sN S i b U E C) (hO : rbO S i) (hi : i ≤ 120) (hR : cRe h o sN im R sh rf n k E0 C0 T P W) : cRe (rbH b o h.2.1 U S E C) o sN im R sh rf S.2.1 S.2.2.2.1 E C T P W := by
  have h2 := hO.2.1
  have h3 := hO.2.2
  have h4 := hI.2.1
  exact (hR.grow (h' := trT b h.2.1 U) (fun q hq => (trH_off (Or.inl hq)).trans (hI.1 q hq)) (by show h.2.1 ≤ b.2.1; omega)).setD (by omega) (by omega)
theorem rbC.gr (hI : rbC h o sN S i b U E C) (hl : o + 38 ≤ h.2.1) : gr h (rbH b o h.2.1 U S E C) o sN (4 + i) (244 + 7 * i) := by
  have h4 := hI.2.1
  refine ⟨fun q hq => ?_, hI.ag, ?_, ?_, ?_, ?_⟩
  · exact (drH_off (by omega)).trans ((trH_off (Or.inl (by omega))).trans (hI.1 q (by omega)))
  · show h.2.1 ≤ b.2.1
    omega
  · show b.2.1 ≤ _
    omega
  · show h.2.2 ≤ b.2.2
    omega
  · show b.2.2 ≤ _
    omega
theorem rbC.ded (hI : rbC h o sN S i b U E C) : dEd (rbH b o h.2.1 U S E C) o sN S.2.1 E S.2.2.1 := fun j hj => by
  obtain ⟨x, x1, x2, x3, x4⟩ := hI.2.2.2.1 j hj
  exact ⟨x, x1, (drH_off (by have := x3.1; omega)).trans ((trH_off x4).trans x2), x3.1, x3.2.1, x3.2.2⟩
theorem oc.eNew (hq : oc b o sN q) : oc (eNew b e) o sN q := ⟨hq.1, Nat.lt_succ_of_lt hq.2.1, hq.2.2⟩
theorem reb_step (hl : o + 38 ≤ h.2.1) (hs : sN + 3 ≤ h.2.1) (hI : rbC h o sN S i b U E C) (hO : rbO S i) (hi : i < 120) (he : eOk e) (hx : edAt h x e) (ox : oc h o sN x) : ∃ b' U' E' C', iEv mX1_addRebased [.ref (o + 4), .ref x, .int (nI i), .ref h.2.1] (rbH b o h.2.1 U S E C) none (rbH b' o h.2.1 U' (rbS e i S) E' C') ∧ rbC h o sN (rbS e i S) (i + 1) b' U' E' C' := by
  have hag := hI.ag
  obtain ⟨i1, i2, i3, i4, i5⟩ := id hI
  have hUk := i3.symm.ok hO.1
  have h80 : U.1 ≤ 80 := by have := hUk.1.le; omega
  have hfc := fate_congr (e := e) i3 hUk
  have hoc := oFit_congr (e := e) i3 hUk
  have h2 := hO.2.1
  have h3 := hO.2.2
  have hxb : edAt b x e := (i1 x ox.2.1).trans hx
  have hE1 : edAt (rbH b o h.2.1 U S E C) x e := (hag x ox).2.trans hx
  have hT1 : trAt (rbH b o h.2.1 U S E C) h.2.1 U.1 U.2.1 U.2.2.1 U.2.2.2 := by
    show trAt (drH (trT b h.2.1 U) (o + 4) S.2.1 S.2.2.2.1 E C) h.2.1 U.1 U.2.1 U.2.2.1 U.2.2.2
    rw [drH_trH (by omega)]
    exact trH_tr h80
  have ho := ev_over hE1 hT1
  rw [show oFate e U.1 U.2.1 U.2.2.1 U.2.2.2 = fateT e S.1 from hfc] at ho
  by_cases c0 : fateT e S.1 = 0
  · have hU : fateT e U = 0 := hfc.trans c0
    obtain ⟨n1, K, B, D⟩ := U
    have hp : ∀ i g, i < n1 → g < n1 → ¬ eLast n1 D i g < 0 := by
      obtain ⟨hK, d, hd, h5⟩ := id hUk
      exact fun i g hi hg => eLast_pos h5 hd hK.le hi hg
    obtain ⟨k1, k2, k3, k5, k4, k6, -⟩ := id he
    obtain ⟨d1, d2⟩ := ev_dar0 (b := b) (d := o + 4) (t := h.2.1) (n := S.2.1) (c := S.2.2.2.1) (E := E) (C := C) (T := (n1, K, B, D)) (by omega) (by omega) (by omega) (by omega) h80 hxb (Or.inr (by have := ox.1; omega)) (Or.inl ox.2.1) k4 k6 hp hU (nI i)
    rw [rbS_0 c0]
    refine ⟨_, _, _, C, d1, ?_⟩
    obtain ⟨-, g2⟩ := oFit_ok hUk he hU
    have hpc := perf_congr i3 hUk g2
    rw [hoc] at hpc
    rw [hoc]
    unfold oNewB oNewX
    rw [hoc]
    by_cases c1 : e 0 = 0
    · rw [if_pos c1, if_pos c1]
      refine ⟨i1, by omega, hpc, fun j hj => ?_, i5⟩
      dsimp only [va_up]
      by_cases cj : j = S.2.1
      · rw [if_pos cj, if_pos cj]
        refine ⟨x, rfl, ?_, ⟨ox.1, by have := ox.2.1; omega, ox.2.2⟩, Or.inl ox.2.1⟩
        rw [show oFit e S.1 = e from if_pos c1]
        exact hxb
      · rw [if_neg cj, if_neg cj]
        exact i4 j (by have hj : j < S.2.1 + 1 := hj; omega)
    · rw [if_neg c1, if_neg c1]
      refine ⟨fun q hq => (iNew_off (by omega)).trans (i1 q hq), ?_, hpc, fun j hj => ?_, i5⟩
      · show h.2.1 + 4 ≤ b.2.1 + 1 ∧ b.2.1 + 1 ≤ _ ∧ h.2.2 ≤ b.2.2 + 7 ∧ b.2.2 + 7 ≤ _
        omega
      · dsimp only [va_up]
        by_cases cj : j = S.2.1
        · rw [if_pos cj, if_pos cj]
          exact ⟨_, rfl, eNew_at, ⟨by omega, Nat.lt_succ_self _, by omega⟩, Or.inr (by omega)⟩
        · rw [if_neg cj, if_neg cj]
          obtain ⟨y, y1, y2, y3, y4⟩ := i4 j (by have hj : j < S.2.1 + 1 := hj; omega)
          exact ⟨y, y1, (iNew_off (by have := y3.2.1; omega)).trans y2, y3.eNew, y4⟩
  · by_cases c1 : fateT e S.1 = -1
    · rw [c1] at ho
      rw [rbS_m c1]
      exact ⟨b, U, E, C, ev_darL ho hE1.o (nI i), i1, by omega, i3, i4, i5⟩
    · rw [rbS_c c0 c1]
      refine ⟨b, U, E, _, ev_darC (by omega) (by omega) ho hE1.o c0 c1 (nI i), i1, by omega, i3, i4, fun j hj => ?_⟩
      have hj : j < 2 * (S.2.2.2.1 + 1) := hj
      show upd (upd C (2 * S.2.2.2.1) (nI i)) (2 * S.2.2.2.1 + 1) (fateT e S.1) j = upd (upd S.2.2.2.2 (2 * S.2.2.2.1) (nI i)) (2 * S.2.2.2.1 + 1) (fateT e S.1) j
      unfold upd
      by_cases cj : j = 2 * S.2.2.2.1 + 1
      · rw [if_pos cj, if_pos cj]
      · rw [if_neg cj, if_neg cj]
        by_cases ck : j = 2 * S.2.2.2.1
        · rw [if_pos ck, if_pos ck]
        · rw [if_neg ck, if_neg ck]
          exact i5 j (by omega)
theorem rebase_loop (hR : cRe h o sN im R sh rf n k E0 C0 T P W) (hB : bPt h o sN a Z) (h12 : Z.1 ≤ 120) (he : ∀ i, i < Z.1 → eOk (Z.2.2.2.2.2.1 i)) {y z : Int32} {v : Value} {Q : Option Value → iHp → Prop} : ∀ k i b U S E C w, i + k = Z.1 → rbO S i → rbC h o sN S i b U E C → (∀ b U E C w, rbC h o sN (rbT Z.2.2.2.2.2.1 k i S) Z.1 b U E C → iWp 7 mX8_rebase 90 [.ref o, .int y, .int z, .ref a, v, .ref h.2.1, .int (nI Z.1), w] [] (rbH b o h.2.1 U (rbT Z.2.2.2.2.2.1 k i S) E C) Q) → iWp 7 mX8_rebase 49 [.ref o, .int y, .int z, .ref a, v, .ref h.2.1, .int (nI i), w] [] (rbH b o h.2.1 U S E C) Q := by
  have hlo := hR.lo
  have hsn := hR.sNh
  intro k
  induction k with
  | zero =>
    intro i b U S E C w hi hO hI hQ
    obtain rfl : i = Z.1 := by omega
    obtain ⟨EP, CP, hP, hG, -⟩ := (hI.ag.pt hB).pt
    rw [X8_rebase_49]
    simp only [X8_rebase_51, X8_rebase_51n, X8_rebase_52 (ev_psize hP) hP.o, X8_rebase_55, iOb_some, iClr_i, iClr_r, iClr_n, iClr_u, iClr_l, rf_s, rf_n, iB_0, iSum_nil, if_pos (Int32.le_refl (nI Z.1))]
    exact hQ b U E C w hI
  | succ k ih =>
    intro i b U S E C w hi hO hI hQ
    have hi' : i < Z.1 := by omega
    obtain ⟨⟨EP, CP, hP, hG, -⟩, oo⟩ := hB
    have ag := hI.ag
    have pt1 : ptAt (rbH b o h.2.1 U S E C) a Z.1 Z.2.1 Z.2.2.1 Z.2.2.2.1 Z.2.2.2.2.1 EP CP := ⟨(ag _ (oo 0 (by decide))).2.trans hP.1, (ag _ (oo 1 (by decide))).2.trans hP.2.1, (ag _ (oo 2 (by decide))).2.trans hP.2.2.1, hP.2.2.2⟩
    obtain ⟨x, x1, x2, x3⟩ := hG i hi'
    obtain ⟨b', U', E', C', d1, d2⟩ := reb_step hlo hsn hI hO (by omega) (he i hi') x2 x3
    have hRc := hI.re hO (by omega) hR
    rw [X8_rebase_49]
    simp only [X8_rebase_51, X8_rebase_51n, X8_rebase_52 (ev_psize pt1) pt1.o, X8_rebase_55, X8_rebase_58, X8_rebase_58n, X8_rebase_59, X8_rebase_61 (ev_pedit pt1 hi' x1) pt1.o, X8_rebase_64, X8_rebase_64n, X8_rebase_66, X8_rebase_66n, X8_rebase_68, X8_rebase_68n, X8_rebase_71, X8_rebase_72, X8_rebase_75, X8_rebase_75n, X8_rebase_77, X8_rebase_79, X8_rebase_79n, X8_rebase_81 d1 hRc.2.1.o (cat_r x) (cat_r h.2.1), X8_rebase_84, X8_rebase_87, iOb_some, iClr_i, iClr_r, iClr_n, iClr_u, iClr_l, rf_s, rf_n, iB_0, iSum_nil, if_neg (nI_ge hi' (show Z.1 < 2 ^ 31 by omega)), hRc.g3, nI_1]
    exact ih (i + 1) b' U' (rbS (Z.2.2.2.2.2.1 i) i S) E' C' (.ref x) (by omega) (rbO_step hO (he i hi')) d2 hQ
theorem c8_rebase (hR : cRep h o W) (hW : wOk W) (p t : Int32) : ∃ r h1, iEv mX8_rebase [.ref o, .int p, .int t] h r h1 ∧ c8P h o (aRebase W p t) r h1 := by
  obtain ⟨sN, im, R, sh, rf, n, k, E, C, T, P, hR⟩ := hR
  refine I8_rebase ?_
  unfold aRebase
  have hn : W.1.2.2.1 < 2 ^ 31 := by have := hW.1.2.1; omega
  have hn2 : W.1.1 < 2 ^ 31 := by have := hW.1.1; omega
  have r1 := ev8_refuse hR (v := -1) (r := 1) (by decide) (by decide) rfl
  rcases iIx_cases p hn with ⟨e, z⟩ | ⟨i, hi, rfl, e⟩
  · rw [e]
    rcases iIx_cases t hn2 with ⟨f, y⟩ | ⟨j, hj, rfl, f⟩
    · rw [f]
      simp only [X8_rebase_0, X8_rebase_1, X8_rebase_2 (c8_patchN hR z) hR.ob, X8_rebase_5, X8_rebase_5n, X8_rebase_6, X8_rebase_7, X8_rebase_8 (c8_treeN hR y) hR.ob, X8_rebase_11, X8_rebase_11n, X8_rebase_13, X8_rebase_13n, X8_rebase_14, X8_rebase_14n, X8_rebase_17, X8_rebase_17n, X8_rebase_19, X8_rebase_19n, X8_rebase_22, X8_rebase_23, X8_rebase_24 r1 hR.ob, X8_rebase_27, iOb_some, iClr_i, iClr_r, iClr_n, iClr_u, iClr_l, rf_s, rf_n, iB_0, iSum_nil]
      exact c8_end hR (by decide)
    · rw [f]
      obtain ⟨ta, K, B, D, f1, f2, f3, f4⟩ := c8_tree hR hj
      simp only [X8_rebase_0, X8_rebase_1, X8_rebase_2 (c8_patchN hR z) hR.ob, X8_rebase_5, X8_rebase_5n, X8_rebase_6, X8_rebase_7, X8_rebase_8 f1 hR.ob, X8_rebase_11, X8_rebase_11n, X8_rebase_13, X8_rebase_13n, X8_rebase_14, X8_rebase_14n, X8_rebase_17, X8_rebase_17n, X8_rebase_19, X8_rebase_19n, X8_rebase_22, X8_rebase_23, X8_rebase_24 r1 hR.ob, X8_rebase_27, iOb_some, iClr_i, iClr_r, iClr_n, iClr_u, iClr_l, rf_s, rf_n, iB_0, iSum_nil]
      exact c8_end hR (by decide)
  · rw [e]
    obtain ⟨pa, e1, hB⟩ := c8_patch hR hi
    rcases iIx_cases t hn2 with ⟨f, y⟩ | ⟨j, hj, rfl, f⟩
    · rw [f]
      simp only [X8_rebase_0, X8_rebase_1, X8_rebase_2 e1 hR.ob, X8_rebase_5, X8_rebase_5n, X8_rebase_6, X8_rebase_7, X8_rebase_8 (c8_treeN hR y) hR.ob, X8_rebase_11, X8_rebase_11n, X8_rebase_13, X8_rebase_13n, X8_rebase_14, X8_rebase_14n, X8_rebase_17, X8_rebase_17n, X8_rebase_19, X8_rebase_19n, X8_rebase_22, X8_rebase_23, X8_rebase_24 r1 hR.ob, X8_rebase_27, iOb_some, iClr_i, iClr_r, iClr_n, iClr_u, iClr_l, rf_s, rf_n, iB_0, iSum_nil]
      exact c8_end hR (by decide)
    · rw [f]
      obtain ⟨ta, K, B, D, f1, f2, f3, f4⟩ := c8_tree hR hj
      obtain ⟨h1, t1, t2, t3, t4⟩ := c8_copyT hR f2 f4
      dsimp only
      have hO := hW.1.2.2.2 i hi
      have hT := hW.1.2.2.1 j hj
      generalize W.1.2.2.2.1 i = Z at hB hO ⊢
      have hcE := (cpyOf_eq f2).trans f3
      generalize (W.1.2.1 j).1 = m at f2 t1 t2 hcE
      generalize W.1.2.1 j = V at hT hcE ⊢
      have n1 : h1.2.1 = h.2.1 + 4 := congrArg Prod.fst t4
      have n2 : h1.2.2 = h.2.2 + 244 := congrArg Prod.snd t4
      have hR1 := hR.grow t3 (by omega)
      obtain ⟨c1, r2⟩ := c8_clear hR1
      have hO0 : rbO (V, 0, fun _ _ => 0, 0, fun _ => 0) 0 := ⟨hT, Nat.le_refl 0, Nat.le_refl 0⟩
      have hI0 : rbC h o sN (V, 0, fun _ _ => 0, 0, fun _ => 0) 0 h1 (m, cpyOf K, cpyOf B, cpyOf D) E C := ⟨t3, by omega, hcE, fun j hj => absurd hj (Nat.not_lt_zero j), fun j hj => absurd hj (Nat.not_lt_zero j)⟩
      have hL := rebase_loop (y := nI i) (z := nI j) (v := .ref ta) (Q := c8P h o (aNew W (rbZ Z V).2.1 (rbZ Z V).2.2.2.1 3 (nI i) (rbZ Z V).2.2.1 (rbZ Z V).2.2.2.2)) hR hB hO.1 hO.2.2.1 Z.1 0 h1 _ _ E C iU (Nat.zero_add _) hO0 hI0 (fun b U E' C' w hI => by
        have h12 := hO.1
        have hO1 := rbO_run (G := Z.2.2.2.2.2.1) hO.2.2.1 Z.1 0 _ (Nat.zero_add _) hO0
        have b1 := hO1.2.1
        have b2 := hO1.2.2
        have r3 := hI.re hO1 (by omega) hR
        have g3 := hI.gr hR.lo
        have d3 := hI.ded
        obtain ⟨h4, c4, r4, f4, q1, q2, q3, q4⟩ := ev8_keep (C2 := (rbZ Z V).2.2.2.2) r3 hW (by omega) (fun _ => d3) hI.2.2.2.2 3 (nI i)
        simp only [X8_rebase_90, X8_rebase_91, X8_rebase_92, X8_rebase_93 c4 r3.ob, X8_rebase_96, iOb_some, iClr_i, iClr_r, iClr_n, iClr_u, iClr_l, rf_s, rf_n, iB_0, iSum_nil]
        exact k8_fin g3 r4 f4 q1 q2 q3 q4 (by omega) (by omega))
      have e0 : rbH h1 o h.2.1 (m, cpyOf K, cpyOf B, cpyOf D) (V, 0, fun _ _ => 0, 0, fun _ => 0) E C = drH h1 (o + 4) 0 0 E C := by
        show drH (trT h1 h.2.1 (m, cpyOf K, cpyOf B, cpyOf D)) (o + 4) 0 0 E C = _
        rw [t2]
      rw [e0] at hL
      simp only [X8_rebase_0, X8_rebase_1, X8_rebase_2 e1 hR.ob, X8_rebase_5, X8_rebase_5n, X8_rebase_6, X8_rebase_7, X8_rebase_8 f1 hR.ob, X8_rebase_11, X8_rebase_11n, X8_rebase_13, X8_rebase_13n, X8_rebase_14, X8_rebase_14n, X8_rebase_17, X8_rebase_17n, X8_rebase_19, X8_rebase_19n, X8_rebase_22, X8_rebase_23, X8_rebase_27, X8_rebase_28, X8_rebase_31, X8_rebase_32, X8_rebase_32n, X8_rebase_34 t1 (cat_r ta), X8_rebase_37, X8_rebase_37n, X8_rebase_39, X8_rebase_40, X8_rebase_43 c1 hR1.2.1.o, X8_rebase_46, X8_rebase_47, iOb_some, iClr_i, iClr_r, iClr_n, iClr_u, iClr_l, rf_s, rf_n, iB_0, iSum_nil, hR1.g3]
      exact hL
end REBCL

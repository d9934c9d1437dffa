/-! the reference's does: what the class's performing does, if it FITS; trees stay as they should be -/
/-- a key -/
def kEy (x : Int32) : Prop := ∃ k : Nat, x = nI k ∧ 1 ≤ k ∧ k ≤ 60
/-- an edit as it should be -/
def eOk (e : Nat → Int32) : Prop := kEy (e 1) ∧ (e 0 = 0 ∨ e 0 = 1 ∨ e 0 = 2 ∨ e 0 = 3) ∧ (e 0 ≠ 0 → kEy (e 3)) ∧ (e 0 = 3 → kEy (e 5)) ∧ ¬ e 4 < 0 ∧ ¬ e 6 < 0 ∧ (e 0 = 0 → e 4 = 0 ∧ e 5 = 0 ∧ e 6 = 0) ∧ (e 0 = 1 ∨ e 0 = 2 → e 5 = 0 ∧ e 6 = 0) ∧ (e 0 = 3 → e 2 = 0)
def doT (e : Nat → Int32) (T : tT) : tT := if fitT e T = true then ePerf e T else T
section DOES9
variable {b : iHp} {x n a r i : Nat} {s : mS} {K B D C E F : Nat → Int32} {e : Nat → Int32} {T : tT} {d : Nat → Nat}
theorem kEy.ne (h : kEy (e 3)) : e 3 ≠ 0 := by
  obtain ⟨k, e1, e2, e3⟩ := h
  rw [e1]
  exact nI_ne0 (by omega) (by omega)
theorem doT_t (h : fitT e T = true) : doT e T = ePerf e T := if_pos h
theorem doT_f (h : fitT e T = false) : doT e T = T := if_neg (by rw [h]; exact Bool.false_ne_true)
theorem tSh1_tO1 {q : Nat} (hq : q < n - 1) : tSh K i 1 (n - 1) q = tO1 K n i q := by
  rw [tO1_at hq]
  unfold tSh
  by_cases c : q < i
  · rw [if_pos c, if_neg (by omega)]
  · rw [if_neg c, if_pos (by omega)]
theorem tPt1_tI1 {c q : Nat} {v : Int32} (hc : c ≤ n) (hq : q < n + 1) (hv : C 0 = v) : tPt (tUp K 1 n c) C c 1 q = tI1 K n c v q := by
  rw [tI1_at (by omega)]
  unfold tPt tUp
  by_cases c1 : q < c
  · rw [if_pos c1, if_neg (by omega), if_neg (by omega)]
  · rw [if_neg c1]
    by_cases c2 : q = c
    · rw [if_pos c2, if_pos (by omega), c2, Nat.sub_self]
      exact hv
    · rw [if_neg c2, if_neg (by omega), if_pos (by omega)]
theorem ev9_does (hT : tOk T) (hin : inAt b x s r a e) : ∃ (T' : tT) (C' E' F' : Nat → Int32), iEv mX9_does [.ref x, .ref r, .int (nI a)] (mH b x (wS s T.1 T.2.1 T.2.2.1 T.2.2.2 C E F)) (some (.int (iB (fitT e T)))) (mH b x (wS s T'.1 T'.2.1 T'.2.2.1 T'.2.2.2 C' E' F')) ∧ tEq T' (doT e T) := by
  obtain ⟨n, K, B, D⟩ := T
  obtain ⟨hK, d, hd, h⟩ := hT
  dsimp only at hK hd h ⊢
  have hn := hK.le
  have hp : ∀ i, i < n → i ≠ 0 → tPar D i ≠ none := fun i hi h0 => h.par' hd hi h0
  by_cases c0 : e 0 = 0
  · have u : fitT e (n, K, B, D) = (match tWhere K n (e 1) with
      | none => false
      | some i => decide (B i = e 2)) := if_pos c0
    cases hf : fitT e (n, K, B, D) with
    | true =>
      rw [doT_t hf]
      rw [u] at hf
      cases hw : tWhere K n (e 1) with
      | none => rw [hw] at hf; cases hf
      | some i =>
        rw [hw] at hf
        refine ⟨(n, K, upd B i (e 3), D), C, E, F, does_N hin (by omega) c0 hw (of_decide_eq_true hf), ?_⟩
        unfold ePerf
        dsimp only
        rw [if_pos c0, hw]
        exact tEq.refl
    | false =>
      rw [doT_f hf]
      refine ⟨(n, K, B, D), C, E, F, does_N0 hin (by omega) c0 (fun i hw hB => ?_), tEq.refl⟩
      rw [u, hw] at hf
      exact absurd hB (of_decide_eq_false hf)
  · by_cases c1 : e 0 = 1
    · have u : fitT e (n, K, B, D) = eFitT e n K B D (tWhere K n (e 1)) := (if_neg c0).trans (if_pos c1)
      cases hf : fitT e (n, K, B, D) with
      | true =>
        rw [doT_t hf]
        rw [u] at hf
        cases hw : tWhere K n (e 1) with
        | none => rw [hw] at hf; cases hf
        | some i =>
          rw [hw] at hf
          have hi := (tWhere_lt hw).1
          refine ⟨(n - 1, tSh K i 1 (n - 1), tSh B i 1 (n - 1), tSh D i 1 (n - 1)), _, _, _, does_T hin (by omega) c1 hw (hp i hi) hf, ?_⟩
          unfold ePerf
          dsimp only
          rw [if_neg c0, if_pos c1, hw]
          exact ⟨rfl, fun q hq => ⟨tSh1_tO1 hq, tSh1_tO1 hq, tSh1_tO1 hq⟩⟩
      | false =>
        rw [doT_f hf]
        rw [u] at hf
        exact ⟨(n, K, B, D), C, E, F, does_T0 hin (by omega) c1 hp hf, tEq.refl⟩
    · by_cases c2 : e 0 = 2
      · have u : fitT e (n, K, B, D) = eFitG e n K D (tWhere K n (e 1)) (tWhere K n (e 3)) := (if_neg c0).trans ((if_neg c1).trans (if_pos c2))
        cases hf : fitT e (n, K, B, D) with
        | true =>
          rw [doT_t hf]
          rw [u] at hf
          cases hg : tWhere K n (e 3) with
          | none => rw [hg] at hf; cases hf
          | some g =>
            rw [hg] at hf
            have hgn := (tWhere_lt hg).1
            obtain ⟨pl, c, f1, f2, f3, f4, f5, f6⟩ := fitG_n hK hd h hgn hf
            have z := does_G (C := C) (E := E) (F := F) (B := B) hin (by omega) c2 f1 hg f2 f3
            rw [f5] at z
            refine ⟨(n + 1, _, _, _), _, _, _, z, ?_⟩
            unfold ePerf
            dsimp only
            rw [if_neg c0, if_neg c1, if_pos c2, hg]
            dsimp only
            rw [f4]
            exact ⟨rfl, fun q hq => ⟨tPt1_tI1 f6.2.2.1 hq rfl, tPt1_tI1 f6.2.2.1 hq rfl, tPt1_tI1 (K := D) (C := fun r => upd F 0 0 r + (D g + 1)) (v := D g + 1) f6.2.2.1 hq (Int32.zero_add (D g + 1))⟩⟩
        | false =>
          rw [doT_f hf]
          rw [u] at hf
          refine ⟨(n, K, B, D), C, E, F, does_G0 hin (by omega) c2 ?_, tEq.refl⟩
          cases hg : tWhere K n (e 3) with
          | none => rfl
          | some g =>
            rw [hg] at hf
            have hf := of_decide_eq_false hf
            refine decide_eq_false (fun z => hf ⟨z.1, Int32.not_lt.mpr z.2.1, Int32.not_lt.mpr z.2.2, by omega⟩)
      · have u : fitT e (n, K, B, D) = eFitM e n K D (tWhere K n (e 1)) (tWhere K n (e 5)) := (if_neg c0).trans ((if_neg c1).trans (if_neg c2))
        have ew := f9_find (b := b) (x := x) (s := s) (K := K) (B := B) (D := D) (C := C) (E := E) (F := F) (n := n) (by omega) (e 1)
        have hent : ∀ (v : Bool) h1, iEv mX9_moves [.ref x, .ref r, .int (nI a), .int (oI (tWhere K n (e 1)))] (mH b x (wS s n K B D C E F)) (some (.int (iB v))) h1 → iEv mX9_does [.ref x, .ref r, .int (nI a)] (mH b x (wS s n K B D C E F)) (some (.int (iB v))) h1 := by
          intro v h1 em
          refine J9_does (cat_r r) ?_
          simp only [X9_does_0, X9_does_1, X9_does_1n, X9_does_2, X9_does_3, X9_does_4, X9_does_5, X9_does_6 ew mH_obj, X9_does_9, X9_does_10, X9_does_10n, X9_does_11, X9_does_12, iOb_some, iClr_i, iClr_r, iClr_n, iClr_u, iClr_l, rf_s, rf_n, iB_0, iSum_nil, hin.g1, hin.g0]
          rw [X9_does_13_d (i_sw3 c0 c1 c2)]
          simp only [X9_does_222, X9_does_223, X9_does_223n, X9_does_224, X9_does_225, X9_does_226 em mH_obj (cat_r r), X9_does_229, X9_does_229z, X9_does_229o, iOb_some, iClr_i, iClr_r, iClr_n, iClr_u, iClr_l, rf_s, rf_n, iB_0, iSum_nil, and_self]
        cases hf : fitT e (n, K, B, D) with
        | true =>
          rw [doT_t hf]
          rw [u] at hf
          cases hw : tWhere K n (e 1) with
          | none => rw [hw] at hf; cases hf
          | some i =>
            cases hg : tWhere K n (e 5) with
            | none => rw [hw, hg] at hf; cases hf
            | some g =>
              rw [hw, hg] at hf
              have hi := (tWhere_lt hw).1
              have hgn := (tWhere_lt hg).1
              obtain ⟨m, c, h0, hm0, him, hm, hgi, hc, eE, ⟨pl, p1, p30, p3⟩, hq⟩ := perfM_n hK hd h hi hgn hf
              obtain ⟨f1, f2, f3, f4, f5⟩ := of_decide_eq_true hf
              have ng : psI i m g < n - m := by
                unfold psI
                split <;> omega
              have shq : ∀ (X : Nat → Int32) q, q < n - m → tSh X i m (n - m) q = X (phI i m q) := by
                intro X q hq
                unfold tSh phI
                by_cases z : q < i
                · rw [if_pos z, if_neg (by omega)]
                · rw [if_neg z, if_pos (by omega)]
              have phg : phI i m (psI i m g) = g := phI_psI hgi
              have hKc : kOk (tSh K i m (n - m)) (n - m) := by
                refine ⟨fun q hq => ?_, fun q q' h1 h2 => ?_⟩
                · rw [shq K q hq]
                  exact hK.1 _ (by unfold phI; split <;> omega)
                · rw [shq K q (by omega), shq K q' h2]
                  refine hK.2 _ _ ?_ ?_
                  · unfold phI
                    split <;> split <;> omega
                  · unfold phI
                    split <;> omega
              have hg' : tWhere (tSh K i m (n - m)) (n - m) (e 5) = some (psI i m g) := tWhere_at hKc ng (by rw [shq K _ ng, phg]; exact (tWhere_lt hg).2)
              have hdc : dEq (tSh D i m (n - m)) (cutD d i m) (n - m) := by
                intro q hq
                rw [shq D q hq]
                have := hd (phI i m q) (by unfold phI; split <;> omega)
                unfold cutD
                unfold phI at this ⊢
                split
                · rename_i w
                  rw [if_pos w] at this
                  exact this
                · rename_i w
                  rw [if_neg w] at this
                  exact this
              have z := moves_1 (C := C) (E := E) (F := F) (B := B) hin (by omega) h0 hi hg (hp i hi) f1 f2 f3 p1 p30 (by rw [← p1]; exact Int32.not_lt.mp f5) (show tEnd D n i - i = m by omega) hg'
              rw [nChild_of hdc ng, p3, shq D _ ng, phg] at z
              refine ⟨(n - m + m, _, _, _), _, _, _, hent true _ (by rw [hw]; exact z), ?_⟩
              unfold ePerf
              dsimp only
              rw [if_neg c0, if_neg c1, if_neg c2, hw, hg]
              refine ⟨by show n - m + m = n; omega, fun q hqn => ?_⟩
              have hqn : q < n := by
                have : q < n - m + m := hqn
                omega
              obtain ⟨q1, q2, -⟩ := hq q hqn
              dsimp only
              rw [q1 K, q1 B, q2]
              exact ⟨nuM_ref him hc.2.2.1 hqn, nuM_ref him hc.2.2.1 hqn, nuM_refD him hc.2.2.1 hqn⟩
        | false =>
          rw [doT_f hf]
          rw [u] at hf
          refine ⟨(n, K, B, D), C, E, F, hent false _ (moves_0 hin (by omega) (fun i hw => (tWhere_lt hw).1) hp ?_), tEq.refl⟩
          cases hw : tWhere K n (e 1) with
          | none => rfl
          | some i =>
            cases hg : tWhere K n (e 5) with
            | none => rfl
            | some g =>
              rw [hw, hg] at hf
              have hf := of_decide_eq_false hf
              exact decide_eq_false (fun z => hf ⟨z.2.1, z.2.2.1, z.2.2.2.1, Int32.not_lt.mpr z.2.2.2.2.1, Int32.not_lt.mpr z.2.2.2.2.2⟩)
/-- a tree stays as it should be -/
theorem perf_ok (hT : tOk T) (he : eOk e) (hf : fitT e T = true) : tOk (ePerf e T) := by
  obtain ⟨n, K, B, D⟩ := T
  obtain ⟨hK, d, hd, h⟩ := hT
  dsimp only at hK hd h
  have hn := hK.le
  unfold ePerf
  dsimp only
  by_cases c0 : e 0 = 0
  · rw [if_pos c0]
    cases hw : tWhere K n (e 1) with
    | none => exact ⟨hK, d, hd, h⟩
    | some i => exact ⟨hK, d, hd, h⟩
  · rw [if_neg c0]
    by_cases c1 : e 0 = 1
    · have u : fitT e (n, K, B, D) = eFitT e n K B D (tWhere K n (e 1)) := (if_neg c0).trans (if_pos c1)
      rw [if_pos c1]
      rw [u] at hf
      cases hw : tWhere K n (e 1) with
      | none => exact ⟨hK, d, hd, h⟩
      | some i =>
        rw [hw] at hf
        have hi := (tWhere_lt hw).1
        obtain ⟨f1, f2, f3, f4⟩ := of_decide_eq_true hf
        have h0 : 0 < i := by
          rcases Nat.eq_zero_or_pos i with w | w
          · subst w
            exact absurd f3.symm (he.2.2.1 c0).ne
          · exact w
        rw [nKids_of hd hi] at f1
        have hm := (leaf_end h hi).mp f1
        have tf := (tk_facts h hi h0 hm).1
        have at1 : ∀ (X : Nat → Int32) q, q < n - 1 → tO1 X n i q = X (phI i 1 q) := by
          intro X q hq
          rw [tO1_at hq]
          unfold phI
          split <;> rfl
        refine ⟨⟨fun q hq => ?_, fun q q' h1 h2 => ?_⟩, cutD d i 1, fun q hq => ?_, tf⟩
        · show ∃ k, tO1 K n i q = _ ∧ _
          have hq : q < n - 1 := hq
          rw [at1 K q hq]
          exact hK.1 _ (by unfold phI; split <;> omega)
        · show tO1 K n i q ≠ tO1 K n i q'
          have h2 : q' < n - 1 := h2
          rw [at1 K q (by omega), at1 K q' h2]
          refine hK.2 _ _ ?_ ?_
          · unfold phI
            split <;> split <;> omega
          · unfold phI
            split <;> omega
        · show tO1 D n i q = _ ∧ _
          have hq : q < n - 1 := hq
          rw [at1 D q hq]
          have := hd (phI i 1 q) (by unfold phI; split <;> omega)
          unfold cutD
          unfold phI at this ⊢
          split
          · rename_i w
            rw [if_pos w] at this
            exact this
          · rename_i w
            rw [if_neg w] at this
            exact this
    · rw [if_neg c1]
      by_cases c2 : e 0 = 2
      · have u : fitT e (n, K, B, D) = eFitG e n K D (tWhere K n (e 1)) (tWhere K n (e 3)) := (if_neg c0).trans ((if_neg c1).trans (if_pos c2))
        rw [if_pos c2]
        rw [u] at hf
        cases hg : tWhere K n (e 3) with
        | none => exact ⟨hK, d, hd, h⟩
        | some g =>
          rw [hg] at hf
          have hgn := (tWhere_lt hg).1
          obtain ⟨pl, c, f1, f2, f3, f4, f5, f6⟩ := fitG_n hK hd h hgn hf
          have gf := (gv_facts h f6).1
          dsimp only
          rw [f4]
          have hcn : c ≤ n := f6.2.2.1
          have at1 : ∀ (X : Nat → Int32) (v : Int32) q, q < n + 1 → tI1 X n c v q = if q < c then X q else if q = c then v else X (q - 1) := fun X v q hq => tI1_at (by omega)
          refine ⟨⟨fun q hq => ?_, fun q q' h1 h2 => ?_⟩, putD d g c 1 (fun _ => 0), dOk.eq gf ?_ (fun q hq => ?_), gf⟩
          · show ∃ k, tI1 K n c (e 1) q = _ ∧ _
            have hq : q < n + 1 := hq
            rw [at1 K _ q hq]
            split
            · exact hK.1 q (by omega)
            · split
              · exact he.1
              · exact hK.1 (q - 1) (by omega)
          · show tI1 K n c (e 1) q ≠ tI1 K n c (e 1) q'
            have h2 : q' < n + 1 := h2
            rw [at1 K _ q (by omega), at1 K _ q' h2]
            split
            · split
              · exact hK.2 _ _ h1 (by omega)
              · split
                · exact tWhere_none f1 (by omega)
                · exact hK.2 _ _ (by omega) (by omega)
            · split
              · rw [if_neg (by omega), if_neg (by omega)]
                exact (tWhere_none f1 (by omega)).symm
              · rw [if_neg (by omega), if_neg (by omega)]
                exact hK.2 _ _ (by omega) (by omega)
          · refine kOk.le (K := tI1 K n c (e 1)) ⟨fun q hq => ?_, fun q q' h1 h2 => ?_⟩
            · rw [at1 K _ q hq]
              split
              · exact hK.1 q (by omega)
              · split
                · exact he.1
                · exact hK.1 (q - 1) (by omega)
            · rw [at1 K _ q (by omega), at1 K _ q' h2]
              split
              · split
                · exact hK.2 _ _ h1 (by omega)
                · split
                  · exact tWhere_none f1 (by omega)
                  · exact hK.2 _ _ (by omega) (by omega)
              · split
                · rw [if_neg (by omega), if_neg (by omega)]
                  exact (tWhere_none f1 (by omega)).symm
                · rw [if_neg (by omega), if_neg (by omega)]
                  exact hK.2 _ _ (by omega) (by omega)
          · have hq : q < n + 1 := hq
            show tI1 D n c (D g + 1) q = nI (putD d g c 1 (fun _ => 0) q)
            rw [at1 D _ q hq]
            unfold putD
            by_cases w : q < c
            · rw [if_pos w, if_pos w]
              exact (hd q (by omega)).1
            · rw [if_neg w, if_neg w]
              by_cases w2 : q = c
              · rw [if_pos w2, if_pos (by omega), (hd g hgn).1, nI_1]
                rfl
              · rw [if_neg w2, if_neg (by omega)]
                exact (hd (q - 1) (by omega)).1
      · have u : fitT e (n, K, B, D) = eFitM e n K D (tWhere K n (e 1)) (tWhere K n (e 5)) := (if_neg c0).trans ((if_neg c1).trans (if_neg c2))
        rw [if_neg c2]
        rw [u] at hf
        cases hw : tWhere K n (e 1) with
        | none => exact ⟨hK, d, hd, h⟩
        | some i =>
          cases hg : tWhere K n (e 5) with
          | none => exact ⟨hK, d, hd, h⟩
          | some g =>
            rw [hw, hg] at hf
            have hi := (tWhere_lt hw).1
            have hgn := (tWhere_lt hg).1
            obtain ⟨m, c, h0, hm0, him, hm, hgi, hc, eE, -, hq⟩ := perfM_n hK hd h hi hgn hf
            have mf := mv_facts h hi h0 hm hgn hgi hc
            refine ⟨⟨fun q hqn => ?_, fun q q' h1 h2 => ?_⟩, dMv d i m g c, dOk.eq mf.1 hn (fun q hqn => (hq q hqn).2.2), mf.1⟩
            · show ∃ k, tCarry K _ i _ q = _ ∧ _
              rw [(hq q hqn).1 K]
              exact hK.1 _ (nuM_lt him hc.2.2.1 hqn)
            · show tCarry K _ i _ q ≠ tCarry K _ i _ q'
              have h2 : q' < n := h2
              rw [(hq q (by omega)).1 K, (hq q' h2).1 K]
              intro z
              have := nuM_inj (hK.inj (nuM_lt him hc.2.2.1 (by omega)) (nuM_lt him hc.2.2.1 h2) z)
              omega
end DOES9

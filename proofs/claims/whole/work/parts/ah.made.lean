/-! the law's two objects made -/
def mS0 : mS := (fun k => if k = 10 then 1 else if k = 14 then -1 else 0, fun _ _ => 0, fun _ => 0)
def wTz : tT := (0, fun _ => 0, fun _ => 0, fun _ => 0)
def wPz : pP := (0, 0, 0, 0, 0, fun _ _ => 0, fun _ => 0)
def wWz : wW := ((0, fun _ => wTz, 0, fun _ => wPz, 1), none, fun _ => (none, -1), fun _ => 0, -1, 0)
/-- the reference's start, so many shelves said to be empty -/
def mZ (s : mS) (i : Nat) : Prop := s.1 = mS0.1 ∧ (∀ q, q ≠ 11 → s.2.1 q = fun _ => 0) ∧ ∀ j, j < i → s.2.1 11 j = -1
def c8Z (h h1 : iHp) (o : Nat) : Prop := (h1.2.1 = o + 10 ∧ h1.2.2 = h.2.2 + 433) ∧ (∀ q, q < o → h1.1 q = h.1 q) ∧ h1.1 o = some (.inr (8, [.ref (o + 1), .ref (o + 2), .ref (o + 3), .ref (o + 4), .ref (o + 7), .null, .int (-1), .int 0])) ∧ h1.1 (o + 1) = some (.inl (15, 8, .inr (.inr (.inr (.inr (fun _ => none)))))) ∧ (∃ f, h1.1 (o + 2) = some (.inl (0, 8, .inl f)) ∧ ∀ j, j < 8 → f j = -1) ∧ h1.1 (o + 3) = some (.inl (0, 8, .inl (fun _ => 0))) ∧ (∀ p, p < 3 → h1.1 (o + 4 + p) = some (drC (o + 4) 0 0 (fun _ => none) (fun _ => 0) p)) ∧ ∀ p, p < 3 → h1.1 (o + 7 + p) = some (stC (o + 7) 0 0 1 (fun _ => none) (fun _ => none) p)
section MADE
variable {h g b : iHp} {o x i j k n : Nat} {s s' : mS} {Q : Option Value → iHp → Prop} {cs : List iPC} {sl : Nat}
theorem iDefs8 : iDefs 8 = [.null, .null, .null, .null, .null, .null, .int 0, .int 0] := rfl
theorem nH_p8 {a0 a1 a2 a3 a4 a5 a6 a7 v : Value} (hk : k < 8) : iPut (nH h (.inr (8, [a0, a1, a2, a3, a4, a5, a6, a7]) :: cs) sl) h.2.1 8 k v = some (nH h (.inr (8, [a0, a1, a2, a3, a4, a5, a6, a7].set k v) :: cs) sl) := nH_put0 rfl hk
theorem i3c {P : Nat → Prop} (h0 : P 0) (h1 : P 1) (h2 : P 2) : ∀ p, p < 3 → P p := by
  intro p hp
  match p, hp with
  | 0, _ => exact h0
  | 1, _ => exact h1
  | 2, _ => exact h2
theorem shown_loop {c0 : List Value} (hl : c0[1]? = some (.ref (o + 2))) : ∀ k i f g, i + k = 8 → g.1 o = some (.inr (8, c0)) → g.1 (o + 2) = some (.inl (0, 8, .inl f)) → (∀ j, j < i → f j = -1) → (∀ g' f', g'.2 = g.2 → (∀ q, q ≠ o + 2 → g'.1 q = g.1 q) → g'.1 (o + 2) = some (.inl (0, 8, .inl f')) → (∀ j, j < 8 → f' j = -1) → Q none g') → iWp 2 mX8_init 68 [.ref o, .int (nI i)] [] g Q := by
  intro k
  induction k with
  | zero =>
    intro i f g hi ho hf hfj hQ
    obtain rfl : i = 8 := by omega
    rw [X8_init_68]
    simp only [X8_init_69, X8_init_71, X8_init_74, X8_init_75, X8_init_78, X8_init_79, X8_init_80, X8_init_81, X8_init_84, X8_init_87, iOb_some, iClr_i, iClr_r, iClr_n, iClr_u, iClr_l, rf_s, rf_n, iB_0, iSum_nil, if_pos (show (8 : Int32) ≤ nI 8 by decide)]
    exact hQ g f rfl (fun q _ => rfl) hf hfj
  | succ k ih =>
    intro i f g hi ho hf hfj hQ
    have hg : iGet g o 8 1 = some (.ref (o + 2)) := (iGet_of ho).trans hl
    rw [X8_init_68]
    simp only [X8_init_69, X8_init_71, X8_init_74, X8_init_75, X8_init_78, X8_init_79, X8_init_80, X8_init_81, X8_init_84, iOb_some, iClr_i, iClr_r, iClr_n, iClr_u, iClr_l, rf_s, rf_n, iB_0, iSum_nil, if_neg (show ¬ (8 : Int32) ≤ nI i from nI_ge (a := i) (b := 8) (by omega) (by decide)), hg, iStI_of hf (show i < 8 by omega) (by decide), nI_1]
    refine ih (i + 1) (upd f i (-1)) _ (by omega) ((if_neg (by omega)).trans ho) (if_pos rfl) (fun j hj => ?_) (fun g' f' n1 n2 n3 n4 => hQ g' f' n1 (fun q hq => (n2 q hq).trans (if_neg hq)) n3 n4)
    unfold upd
    by_cases cj : j = i
    · rw [if_pos cj]
    · rw [if_neg cj]
      exact hfj j (by omega)
theorem ev_x8init : ∃ h1, iEv mX8_init [.ref h.2.1] (iNewO h 8) none h1 ∧ c8Z h h1 h.2.1 := by
  have z : iWp 2 mX8_init 0 [.ref h.2.1, iU] [] (iNewO h 8) (fun v h1 => v = none ∧ c8Z h h1 h.2.1) := by
    have a1 {cs : List iPC} {sl : Nat} : iNewA (nH h cs sl) .int 8 = some (nH h (cs ++ [.inl (0, 8, .inl (fun _ => 0))]) (sl + 8)) := nH_ai (m := 8) (by decide)
    have a2 {cs : List iPC} {sl : Nat} : iNewQ (nH h cs sl) 5 8 = some (nH h (cs ++ [.inl (15, 8, .inr (.inr (.inr (.inr (fun _ => none)))))]) (sl + 8)) := nH_aq (m := 8) (ci := 5) (by decide) rfl
    rw [nH_o, iDefs8]
    simp only [X8_init_0, X8_init_1, X8_init_4, X8_init_5, X8_init_7, X8_init_10, X8_init_10n, X8_init_13, X8_init_14, X8_init_16, X8_init_18, X8_init_18n, X8_init_21, X8_init_22, X8_init_24, X8_init_26, X8_init_26n, X8_init_29, iOb_some, iClr_i, iClr_r, iClr_n, iClr_u, iClr_l, rf_s, rf_n, iB_0, iSum_nil, a1, a2, nH_next, List.length_cons, List.length_nil, List.length_append, List.cons_append, List.nil_append, nH_p8 (show 0 < 8 by decide), nH_p8 (show 1 < 8 by decide), nH_p8 (show 2 < 8 by decide), List.set_cons_zero, List.set_cons_succ]
    have ex : ∃ g : iHp, g = nH h [.inr (8, [.ref (h.2.1 + 1), .ref (h.2.1 + 2), .ref (h.2.1 + 3), .null, .null, .null, .int 0, .int 0]), .inl (15, 8, .inr (.inr (.inr (.inr (fun _ => none))))), .inl (0, 8, .inl (fun _ => 0)), .inl (0, 8, .inl (fun _ => 0))] (h.2.2 + 32) := ⟨_, rfl⟩
    obtain ⟨g, hg⟩ := ex
    have eg : nH h [.inr (8, [.ref (h.2.1 + (0 + 1)), .ref (h.2.1 + (0 + 1 + 1)), .ref (h.2.1 + (0 + 1 + 1 + 1)), .null, .null, .null, .int 0, .int 0]), .inl (15, 8, .inr (.inr (.inr (.inr (fun _ => none))))), .inl (0, 8, .inl (fun _ => 0)), .inl (0, 8, .inl (fun _ => 0))] (h.2.2 + iN 8 + 8 + 8 + 8) = g := by
      rw [hg]
      rfl
    rw [eg]
    have c0 : g.1 h.2.1 = some (.inr (8, [.ref (h.2.1 + 1), .ref (h.2.1 + 2), .ref (h.2.1 + 3), .null, .null, .null, .int 0, .int 0])) := by rw [hg]; exact nH_at (k := 0) (Nat.le_of_ble_eq_true rfl)
    have c1 : g.1 (h.2.1 + 1) = some (.inl (15, 8, .inr (.inr (.inr (.inr (fun _ => none)))))) := by rw [hg]; exact nH_at (k := 1) (Nat.le_of_ble_eq_true rfl)
    have c2 : g.1 (h.2.1 + 2) = some (.inl (0, 8, .inl (fun _ => 0))) := by rw [hg]; exact nH_at (k := 2) (Nat.le_of_ble_eq_true rfl)
    have c3 : g.1 (h.2.1 + 3) = some (.inl (0, 8, .inl (fun _ => 0))) := by rw [hg]; exact nH_at (k := 3) (Nat.le_of_ble_eq_true rfl)
    have goff : ∀ q, q < h.2.1 → g.1 q = h.1 q := fun q hq => by rw [hg]; exact nH_off hq
    have gn : g.2.1 = h.2.1 + 4 := by rw [hg]; rfl
    have gs : g.2.2 = h.2.2 + 32 := by rw [hg]; rfl
    clear hg eg
    have ed := ev_dinit (h := g)
    have dat : ∀ p, p < 3 → (nH g [drC g.2.1 0 0 (fun _ => none) (fun _ => 0) 0, drC g.2.1 0 0 (fun _ => none) (fun _ => 0) 1, drC g.2.1 0 0 (fun _ => none) (fun _ => 0) 2] (g.2.2 + 364)).1 (g.2.1 + p) = some (drC g.2.1 0 0 (fun _ => none) (fun _ => 0) p) := i3c (nH_at (k := 0) (Nat.le_of_ble_eq_true rfl)) (nH_at (k := 1) (Nat.le_of_ble_eq_true rfl)) (nH_at (k := 2) (Nat.le_of_ble_eq_true rfl))
    have doff : ∀ q, q < g.2.1 → (nH g [drC g.2.1 0 0 (fun _ => none) (fun _ => 0) 0, drC g.2.1 0 0 (fun _ => none) (fun _ => 0) 1, drC g.2.1 0 0 (fun _ => none) (fun _ => 0) 2] (g.2.2 + 364)).1 q = g.1 q := fun q hq => nH_off hq
    have dn : (nH g [drC g.2.1 0 0 (fun _ => none) (fun _ => 0) 0, drC g.2.1 0 0 (fun _ => none) (fun _ => 0) 1, drC g.2.1 0 0 (fun _ => none) (fun _ => 0) 2] (g.2.2 + 364)).2 = (g.2.1 + 3, g.2.2 + 364) := rfl
    generalize nH g [drC g.2.1 0 0 (fun _ => none) (fun _ => 0) 0, drC g.2.1 0 0 (fun _ => none) (fun _ => 0) 1, drC g.2.1 0 0 (fun _ => none) (fun _ => 0) 2] (g.2.2 + 364) = g2 at ed dat doff dn
    have d1 : g2.2.1 = h.2.1 + 7 := (congrArg Prod.fst dn).trans (by show g.2.1 + 3 = _; omega)
    have d2 : g2.2.2 = h.2.2 + 396 := (congrArg Prod.snd dn).trans (by show g.2.2 + 364 = _; omega)
    rw [gn] at dat doff
    have p3 : iPut g2 h.2.1 8 3 (.ref g.2.1) = some (iSet g2 h.2.1 (.inr (8, [.ref (h.2.1 + 1), .ref (h.2.1 + 2), .ref (h.2.1 + 3), .ref (h.2.1 + 4), .null, .null, .int 0, .int 0]))) := by
      rw [iPut_of ((doff _ (by omega)).trans c0) (Nat.le_of_ble_eq_true rfl), gn]
      rfl
    simp only [X8_init_30, X8_init_33, X8_init_34 ed, X8_init_37, X8_init_37n, X8_init_40, iOb_some, iClr_i, iClr_r, iClr_n, iClr_u, iClr_l, rf_s, rf_n, iB_0, iSum_nil, p3]
    have t0 : (iSet g2 h.2.1 (.inr (8, [.ref (h.2.1 + 1), .ref (h.2.1 + 2), .ref (h.2.1 + 3), .ref (h.2.1 + 4), .null, .null, .int 0, .int 0]))).1 h.2.1 = some (.inr (8, [.ref (h.2.1 + 1), .ref (h.2.1 + 2), .ref (h.2.1 + 3), .ref (h.2.1 + 4), .null, .null, .int 0, .int 0])) := if_pos rfl
    have toff : ∀ q, q ≠ h.2.1 → (iSet g2 h.2.1 (.inr (8, [.ref (h.2.1 + 1), .ref (h.2.1 + 2), .ref (h.2.1 + 3), .ref (h.2.1 + 4), .null, .null, .int 0, .int 0]))).1 q = g2.1 q := fun q hq => if_neg hq
    have tn : (iSet g2 h.2.1 (.inr (8, [.ref (h.2.1 + 1), .ref (h.2.1 + 2), .ref (h.2.1 + 3), .ref (h.2.1 + 4), .null, .null, .int 0, .int 0]))).2 = g2.2 := rfl
    generalize iSet g2 h.2.1 (.inr (8, [.ref (h.2.1 + 1), .ref (h.2.1 + 2), .ref (h.2.1 + 3), .ref (h.2.1 + 4), .null, .null, .int 0, .int 0])) = g3 at t0 toff tn ⊢
    have t1 : g3.2.1 = h.2.1 + 7 := (congrArg Prod.fst tn).trans d1
    have t2 : g3.2.2 = h.2.2 + 396 := (congrArg Prod.snd tn).trans d2
    have es := ev_sinit (h := g3)
    have sat : ∀ p, p < 3 → (nH g3 [stC g3.2.1 0 0 1 (fun _ => none) (fun _ => none) 0, stC g3.2.1 0 0 1 (fun _ => none) (fun _ => none) 1, stC g3.2.1 0 0 1 (fun _ => none) (fun _ => none) 2] (g3.2.2 + 37)).1 (g3.2.1 + p) = some (stC g3.2.1 0 0 1 (fun _ => none) (fun _ => none) p) := i3c (nH_at (k := 0) (Nat.le_of_ble_eq_true rfl)) (nH_at (k := 1) (Nat.le_of_ble_eq_true rfl)) (nH_at (k := 2) (Nat.le_of_ble_eq_true rfl))
    have soff : ∀ q, q < g3.2.1 → (nH g3 [stC g3.2.1 0 0 1 (fun _ => none) (fun _ => none) 0, stC g3.2.1 0 0 1 (fun _ => none) (fun _ => none) 1, stC g3.2.1 0 0 1 (fun _ => none) (fun _ => none) 2] (g3.2.2 + 37)).1 q = g3.1 q := fun q hq => nH_off hq
    have sn : (nH g3 [stC g3.2.1 0 0 1 (fun _ => none) (fun _ => none) 0, stC g3.2.1 0 0 1 (fun _ => none) (fun _ => none) 1, stC g3.2.1 0 0 1 (fun _ => none) (fun _ => none) 2] (g3.2.2 + 37)).2 = (g3.2.1 + 3, g3.2.2 + 37) := rfl
    generalize nH g3 [stC g3.2.1 0 0 1 (fun _ => none) (fun _ => none) 0, stC g3.2.1 0 0 1 (fun _ => none) (fun _ => none) 1, stC g3.2.1 0 0 1 (fun _ => none) (fun _ => none) 2] (g3.2.2 + 37) = g4 at es sat soff sn
    have s1 : g4.2.1 = h.2.1 + 10 := (congrArg Prod.fst sn).trans (by show g3.2.1 + 3 = _; omega)
    have s2 : g4.2.2 = h.2.2 + 433 := (congrArg Prod.snd sn).trans (by show g3.2.2 + 37 = _; omega)
    rw [t1] at sat soff
    have p4 : iPut g4 h.2.1 8 4 (.ref g3.2.1) = some (iSet g4 h.2.1 (.inr (8, [.ref (h.2.1 + 1), .ref (h.2.1 + 2), .ref (h.2.1 + 3), .ref (h.2.1 + 4), .ref (h.2.1 + 7), .null, .int 0, .int 0]))) := by
      rw [iPut_of ((soff _ (by omega)).trans t0) (Nat.le_of_ble_eq_true rfl), t1]
      rfl
    have ss : ∀ (c c' : iPC), iSet (iSet g4 h.2.1 c) h.2.1 c' = iSet g4 h.2.1 c' := fun c c' => by
      refine Prod.ext (funext fun q => ?_) rfl
      show (if q = h.2.1 then some c' else (if q = h.2.1 then some c else g4.1 q)) = (if q = h.2.1 then some c' else g4.1 q)
      by_cases e : q = h.2.1
      · rw [if_pos e, if_pos e]
      · rw [if_neg e, if_neg e, if_neg e]
    have pp : ∀ {a0 a1 a2 a3 a4 a5 a6 a7 v : Value} {kk : Nat}, kk < 8 → iPut (iSet g4 h.2.1 (.inr (8, [a0, a1, a2, a3, a4, a5, a6, a7]))) h.2.1 8 kk v = some (iSet g4 h.2.1 (.inr (8, [a0, a1, a2, a3, a4, a5, a6, a7].set kk v))) := fun hk => by
      rw [iPut_of (if_pos rfl) hk, ss]
    simp only [X8_init_41, X8_init_44, X8_init_45 es, X8_init_48, X8_init_48n, X8_init_51, X8_init_52, X8_init_53, X8_init_53n, X8_init_56, X8_init_57, X8_init_58, X8_init_61, X8_init_62, X8_init_63, X8_init_66, X8_init_67, iOb_some, iClr_i, iClr_r, iClr_n, iClr_u, iClr_l, rf_s, rf_n, iB_0, iSum_nil, p4, pp (show 5 < 8 by decide), pp (show 6 < 8 by decide), pp (show 7 < 8 by decide), List.set_cons_zero, List.set_cons_succ]
    have ne : ∀ p, h.2.1 + (p + 1) ≠ h.2.1 := fun p => by omega
    refine shown_loop (o := h.2.1) (c0 := [.ref (h.2.1 + 1), .ref (h.2.1 + 2), .ref (h.2.1 + 3), .ref (h.2.1 + 4), .ref (h.2.1 + 7), .null, .int (-1), .int 0]) rfl 8 0 (fun _ => 0) (iSet g4 h.2.1 (.inr (8, [.ref (h.2.1 + 1), .ref (h.2.1 + 2), .ref (h.2.1 + 3), .ref (h.2.1 + 4), .ref (h.2.1 + 7), .null, .int (-1), .int 0]))) (Nat.zero_add 8) (if_pos rfl) ((if_neg (ne 1)).trans ((soff _ (by omega)).trans ((toff _ (ne 1)).trans ((doff _ (by omega)).trans c2)))) (fun j hj => absurd hj (Nat.not_lt_zero j)) (fun g' f' n1 n2 n3 n4 => ⟨rfl, ⟨?_, ?_⟩, fun q hq => ?_, ?_, ?_, ⟨f', n3, n4⟩, ?_, fun p hp => ?_, fun p hp => ?_⟩)
    · exact (congrArg Prod.fst n1).trans s1
    · exact (congrArg Prod.snd n1).trans s2
    · exact (n2 q (by omega)).trans ((if_neg (by omega)).trans ((soff q (by omega)).trans ((toff q (by omega)).trans ((doff q (by omega)).trans (goff q hq)))))
    · exact (n2 _ (by omega)).trans (if_pos rfl)
    · exact (n2 _ (by omega)).trans ((if_neg (ne 0)).trans ((soff _ (by omega)).trans ((toff _ (ne 0)).trans ((doff _ (by omega)).trans c1))))
    · exact (n2 _ (by omega)).trans ((if_neg (ne 2)).trans ((soff _ (by omega)).trans ((toff _ (ne 2)).trans ((doff _ (by omega)).trans c3))))
    · exact (n2 _ (by omega)).trans ((if_neg (by omega)).trans ((soff _ (by omega)).trans ((toff _ (by omega)).trans (dat p hp))))
    · exact (n2 _ (by omega)).trans ((if_neg (by omega)).trans (sat p hp))
  obtain ⟨r, h1, e, rfl, g⟩ := I8_init z
  exact ⟨h1, e, g⟩
theorem nH_p41 {a0 a1 a2 a3 a4 a5 a6 a7 a8 a9 a10 a11 a12 a13 a14 a15 a16 a17 a18 a19 a20 a21 a22 a23 a24 a25 a26 a27 a28 a29 a30 a31 a32 a33 a34 a35 a36 a37 a38 a39 a40 v : Value} (hk : k < 41) : iPut (nH h (.inr (9, [a0, a1, a2, a3, a4, a5, a6, a7, a8, a9, a10, a11, a12, a13, a14, a15, a16, a17, a18, a19, a20, a21, a22, a23, a24, a25, a26, a27, a28, a29, a30, a31, a32, a33, a34, a35, a36, a37, a38, a39, a40]) :: cs) sl) h.2.1 9 k v = some (nH h (.inr (9, [a0, a1, a2, a3, a4, a5, a6, a7, a8, a9, a10, a11, a12, a13, a14, a15, a16, a17, a18, a19, a20, a21, a22, a23, a24, a25, a26, a27, a28, a29, a30, a31, a32, a33, a34, a35, a36, a37, a38, a39, a40].set k v) :: cs) sl) := nH_put0 rfl hk
theorem iDefs9 : iDefs 9 = [.int 0, .null, .null, .null, .null, .int 0, .int 0, .null, .null, .null, .int 0, .null, .null, .null, .int 0, .int 0, .int 0, .null, .int 0, .null, .null, .null, .null, .null, .null, .int 0, .null, .int 0, .null, .null, .int 0, .int 0, .null, .null, .null, .null, .int 0, .null, .null, .null, .int 0] := rfl
theorem mH_self (hc : ∀ p, p < 28 → g.1 (x + p) = some (mCell x s p)) : mH g x s = g := by
  refine Prod.ext (funext fun q => ?_) rfl
  show (if x ≤ q ∧ q < x + 28 then some (mCell x s (q - x)) else g.1 q) = g.1 q
  by_cases c : x ≤ q ∧ q < x + 28
  · rw [if_pos c, ← hc (q - x) (by omega)]
    exact congrArg g.1 (by omega)
  · rw [if_neg c]
theorem hold_loop : ∀ k i s, i + k = 8 → mZ s i → (∀ s', mZ s' 8 → Q none (mH g x s')) → iWp 1 mX9_init 245 [.ref x, .int (nI i)] [] (mH g x s) Q := by
  intro k
  induction k with
  | zero =>
    intro i s hi hz hQ
    obtain rfl : i = 8 := by omega
    rw [X9_init_245]
    simp only [X9_init_246, X9_init_248, X9_init_251, X9_init_252, X9_init_255, X9_init_256, X9_init_257, X9_init_258, X9_init_261, X9_init_264, iOb_some, iClr_i, iClr_r, iClr_n, iClr_u, iClr_l, rf_s, rf_n, iB_0, iSum_nil, if_pos (show (8 : Int32) ≤ nI 8 by decide)]
    exact hQ s hz
  | succ k ih =>
    intro i s hi hz hQ
    rw [X9_init_245]
    simp only [X9_init_246, X9_init_248, X9_init_251, X9_init_252, X9_init_255, X9_init_256, X9_init_257, X9_init_258, X9_init_261, iOb_some, iClr_i, iClr_r, iClr_n, iClr_u, iClr_l, rf_s, rf_n, iB_0, iSum_nil, if_neg (show ¬ (8 : Int32) ≤ nI i from nI_ge (a := i) (b := 8) (by omega) (by decide)), mg11, ms11 (show i < 8 by omega), nI_1]
    refine ih (i + 1) _ (by omega) ⟨hz.1, fun q hq => (if_neg hq).trans (hz.2.1 q hq), fun j hj => ?_⟩ hQ
    show va_up s.2.1 11 (upd (s.2.1 11) i (-1)) 11 j = -1
    rw [m_us]
    unfold upd
    by_cases cj : j = i
    · rw [if_pos cj]
    · rw [if_neg cj]
      exact hz.2.2 j (by omega)
theorem ev_x9init : ∃ h1, iEv mX9_init [.ref h.2.1] (iNewO h 9) none h1 ∧ (∃ s, mH h1 h.2.1 s = h1 ∧ mZ s 8) ∧ (∀ q, q < h.2.1 → h1.1 q = h.1 q) ∧ h1.2.1 = h.2.1 + 28 ∧ h1.2.2 = h.2.2 + 44343 := by
  have z : iWp 1 mX9_init 0 [.ref h.2.1, iU] [] (iNewO h 9) (fun v h1 => v = none ∧ (∃ s, mH h1 h.2.1 s = h1 ∧ mZ s 8) ∧ (∀ q, q < h.2.1 → h1.1 q = h.1 q) ∧ h1.2.1 = h.2.1 + 28 ∧ h1.2.2 = h.2.2 + 44343) := by
    have a8 {cs : List iPC} {sl : Nat} : iNewA (nH h cs sl) .int 8 = some (nH h (cs ++ [.inl (0, 8, .inl (fun _ => 0))]) (sl + 8)) := nH_ai (m := 8) (by decide)
    have a16 {cs : List iPC} {sl : Nat} : iNewA (nH h cs sl) .int 16 = some (nH h (cs ++ [.inl (0, 16, .inl (fun _ => 0))]) (sl + 16)) := nH_ai (m := 16) (by decide)
    have a66 {cs : List iPC} {sl : Nat} : iNewA (nH h cs sl) .int 66 = some (nH h (cs ++ [.inl (0, 66, .inl (fun _ => 0))]) (sl + 66)) := nH_ai (m := 66) (by decide)
    have a80 {cs : List iPC} {sl : Nat} : iNewA (nH h cs sl) .int 80 = some (nH h (cs ++ [.inl (0, 80, .inl (fun _ => 0))]) (sl + 80)) := nH_ai (m := 80) (by decide)
    have a240 {cs : List iPC} {sl : Nat} : iNewA (nH h cs sl) .int 240 = some (nH h (cs ++ [.inl (0, 240, .inl (fun _ => 0))]) (sl + 240)) := nH_ai (m := 240) (by decide)
    have a1024 {cs : List iPC} {sl : Nat} : iNewA (nH h cs sl) .int 1024 = some (nH h (cs ++ [.inl (0, 1024, .inl (fun _ => 0))]) (sl + 1024)) := nH_ai (m := 1024) (by decide)
    have a1400 {cs : List iPC} {sl : Nat} : iNewA (nH h cs sl) .int 1400 = some (nH h (cs ++ [.inl (0, 1400, .inl (fun _ => 0))]) (sl + 1400)) := nH_ai (m := 1400) (by decide)
    have a3840 {cs : List iPC} {sl : Nat} : iNewA (nH h cs sl) .int 3840 = some (nH h (cs ++ [.inl (0, 3840, .inl (fun _ => 0))]) (sl + 3840)) := nH_ai (m := 3840) (by decide)
    have a13440 {cs : List iPC} {sl : Nat} : iNewA (nH h cs sl) .int 13440 = some (nH h (cs ++ [.inl (0, 13440, .inl (fun _ => 0))]) (sl + 13440)) := nH_ai (m := 13440) (by decide)
    have al {cs : List iPC} {sl : Nat} : iNewA (nH h cs sl) .long 1280 = some (nH h (cs ++ [.inl (1, 1280, .inr (.inl (fun _ => 0)))]) (sl + 1280)) := nH_al (m := 1280) (by decide)
    rw [nH_o, iDefs9, show iN 9 = 41 from rfl]
    simp only [X9_init_0, X9_init_1, iOb_some, iClr_i, iClr_r, iClr_n, iClr_u, iClr_l, rf_s, rf_n, iB_0, iSum_nil]
    simp only [X9_init_4, X9_init_5, X9_init_7, X9_init_9, X9_init_9n, iOb_some, iClr_i, iClr_r, iClr_n, iClr_u, iClr_l, rf_s, rf_n, iB_0, iSum_nil, a16, nH_next, List.length_cons, List.length_nil, List.cons_append, List.nil_append, nH_p41 (show 1 < 41 by decide), List.set_cons_zero, List.set_cons_succ, Nat.reduceAdd, Nat.add_zero]
    simp only [X9_init_12, X9_init_13, X9_init_16, X9_init_18, X9_init_18n, iOb_some, iClr_i, iClr_r, iClr_n, iClr_u, iClr_l, rf_s, rf_n, iB_0, iSum_nil, a1024, nH_next, List.length_cons, List.length_nil, List.cons_append, List.nil_append, nH_p41 (show 2 < 41 by decide), List.set_cons_zero, List.set_cons_succ, Nat.reduceAdd, Nat.add_zero]
    simp only [X9_init_21, X9_init_22, X9_init_25, X9_init_27, X9_init_27n, iOb_some, iClr_i, iClr_r, iClr_n, iClr_u, iClr_l, rf_s, rf_n, iB_0, iSum_nil, a1024, nH_next, List.length_cons, List.length_nil, List.cons_append, List.nil_append, nH_p41 (show 3 < 41 by decide), List.set_cons_zero, List.set_cons_succ, Nat.reduceAdd, Nat.add_zero]
    simp only [X9_init_30, X9_init_31, X9_init_34, X9_init_36, X9_init_36n, iOb_some, iClr_i, iClr_r, iClr_n, iClr_u, iClr_l, rf_s, rf_n, iB_0, iSum_nil, a1024, nH_next, List.length_cons, List.length_nil, List.cons_append, List.nil_append, nH_p41 (show 4 < 41 by decide), List.set_cons_zero, List.set_cons_succ, Nat.reduceAdd, Nat.add_zero]
    simp only [X9_init_39, X9_init_40, X9_init_42, X9_init_44, X9_init_44n, iOb_some, iClr_i, iClr_r, iClr_n, iClr_u, iClr_l, rf_s, rf_n, iB_0, iSum_nil, a80, nH_next, List.length_cons, List.length_nil, List.cons_append, List.nil_append, nH_p41 (show 7 < 41 by decide), List.set_cons_zero, List.set_cons_succ, Nat.reduceAdd, Nat.add_zero]
    simp only [X9_init_47, X9_init_48, X9_init_51, X9_init_53, X9_init_53n, iOb_some, iClr_i, iClr_r, iClr_n, iClr_u, iClr_l, rf_s, rf_n, iB_0, iSum_nil, a13440, nH_next, List.length_cons, List.length_nil, List.cons_append, List.nil_append, nH_p41 (show 8 < 41 by decide), List.set_cons_zero, List.set_cons_succ, Nat.reduceAdd, Nat.add_zero]
    simp only [X9_init_56, X9_init_57, X9_init_60, X9_init_62, X9_init_62n, iOb_some, iClr_i, iClr_r, iClr_n, iClr_u, iClr_l, rf_s, rf_n, iB_0, iSum_nil, a3840, nH_next, List.length_cons, List.length_nil, List.cons_append, List.nil_append, nH_p41 (show 9 < 41 by decide), List.set_cons_zero, List.set_cons_succ, Nat.reduceAdd, Nat.add_zero]
    simp only [X9_init_65, X9_init_66, X9_init_68, X9_init_70, X9_init_70n, iOb_some, iClr_i, iClr_r, iClr_n, iClr_u, iClr_l, rf_s, rf_n, iB_0, iSum_nil, a8, nH_next, List.length_cons, List.length_nil, List.cons_append, List.nil_append, nH_p41 (show 11 < 41 by decide), List.set_cons_zero, List.set_cons_succ, Nat.reduceAdd, Nat.add_zero]
    simp only [X9_init_73, X9_init_74, X9_init_76, X9_init_78, X9_init_78n, iOb_some, iClr_i, iClr_r, iClr_n, iClr_u, iClr_l, rf_s, rf_n, iB_0, iSum_nil, a8, nH_next, List.length_cons, List.length_nil, List.cons_append, List.nil_append, nH_p41 (show 12 < 41 by decide), List.set_cons_zero, List.set_cons_succ, Nat.reduceAdd, Nat.add_zero]
    simp only [X9_init_81, X9_init_82, X9_init_85, X9_init_87, X9_init_87n, iOb_some, iClr_i, iClr_r, iClr_n, iClr_u, iClr_l, rf_s, rf_n, iB_0, iSum_nil, al, nH_next, List.length_cons, List.length_nil, List.cons_append, List.nil_append, nH_p41 (show 13 < 41 by decide), List.set_cons_zero, List.set_cons_succ, Nat.reduceAdd, Nat.add_zero]
    simp only [X9_init_90, X9_init_91, X9_init_93, X9_init_95, X9_init_95n, iOb_some, iClr_i, iClr_r, iClr_n, iClr_u, iClr_l, rf_s, rf_n, iB_0, iSum_nil, a8, nH_next, List.length_cons, List.length_nil, List.cons_append, List.nil_append, nH_p41 (show 17 < 41 by decide), List.set_cons_zero, List.set_cons_succ, Nat.reduceAdd, Nat.add_zero]
    simp only [X9_init_98, X9_init_99, X9_init_101, X9_init_103, X9_init_103n, iOb_some, iClr_i, iClr_r, iClr_n, iClr_u, iClr_l, rf_s, rf_n, iB_0, iSum_nil, a66, nH_next, List.length_cons, List.length_nil, List.cons_append, List.nil_append, nH_p41 (show 19 < 41 by decide), List.set_cons_zero, List.set_cons_succ, Nat.reduceAdd, Nat.add_zero]
    simp only [X9_init_106, X9_init_107, X9_init_109, X9_init_111, X9_init_111n, iOb_some, iClr_i, iClr_r, iClr_n, iClr_u, iClr_l, rf_s, rf_n, iB_0, iSum_nil, a66, nH_next, List.length_cons, List.length_nil, List.cons_append, List.nil_append, nH_p41 (show 20 < 41 by decide), List.set_cons_zero, List.set_cons_succ, Nat.reduceAdd, Nat.add_zero]
    simp only [X9_init_114, X9_init_115, X9_init_117, X9_init_119, X9_init_119n, iOb_some, iClr_i, iClr_r, iClr_n, iClr_u, iClr_l, rf_s, rf_n, iB_0, iSum_nil, a66, nH_next, List.length_cons, List.length_nil, List.cons_append, List.nil_append, nH_p41 (show 21 < 41 by decide), List.set_cons_zero, List.set_cons_succ, Nat.reduceAdd, Nat.add_zero]
    simp only [X9_init_122, X9_init_123, X9_init_125, X9_init_127, X9_init_127n, iOb_some, iClr_i, iClr_r, iClr_n, iClr_u, iClr_l, rf_s, rf_n, iB_0, iSum_nil, a66, nH_next, List.length_cons, List.length_nil, List.cons_append, List.nil_append, nH_p41 (show 22 < 41 by decide), List.set_cons_zero, List.set_cons_succ, Nat.reduceAdd, Nat.add_zero]
    simp only [X9_init_130, X9_init_131, X9_init_133, X9_init_135, X9_init_135n, iOb_some, iClr_i, iClr_r, iClr_n, iClr_u, iClr_l, rf_s, rf_n, iB_0, iSum_nil, a66, nH_next, List.length_cons, List.length_nil, List.cons_append, List.nil_append, nH_p41 (show 23 < 41 by decide), List.set_cons_zero, List.set_cons_succ, Nat.reduceAdd, Nat.add_zero]
    simp only [X9_init_138, X9_init_139, X9_init_141, X9_init_143, X9_init_143n, iOb_some, iClr_i, iClr_r, iClr_n, iClr_u, iClr_l, rf_s, rf_n, iB_0, iSum_nil, a66, nH_next, List.length_cons, List.length_nil, List.cons_append, List.nil_append, nH_p41 (show 24 < 41 by decide), List.set_cons_zero, List.set_cons_succ, Nat.reduceAdd, Nat.add_zero]
    simp only [X9_init_146, X9_init_147, X9_init_150, X9_init_152, X9_init_152n, iOb_some, iClr_i, iClr_r, iClr_n, iClr_u, iClr_l, rf_s, rf_n, iB_0, iSum_nil, a1400, nH_next, List.length_cons, List.length_nil, List.cons_append, List.nil_append, nH_p41 (show 26 < 41 by decide), List.set_cons_zero, List.set_cons_succ, Nat.reduceAdd, Nat.add_zero]
    simp only [X9_init_155, X9_init_156, X9_init_159, X9_init_161, X9_init_161n, iOb_some, iClr_i, iClr_r, iClr_n, iClr_u, iClr_l, rf_s, rf_n, iB_0, iSum_nil, a240, nH_next, List.length_cons, List.length_nil, List.cons_append, List.nil_append, nH_p41 (show 28 < 41 by decide), List.set_cons_zero, List.set_cons_succ, Nat.reduceAdd, Nat.add_zero]
    simp only [X9_init_164, X9_init_165, X9_init_167, X9_init_169, X9_init_169n, iOb_some, iClr_i, iClr_r, iClr_n, iClr_u, iClr_l, rf_s, rf_n, iB_0, iSum_nil, a66, nH_next, List.length_cons, List.length_nil, List.cons_append, List.nil_append, nH_p41 (show 29 < 41 by decide), List.set_cons_zero, List.set_cons_succ, Nat.reduceAdd, Nat.add_zero]
    simp only [X9_init_172, X9_init_173, X9_init_175, X9_init_177, X9_init_177n, iOb_some, iClr_i, iClr_r, iClr_n, iClr_u, iClr_l, rf_s, rf_n, iB_0, iSum_nil, a16, nH_next, List.length_cons, List.length_nil, List.cons_append, List.nil_append, nH_p41 (show 32 < 41 by decide), List.set_cons_zero, List.set_cons_succ, Nat.reduceAdd, Nat.add_zero]
    simp only [X9_init_180, X9_init_181, X9_init_184, X9_init_186, X9_init_186n, iOb_some, iClr_i, iClr_r, iClr_n, iClr_u, iClr_l, rf_s, rf_n, iB_0, iSum_nil, a1024, nH_next, List.length_cons, List.length_nil, List.cons_append, List.nil_append, nH_p41 (show 33 < 41 by decide), List.set_cons_zero, List.set_cons_succ, Nat.reduceAdd, Nat.add_zero]
    simp only [X9_init_189, X9_init_190, X9_init_193, X9_init_195, X9_init_195n, iOb_some, iClr_i, iClr_r, iClr_n, iClr_u, iClr_l, rf_s, rf_n, iB_0, iSum_nil, a1024, nH_next, List.length_cons, List.length_nil, List.cons_append, List.nil_append, nH_p41 (show 34 < 41 by decide), List.set_cons_zero, List.set_cons_succ, Nat.reduceAdd, Nat.add_zero]
    simp only [X9_init_198, X9_init_199, X9_init_202, X9_init_204, X9_init_204n, iOb_some, iClr_i, iClr_r, iClr_n, iClr_u, iClr_l, rf_s, rf_n, iB_0, iSum_nil, a1024, nH_next, List.length_cons, List.length_nil, List.cons_append, List.nil_append, nH_p41 (show 35 < 41 by decide), List.set_cons_zero, List.set_cons_succ, Nat.reduceAdd, Nat.add_zero]
    simp only [X9_init_207, X9_init_208, X9_init_210, X9_init_212, X9_init_212n, iOb_some, iClr_i, iClr_r, iClr_n, iClr_u, iClr_l, rf_s, rf_n, iB_0, iSum_nil, a80, nH_next, List.length_cons, List.length_nil, List.cons_append, List.nil_append, nH_p41 (show 37 < 41 by decide), List.set_cons_zero, List.set_cons_succ, Nat.reduceAdd, Nat.add_zero]
    simp only [X9_init_215, X9_init_216, X9_init_219, X9_init_221, X9_init_221n, iOb_some, iClr_i, iClr_r, iClr_n, iClr_u, iClr_l, rf_s, rf_n, iB_0, iSum_nil, a13440, nH_next, List.length_cons, List.length_nil, List.cons_append, List.nil_append, nH_p41 (show 38 < 41 by decide), List.set_cons_zero, List.set_cons_succ, Nat.reduceAdd, Nat.add_zero]
    simp only [X9_init_224, X9_init_225, X9_init_228, X9_init_230, X9_init_230n, iOb_some, iClr_i, iClr_r, iClr_n, iClr_u, iClr_l, rf_s, rf_n, iB_0, iSum_nil, a3840, nH_next, List.length_cons, List.length_nil, List.cons_append, List.nil_append, nH_p41 (show 39 < 41 by decide), List.set_cons_zero, List.set_cons_succ, Nat.reduceAdd, Nat.add_zero]
    simp only [X9_init_233, X9_init_234, X9_init_235, X9_init_238, X9_init_239, X9_init_240, X9_init_243, X9_init_244, iOb_some, iClr_i, iClr_r, iClr_n, iClr_u, iClr_l, rf_s, rf_n, iB_0, iSum_nil, nH_p41 (show 10 < 41 by decide), nH_p41 (show 14 < 41 by decide), List.set_cons_zero, List.set_cons_succ]
    have ex : ∃ g : iHp, g = nH h [.inr (9, [.int 0, .ref (h.2.1 + 1), .ref (h.2.1 + 2), .ref (h.2.1 + 3), .ref (h.2.1 + 4), .int 0, .int 0, .ref (h.2.1 + 5), .ref (h.2.1 + 6), .ref (h.2.1 + 7), .int 1, .ref (h.2.1 + 8), .ref (h.2.1 + 9), .ref (h.2.1 + 10), .int (-1), .int 0, .int 0, .ref (h.2.1 + 11), .int 0, .ref (h.2.1 + 12), .ref (h.2.1 + 13), .ref (h.2.1 + 14), .ref (h.2.1 + 15), .ref (h.2.1 + 16), .ref (h.2.1 + 17), .int 0, .ref (h.2.1 + 18), .int 0, .ref (h.2.1 + 19), .ref (h.2.1 + 20), .int 0, .int 0, .ref (h.2.1 + 21), .ref (h.2.1 + 22), .ref (h.2.1 + 23), .ref (h.2.1 + 24), .int 0, .ref (h.2.1 + 25), .ref (h.2.1 + 26), .ref (h.2.1 + 27), .int 0]), .inl (0, 16, .inl (fun _ => 0)), .inl (0, 1024, .inl (fun _ => 0)), .inl (0, 1024, .inl (fun _ => 0)), .inl (0, 1024, .inl (fun _ => 0)), .inl (0, 80, .inl (fun _ => 0)), .inl (0, 13440, .inl (fun _ => 0)), .inl (0, 3840, .inl (fun _ => 0)), .inl (0, 8, .inl (fun _ => 0)), .inl (0, 8, .inl (fun _ => 0)), .inl (1, 1280, .inr (.inl (fun _ => 0))), .inl (0, 8, .inl (fun _ => 0)), .inl (0, 66, .inl (fun _ => 0)), .inl (0, 66, .inl (fun _ => 0)), .inl (0, 66, .inl (fun _ => 0)), .inl (0, 66, .inl (fun _ => 0)), .inl (0, 66, .inl (fun _ => 0)), .inl (0, 66, .inl (fun _ => 0)), .inl (0, 1400, .inl (fun _ => 0)), .inl (0, 240, .inl (fun _ => 0)), .inl (0, 66, .inl (fun _ => 0)), .inl (0, 16, .inl (fun _ => 0)), .inl (0, 1024, .inl (fun _ => 0)), .inl (0, 1024, .inl (fun _ => 0)), .inl (0, 1024, .inl (fun _ => 0)), .inl (0, 80, .inl (fun _ => 0)), .inl (0, 13440, .inl (fun _ => 0)), .inl (0, 3840, .inl (fun _ => 0))] (h.2.2 + 44343) := ⟨_, rfl⟩
    obtain ⟨g, hg⟩ := ex
    have eg : nH h [.inr (9, [.int 0, .ref (h.2.1 + 1), .ref (h.2.1 + 2), .ref (h.2.1 + 3), .ref (h.2.1 + 4), .int 0, .int 0, .ref (h.2.1 + 5), .ref (h.2.1 + 6), .ref (h.2.1 + 7), .int 1, .ref (h.2.1 + 8), .ref (h.2.1 + 9), .ref (h.2.1 + 10), .int (-1), .int 0, .int 0, .ref (h.2.1 + 11), .int 0, .ref (h.2.1 + 12), .ref (h.2.1 + 13), .ref (h.2.1 + 14), .ref (h.2.1 + 15), .ref (h.2.1 + 16), .ref (h.2.1 + 17), .int 0, .ref (h.2.1 + 18), .int 0, .ref (h.2.1 + 19), .ref (h.2.1 + 20), .int 0, .int 0, .ref (h.2.1 + 21), .ref (h.2.1 + 22), .ref (h.2.1 + 23), .ref (h.2.1 + 24), .int 0, .ref (h.2.1 + 25), .ref (h.2.1 + 26), .ref (h.2.1 + 27), .int 0]), .inl (0, 16, .inl (fun _ => 0)), .inl (0, 1024, .inl (fun _ => 0)), .inl (0, 1024, .inl (fun _ => 0)), .inl (0, 1024, .inl (fun _ => 0)), .inl (0, 80, .inl (fun _ => 0)), .inl (0, 13440, .inl (fun _ => 0)), .inl (0, 3840, .inl (fun _ => 0)), .inl (0, 8, .inl (fun _ => 0)), .inl (0, 8, .inl (fun _ => 0)), .inl (1, 1280, .inr (.inl (fun _ => 0))), .inl (0, 8, .inl (fun _ => 0)), .inl (0, 66, .inl (fun _ => 0)), .inl (0, 66, .inl (fun _ => 0)), .inl (0, 66, .inl (fun _ => 0)), .inl (0, 66, .inl (fun _ => 0)), .inl (0, 66, .inl (fun _ => 0)), .inl (0, 66, .inl (fun _ => 0)), .inl (0, 1400, .inl (fun _ => 0)), .inl (0, 240, .inl (fun _ => 0)), .inl (0, 66, .inl (fun _ => 0)), .inl (0, 16, .inl (fun _ => 0)), .inl (0, 1024, .inl (fun _ => 0)), .inl (0, 1024, .inl (fun _ => 0)), .inl (0, 1024, .inl (fun _ => 0)), .inl (0, 80, .inl (fun _ => 0)), .inl (0, 13440, .inl (fun _ => 0)), .inl (0, 3840, .inl (fun _ => 0))] (h.2.2 + 41 + 16 + 1024 + 1024 + 1024 + 80 + 13440 + 3840 + 8 + 8 + 1280 + 8 + 66 + 66 + 66 + 66 + 66 + 66 + 1400 + 240 + 66 + 16 + 1024 + 1024 + 1024 + 80 + 13440 + 3840) = g := by
      refine Eq.trans ?_ hg.symm
      simp only [Nat.add_assoc, Nat.reduceAdd]
    rw [eg]
    have hc : ∀ p, p < 28 → g.1 (h.2.1 + p) = some (mCell h.2.1 mS0 p) := by
      rw [hg]
      exact i28 (nH_at (k := 0) (Nat.le_of_ble_eq_true rfl)) (nH_at (k := 1) (Nat.le_of_ble_eq_true rfl)) (nH_at (k := 2) (Nat.le_of_ble_eq_true rfl)) (nH_at (k := 3) (Nat.le_of_ble_eq_true rfl)) (nH_at (k := 4) (Nat.le_of_ble_eq_true rfl)) (nH_at (k := 5) (Nat.le_of_ble_eq_true rfl)) (nH_at (k := 6) (Nat.le_of_ble_eq_true rfl)) (nH_at (k := 7) (Nat.le_of_ble_eq_true rfl)) (nH_at (k := 8) (Nat.le_of_ble_eq_true rfl)) (nH_at (k := 9) (Nat.le_of_ble_eq_true rfl)) (nH_at (k := 10) (Nat.le_of_ble_eq_true rfl)) (nH_at (k := 11) (Nat.le_of_ble_eq_true rfl)) (nH_at (k := 12) (Nat.le_of_ble_eq_true rfl)) (nH_at (k := 13) (Nat.le_of_ble_eq_true rfl)) (nH_at (k := 14) (Nat.le_of_ble_eq_true rfl)) (nH_at (k := 15) (Nat.le_of_ble_eq_true rfl)) (nH_at (k := 16) (Nat.le_of_ble_eq_true rfl)) (nH_at (k := 17) (Nat.le_of_ble_eq_true rfl)) (nH_at (k := 18) (Nat.le_of_ble_eq_true rfl)) (nH_at (k := 19) (Nat.le_of_ble_eq_true rfl)) (nH_at (k := 20) (Nat.le_of_ble_eq_true rfl)) (nH_at (k := 21) (Nat.le_of_ble_eq_true rfl)) (nH_at (k := 22) (Nat.le_of_ble_eq_true rfl)) (nH_at (k := 23) (Nat.le_of_ble_eq_true rfl)) (nH_at (k := 24) (Nat.le_of_ble_eq_true rfl)) (nH_at (k := 25) (Nat.le_of_ble_eq_true rfl)) (nH_at (k := 26) (Nat.le_of_ble_eq_true rfl)) (nH_at (k := 27) (Nat.le_of_ble_eq_true rfl))
    have goff : ∀ q, q < h.2.1 → g.1 q = h.1 q := fun q hq => by rw [hg]; exact nH_off hq
    have gn : g.2.1 = h.2.1 + 28 := by rw [hg]; rfl
    have gs : g.2.2 = h.2.2 + 44343 := by rw [hg]; rfl
    rw [← mH_self hc]
    refine hold_loop 8 0 mS0 (Nat.zero_add 8) ⟨rfl, fun q _ => rfl, fun j hj => absurd hj (Nat.not_lt_zero j)⟩ (fun s' hs => ⟨rfl, ⟨s', mH_self (fun p hp => mH_at hp), hs⟩, fun q hq => (if_neg (by omega)).trans (goff q hq), gn, gs⟩)
  obtain ⟨r, h1, e, rfl, g⟩ := I9_init z
  exact ⟨h1, e, g⟩
end MADE

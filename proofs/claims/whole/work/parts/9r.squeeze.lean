/-! squeeze: the reference, all looks -/
def sqM (m : Nat) (H G : Nat → Nat → Int32) (j : Nat) : Nat → Nat → Int32 := fun i => if i < m then H i else G (j + (i - m))
def sqI (G : Nat → Nat → Int32) (n : Nat) (F : sqX) (m : Nat) (H : Nat → Nat → Int32) (j : Nat) : Prop := j ≤ n ∧ m ≤ j ∧ (∀ i, i < m → eZ (H i)) ∧ (∀ i, i + 1 < m → eNames (H i) (H (i + 1)) = false ∧ eLike (H (i + 1)) (eTurn (H i)) = false) ∧ sqF G (n - j) j (m, H) = F
section SQZR
variable {h : iHp} {i j k l x m a c p q r t n N j0 : Nat} {W : wW} {G M H : Nat → Nat → Int32} {e f g : Nat → Int32} {b : iHp} {s s0 s1 s2 s' : mS} {Z : pP} {F : sqX}
theorem eTurn_k (h : eTurn e 0 = 0) (hz : e 0 = 0 ∨ e 0 = 1 ∨ e 0 = 2 ∨ e 0 = 3) : e 0 = 0 := by
  rcases hz with z | z | z | z
  · exact z
  · unfold eTurn at h
    rw [if_neg (by rw [z]; decide), if_pos z] at h
    exact absurd (show (2 : Int32) = 0 from h) (by decide)
  · unfold eTurn at h
    rw [if_neg (by rw [z]; decide), if_neg (by rw [z]; decide), if_pos z] at h
    exact absurd (show (1 : Int32) = 0 from h) (by decide)
  · unfold eTurn at h
    rw [if_neg (by rw [z]; decide), if_neg (by rw [z]; decide), if_neg (by rw [z]; decide)] at h
    exact absurd (show (3 : Int32) = 0 from h) (by decide)
/-- what stands before a NAME stands so before the NAME that two become -/
theorem irr_join (hg : eZ g) (h0 : e 0 = 0) (h1 : eNames g e = false) {v : Int32} : eNames g (e7 0 (e 1) (e 2) v 0 0 0) = false ∧ eLike (e7 0 (e 1) (e 2) v 0 0 0) (eTurn g) = false := by
  have h1 : ¬ (g 0 = 0 ∧ e 0 = 0 ∧ g 1 = e 1) := of_decide_eq_false h1
  refine ⟨decide_eq_false (fun z => h1 ⟨z.1, h0, z.2.2⟩), Bool.eq_false_iff.mpr (fun z => ?_)⟩
  obtain ⟨z0, z1, -⟩ := eLike_t z
  have z0 : (0 : Int32) = eTurn g 0 := z0
  have g0 := eTurn_k z0.symm hg.1
  rw [eTurn_0 g0] at z1
  exact h1 ⟨g0, h0, z1.symm⟩
theorem sqF_s (hj : j < n) (X : sqX) : sqF G (n - j) j X = sqF G (n - (j + 1)) (j + 1) (sqC (G j) X) := by
  rw [show n - j = n - (j + 1) + 1 by omega]
  rfl
theorem sqI.push (hI : sqI G n F m H j) (hj : j < n) (hz : eZ (G j)) (hs : sqC (G j) (m, H) = (m + 1, va_up H m (G j))) (hr : ∀ i, i + 1 = m → eNames (H i) (G j) = false ∧ eLike (G j) (eTurn (H i)) = false) : sqI G n F (m + 1) (va_up H m (G j)) (j + 1) := by
  obtain ⟨i1, i2, i3, i4, i5⟩ := hI
  refine ⟨hj, by omega, fun i hi => ?_, fun i hi => ?_, ?_⟩
  · unfold va_up
    by_cases c : i = m
    · rw [if_pos c]
      exact hz
    · rw [if_neg c]
      exact i3 i (by omega)
  · unfold va_up
    rw [if_neg (show ¬ i = m by omega)]
    by_cases c : i + 1 = m
    · rw [if_pos c]
      exact hr i c
    · rw [if_neg c]
      exact i4 i (by omega)
  · rw [← hs, ← sqF_s hj]
    exact i5
theorem sqM_push : sqM (m + 1) (va_up H m (G j)) G (j + 1) = sqM m H G j := by
  funext i
  unfold sqM va_up
  by_cases c : i < m
  · rw [if_pos c, if_pos (by omega), if_neg (by omega)]
  · rw [if_neg c]
    by_cases c2 : i = m
    · rw [if_pos (by omega), if_pos c2, c2, Nat.sub_self]
      rfl
    · rw [if_neg (by omega), show j + 1 + (i - (m + 1)) = j + (i - m) by omega]
theorem sqM_drop (hm : sqM (m + 1) H G j = M) : mDr M m 2 = sqM m H G (j + 1) := by
  funext i
  rw [← hm]
  unfold mDr sqM
  by_cases c : i < m
  · rw [if_pos c, if_pos c, if_pos (by omega)]
  · rw [if_neg c, if_neg c, if_neg (by omega), show j + (i + 2 - (m + 1)) = j + 1 + (i - m) by omega]
theorem sqI.drop (hI : sqI G n F (m + 1) H j) (hj : j < n) (hs : sqC (G j) (m + 1, H) = (m, H)) : sqI G n F m H (j + 1) := by
  obtain ⟨i1, i2, i3, i4, i5⟩ := hI
  refine ⟨hj, by omega, fun i hi => i3 i (by omega), fun i hi => i4 i (by omega), ?_⟩
  rw [← hs, ← sqF_s hj]
  exact i5
theorem sqI.join (hI : sqI G n F (m + 1) H j) (hj : j < n) (hN : eNames (H m) (G j) = true) (hs : sqC (G j) (m + 1, H) = (m + 1, va_up H m (e7 0 (H m 1) (H m 2) (G j 3) 0 0 0))) : sqI G n F (m + 1) (va_up H m (e7 0 (H m 1) (H m 2) (G j 3) 0 0 0)) (j + 1) := by
  obtain ⟨i1, i2, i3, i4, i5⟩ := hI
  obtain ⟨a0, -⟩ := eNames_t hN
  refine ⟨hj, by omega, fun i hi => ?_, fun i hi => ?_, ?_⟩
  · unfold va_up
    by_cases c : i = m
    · rw [if_pos c]
      exact ⟨Or.inl rfl, fun _ => ⟨rfl, rfl, rfl⟩⟩
    · rw [if_neg c]
      exact i3 i (by omega)
  · unfold va_up
    rw [if_neg (show ¬ i = m by omega)]
    by_cases c : i + 1 = m
    · rw [if_pos c]
      subst c
      exact irr_join (i3 i (by omega)) a0 (i4 i (by omega)).1
    · rw [if_neg c]
      exact i4 i (by omega)
  · rw [← hs, ← sqF_s hj]
    exact i5
theorem sqM_join (hm : sqM (m + 1) H G j = M) (hz : eZ (H m)) (h0 : H m 0 = 0) {i k : Nat} (hk : k < 7) : mDr (va_up M m (upd (M m) 3 (M (m + 1) 3))) (m + 1) 1 i k = sqM (m + 1) (va_up H m (e7 0 (H m 1) (H m 2) (G j 3) 0 0 0)) G (j + 1) i k := by
  have e1 : M m = H m := by rw [← hm]; exact if_pos (Nat.lt_succ_self m)
  have e2 : M (m + 1) = G j := by
    rw [← hm]
    unfold sqM
    rw [if_neg (by omega), Nat.sub_self]
    rfl
  rw [e1, e2]
  unfold mDr sqM va_up
  by_cases c : i < m + 1
  · rw [if_pos c, if_pos c]
    by_cases c2 : i = m
    · rw [if_pos c2, if_pos c2]
      obtain ⟨z4, z5, z6⟩ := hz.2 h0
      unfold upd
      match k, hk with
      | 0, _ => exact h0
      | 1, _ => rfl
      | 2, _ => rfl
      | 3, _ => rfl
      | 4, _ => exact z4
      | 5, _ => exact z5
      | 6, _ => exact z6
    · rw [if_neg c2, if_neg c2, ← hm]
      unfold sqM
      rw [if_pos c]
  · rw [if_neg c, if_neg c, if_neg (by omega), ← hm]
    unfold sqM
    rw [if_neg (by omega), show j + (i + 1 - (m + 1)) = j + 1 + (i - (m + 1)) by omega]
theorem squeezes_loop (hz : ∀ i, i < n → eZ (G i)) (hn : n ≤ 120) {Q : Option Value → iHp → Prop} (hQ0 : ∀ s2, sEx [25, 26] s0 s2 → mMd s2 F.1 F.2 → Q (some (.int 0)) (mH b x s2)) (hQ1 : ∀ s2 m H j, sEx [25, 26] s0 s2 → sqI G n F m H j → j0 < j → mMd s2 (m + (n - j)) (sqM m H G j) → Q (some (.int 1)) (mH b x s2)) : ∀ d i m H j s1 w, i + d = m + (n - j) → i + 1 ≤ m → j0 ≤ j → sqI G n F m H j → sEx [25, 26] s0 s1 → mMd s1 (m + (n - j)) (sqM m H G j) → iWp 4 mX9_squeezes 2 [.ref x, .int (nI i), w] [] (mH b x s1) Q := by
  intro d
  induction d with
  | zero => intro i m H j s1 w h1 h2; omega
  | succ d ih =>
    intro i m H j s1 w hd him hj0 hI hx hM
    have hjn := hI.1
    have hmj := hI.2.1
    have eMi : sqM m H G j i = H i := if_pos (by omega)
    by_cases c : i + 1 < m + (n - j)
    · by_cases c1 : i + 1 < m
      · have eMi1 : sqM m H G j (i + 1) = H (i + 1) := if_pos c1
        obtain ⟨r1, r2⟩ := hI.2.2.2.1 i c1
        refine sqs_no hM c (by omega) (by rw [eMi]; exact hI.2.2.1 i (by omega)) (by rw [eMi, eMi1]; exact r1) (by rw [eMi, eMi1]; exact r2) (fun s2 y1 y2 => ?_)
        exact ih (i + 1) m H j s2 _ (by omega) (by omega) hj0 hI (hx.trans y1) y2
      · obtain rfl : m = i + 1 := by omega
        have hj : j < n := by omega
        have eMi1 : sqM (i + 1) H G j (i + 1) = G j := by
          unfold sqM
          rw [if_neg (by omega), Nat.sub_self]
          rfl
        have zi := hI.2.2.1 i (by omega)
        have hsc : sqC (G j) (i + 1, H) = if eNames (H i) (G j) = true then (if H i 2 = G j 3 then (i, H) else (i + 1, va_up H i (e7 0 (H i 1) (H i 2) (G j 3) 0 0 0))) else if eLike (G j) (eTurn (H i)) = true then (i, H) else (i + 2, va_up H (i + 1) (G j)) := rfl
        have un : eLike (G j) (eTurn (H i)) = true → sqC (G j) (i + 1, H) = (i, H) → iWp 4 mX9_squeezes 2 [.ref x, .int (nI i), w] [] (mH b x s1) Q := by
          intro g1 g2
          refine sqs_un hM c (by omega) (by rw [eMi]; exact zi) (by rw [eMi, eMi1]; exact g1) (fun s2 y1 y2 => ?_)
          rw [sqM_drop rfl, show i + 1 + (n - j) - 2 = i + (n - (j + 1)) by omega] at y2
          exact hQ1 s2 i H (j + 1) (hx.trans y1) (hI.drop hj g2) (by omega) y2
        by_cases c2 : eNames (H i) (G j) = true
        · rw [if_pos c2] at hsc
          by_cases c3 : eLike (G j) (eTurn (H i)) = true
          · rw [if_pos (names_like c2 c3)] at hsc
            exact un c3 hsc
          · refine sqs_jn hM c (by omega) (by rw [eMi]; exact zi) (by rw [eMi, eMi1]; exact c2) (by rw [eMi, eMi1]; exact Bool.eq_false_iff.mpr c3) (fun g s2 y1 y2 => ?_) (fun g s2 y1 y2 => ?_)
            · rw [eMi, eMi1] at g
              rw [if_pos g] at hsc
              rw [sqM_drop rfl, show i + 1 + (n - j) - 2 = i + (n - (j + 1)) by omega] at y2
              exact hQ1 s2 i H (j + 1) (hx.trans y1) (hI.drop hj hsc) (by omega) y2
            · rw [eMi, eMi1] at g
              rw [if_neg g] at hsc
              rw [show i + 1 + (n - j) - 1 = i + 1 + (n - (j + 1)) by omega] at y2
              exact hQ1 s2 (i + 1) _ (j + 1) (hx.trans y1) (hI.join hj c2 hsc) (by omega) (y2.congr (fun q k _ hk => sqM_join rfl zi (eNames_t c2).1 hk))
        · rw [if_neg c2] at hsc
          by_cases c3 : eLike (G j) (eTurn (H i)) = true
          · rw [if_pos c3] at hsc
            exact un c3 hsc
          · rw [if_neg c3] at hsc
            refine sqs_no hM c (by omega) (by rw [eMi]; exact zi) (by rw [eMi, eMi1]; exact Bool.eq_false_iff.mpr c2) (by rw [eMi, eMi1]; exact Bool.eq_false_iff.mpr c3) (fun s2 y1 y2 => ?_)
            have hp := hI.push hj (hz j hj) hsc (fun q hq => by
              obtain rfl : q = i := by omega
              exact ⟨Bool.eq_false_iff.mpr c2, Bool.eq_false_iff.mpr c3⟩)
            refine ih (i + 1) (i + 1 + 1) _ (j + 1) s2 _ (by omega) (by omega) (by omega) hp (hx.trans y1) ?_
            rw [sqM_push, show i + 1 + 1 + (n - (j + 1)) = i + 1 + (n - j) by omega]
            exact y2
    · obtain rfl : m = i + 1 := by omega
      obtain rfl : j = n := by omega
      have hF := hI.2.2.2.2
      rw [Nat.sub_self] at hF hM
      have hF : (i + 1, H) = F := hF
      have e1 := hM.1
      rw [X9_squeezes_2]
      simp only [X9_squeezes_3, X9_squeezes_4, X9_squeezes_5, X9_squeezes_6, X9_squeezes_9, iOb_some, iClr_i, iClr_r, iClr_n, iClr_u, iClr_l, rf_s, rf_n, iB_0, iSum_nil, mg25, e1, nI_1, if_pos (show nI (i + 1 + 0) ≤ nI (i + 1) from Int32.le_refl _)]
      simp only [X9_squeezes_135, X9_squeezes_136, X9_squeezes_136z, X9_squeezes_136o, iOb_some, iClr_i, iClr_r, iClr_n, iClr_u, iClr_l, rf_s, rf_n, iB_0, iSum_nil]
      refine hQ0 s1 hx ?_
      rw [← hF]
      exact hM.congr (fun q k hq _ => congrFun (if_pos hq) k)
def sqQ (b : iHp) (x : Nat) (s0 : mS) (G : Nat → Nat → Int32) (n : Nat) (F : sqX) (j : Nat) (r : Option Value) (h1 : iHp) : Prop := ∃ s2, h1 = mH b x s2 ∧ sEx [25, 26] s0 s2 ∧ ((r = some (.int 0) ∧ mMd s2 F.1 F.2) ∨ (r = some (.int 1) ∧ ∃ m' H' j', sqI G n F m' H' j' ∧ j < j' ∧ mMd s2 (m' + (n - j')) (sqM m' H' G j')))
theorem ev9_squeezes (hz : ∀ i, i < n → eZ (G i)) (hn : n ≤ 120) (hI : sqI G n F m H j) (hM : mMd s (m + (n - j)) (sqM m H G j)) : ∃ r h1, iEv mX9_squeezes [.ref x] (mH b x s) r h1 ∧ sqQ b x s G n F j r h1 := by
  refine I9_squeezes ?_
  have q0 : ∀ s2, sEx [25, 26] s s2 → mMd s2 F.1 F.2 → sqQ b x s G n F j (some (.int 0)) (mH b x s2) := fun s2 y1 y2 => ⟨s2, rfl, y1, Or.inl ⟨rfl, y2⟩⟩
  have q1 : ∀ s2 m' H' j', sEx [25, 26] s s2 → sqI G n F m' H' j' → j < j' → mMd s2 (m' + (n - j')) (sqM m' H' G j') → sqQ b x s G n F j (some (.int 1)) (mH b x s2) := fun s2 m' H' j' y1 y2 y3 y4 => ⟨s2, rfl, y1, Or.inr ⟨rfl, m', H', j', y2, y3, y4⟩⟩
  have hjn := hI.1
  by_cases c : m = 0
  · subst c
    by_cases c2 : j = n
    · subst c2
      have hF : (0, H) = F := by
        have := hI.2.2.2.2
        rw [Nat.sub_self] at this
        exact this
      rw [Nat.sub_self] at hM
      have e1 := hM.1
      simp only [X9_squeezes_0, X9_squeezes_1, X9_squeezes_2, X9_squeezes_3, X9_squeezes_4, X9_squeezes_5, X9_squeezes_6, X9_squeezes_9, iOb_some, iClr_i, iClr_r, iClr_n, iClr_u, iClr_l, rf_s, rf_n, iB_0, iSum_nil, mg25, e1, if_pos (show nI (0 + 0) ≤ 0 + 1 by decide)]
      simp only [X9_squeezes_135, X9_squeezes_136, X9_squeezes_136z, X9_squeezes_136o, iOb_some, iClr_i, iClr_r, iClr_n, iClr_u, iClr_l, rf_s, rf_n, iB_0, iSum_nil]
      refine q0 s sEx.refl ?_
      rw [← hF]
      exact ⟨e1, fun i k hi _ => absurd hi (Nat.not_lt_zero i)⟩
    · have hj : j < n := by omega
      have hp := hI.push hj (hz j hj) rfl (fun i hi => by omega)
      simp only [X9_squeezes_0, X9_squeezes_1, iOb_some, iClr_i, iClr_r, iClr_n, iClr_u, iClr_l, rf_s, rf_n, iB_0, iSum_nil]
      refine squeezes_loop (F := F) (s0 := s) (j0 := j) hz hn q0 q1 (n - j) 0 1 _ (j + 1) s _ (by omega) (Nat.le_refl _) (by omega) hp sEx.refl ?_
      have e : sqM 1 (va_up H 0 (G j)) G (j + 1) = sqM 0 H G j := sqM_push
      rw [e, show 1 + (n - (j + 1)) = 0 + (n - j) by omega]
      exact hM
  · simp only [X9_squeezes_0, X9_squeezes_1, iOb_some, iClr_i, iClr_r, iClr_n, iClr_u, iClr_l, rf_s, rf_n, iB_0, iSum_nil]
    exact squeezes_loop (F := F) (s0 := s) (j0 := j) hz hn q0 q1 (m + (n - j)) 0 m H j s _ (by omega) (by omega) (Nat.le_refl _) hI sEx.refl hM
theorem squeeze9_loop (hz : ∀ i, i < n → eZ (G i)) (hn : n ≤ 120) {y : Int32} {Q : Option Value → iHp → Prop} (hQ : ∀ s2, sEx [25, 26] s0 s2 → mMd s2 F.1 F.2 → iWp 5 mX9_squeeze 38 [.ref x, .int y, .int 0] [] (mH b x s2) Q) : ∀ d m H j s1, n - j ≤ d → sqI G n F m H j → sEx [25, 26] s0 s1 → mMd s1 (m + (n - j)) (sqM m H G j) → iWp 5 mX9_squeeze 26 [.ref x, .int y, .int 1] [] (mH b x s1) Q := by
  intro d
  induction d with
  | zero =>
    intro m H j s1 hd hI hx hM
    obtain ⟨r, h1, ev, s2, rfl, y1, ⟨rfl, y2⟩ | ⟨rfl, m', H', j', y2, y3, y4⟩⟩ := ev9_squeezes (b := b) (x := x) hz hn hI hM
    · rw [X9_squeeze_26]
      simp only [X9_squeeze_27, X9_squeeze_30, X9_squeeze_31 ev mH_obj, X9_squeeze_34, X9_squeeze_35, iOb_some, iClr_i, iClr_r, iClr_n, iClr_u, iClr_l, rf_s, rf_n, iB_0, iSum_nil, if_neg (show ¬ (1 : Int32) = 0 by decide)]
      rw [X9_squeeze_26]
      simp only [X9_squeeze_27, iOb_some, iClr_i, iClr_r, iClr_n, iClr_u, iClr_l, rf_s, rf_n, iB_0, iSum_nil, if_true]
      exact hQ s2 (hx.trans y1) y2
    · have := y2.1
      omega
  | succ d ih =>
    intro m H j s1 hd hI hx hM
    obtain ⟨r, h1, ev, s2, rfl, y1, ⟨rfl, y2⟩ | ⟨rfl, m', H', j', y2, y3, y4⟩⟩ := ev9_squeezes (b := b) (x := x) hz hn hI hM
    · rw [X9_squeeze_26]
      simp only [X9_squeeze_27, X9_squeeze_30, X9_squeeze_31 ev mH_obj, X9_squeeze_34, X9_squeeze_35, iOb_some, iClr_i, iClr_r, iClr_n, iClr_u, iClr_l, rf_s, rf_n, iB_0, iSum_nil, if_neg (show ¬ (1 : Int32) = 0 by decide)]
      rw [X9_squeeze_26]
      simp only [X9_squeeze_27, iOb_some, iClr_i, iClr_r, iClr_n, iClr_u, iClr_l, rf_s, rf_n, iB_0, iSum_nil, if_true]
      exact hQ s2 (hx.trans y1) y2
    · rw [X9_squeeze_26]
      simp only [X9_squeeze_27, X9_squeeze_30, X9_squeeze_31 ev mH_obj, X9_squeeze_34, X9_squeeze_35, iOb_some, iClr_i, iClr_r, iClr_n, iClr_u, iClr_l, rf_s, rf_n, iB_0, iSum_nil, if_neg (show ¬ (1 : Int32) = 0 by decide)]
      exact ih m' H' j' s2 (by have := y2.1; omega) y2 (hx.trans y1) y4
theorem m9_squeeze (hR : mRel s W) (hW : wOk W) (v : Int32) : ∃ r h1, iEv mX9_squeeze [.ref x, .int v] (mH b x s) r h1 ∧ m9P b x (aSqueeze W v) r h1 := by
  refine I9_squeeze ?_
  unfold aSqueeze
  have hn : W.1.2.2.1 < 2 ^ 31 := by have := hW.1.2.1; omega
  have et := ev9_isPatch (b := b) (x := x) hR.1 hW.1.2.1 (t := v)
  rcases iIx_cases v hn with ⟨e, z⟩ | ⟨j, hj, rfl, e⟩
  · rw [e] at et ⊢
    simp only [X9_squeeze_0, X9_squeeze_1, X9_squeeze_2 et mH_obj, X9_squeeze_5, X9_squeeze_8, X9_squeeze_9, X9_squeeze_10 (ev9_noV (v := -1) (r := 1) (by decide) rfl) mH_obj, X9_squeeze_13, iOb_some, iClr_i, iClr_r, iClr_n, iClr_u, iClr_l, rf_s, rf_n, iB_0, iSum_nil, Option.isSome_none, if_true]
    exact m9_rf hR (by decide)
  · rw [e] at et ⊢
    dsimp only
    have hj16 : j < 16 := by have := hW.1.2.1; omega
    have hO := hW.1.2.2.2 j hj
    have hZ := hR.1.2.2.2.2 j hj
    generalize W.1.2.2.2.1 j = Z at hO hZ ⊢
    have x0 : sEx LX s (mSet s 25 0) := mSet_ex (by decide)
    obtain ⟨s1, a1, a2, a3⟩ := ev9_all (b := b) (x := x) (s := mSet s 25 0) hj16 hZ hO.1 (mMd_0 (G := fun _ _ => 0)) (by have := hO.1; omega)
    simp only [X9_squeeze_0, X9_squeeze_1, X9_squeeze_2 et mH_obj, X9_squeeze_5, X9_squeeze_8, X9_squeeze_9, X9_squeeze_13, X9_squeeze_14, X9_squeeze_15, X9_squeeze_16, X9_squeeze_19, X9_squeeze_20, X9_squeeze_21 a1 mH_obj, X9_squeeze_24, X9_squeeze_25, iOb_some, iClr_i, iClr_r, iClr_n, iClr_u, iClr_l, rf_s, rf_n, iB_0, iSum_nil, Option.isSome_some, Bool.true_eq_false, if_false, mp25]
    have hle := sqF_le (G := Z.2.2.2.2.2.1) Z.1 0 (0, fun _ _ => 0)
    have hle : (sqZ Z).1 ≤ 0 + Z.1 := hle
    have hO1 := hO.1
    refine squeeze9_loop (s0 := s1) (F := sqZ Z) (G := Z.2.2.2.2.2.1) (n := Z.1) (fun i hi => (hO.2.2.1 i hi).z) hO.1 (fun s2 y1 y2 => ?_) Z.1 0 (fun _ _ => 0) 0 s1 (by omega) ⟨Nat.zero_le _, Nat.le_refl _, fun i hi => absurd hi (Nat.not_lt_zero i), fun i hi => absurd hi (Nat.not_lt_zero _), rfl⟩ sEx.refl ?_
    · have x1 : sEx LX s s2 := (x0.trans (a3.mono LMX)).trans (y1.mono LMX)
      obtain ⟨h4, k4, s4, rfl, k5⟩ := ev9_newPatch (b := b) (x := x) (c := 0) (C := fun _ => 0) (so := 2) (sr := nI j) (hR.ex x1) hW y2 (by omega) (by omega) (fun z => absurd z (by decide)) (fun _ => rfl)
      simp only [X9_squeeze_38, X9_squeeze_39, X9_squeeze_40, X9_squeeze_41 k4 mH_obj, X9_squeeze_44, iOb_some, iClr_i, iClr_r, iClr_n, iClr_u, iClr_l, rf_s, rf_n, iB_0, iSum_nil]
      exact ⟨rfl, s4, rfl, k5⟩
    · refine a2.congr (fun i k hi hk => ?_)
      unfold gApp sqM
      rw [if_neg (Nat.not_lt_zero i), if_neg (Nat.not_lt_zero i), Nat.zero_add]
end SQZR

/-! squeeze: the reference, all looks -/
def sqM (m : Nat) (H G : Nat → Nat → Int32) (j : Nat) : Nat → Nat → Int32 := fun i => if i < m then H i else G (j + (i - m))
def sqI (G : Nat → Nat → Int32) (n : Nat) (F : sqX) (m : Nat) (H : Nat → Nat → Int32) (j : Nat) : Prop := j ≤ n ∧ m ≤ j ∧ (∀ i, i < m → eZ (H i)) ∧ (∀ i, i + 1 < m → eNames (H i) (H (i + 1)) = false ∧ eLike (H (i + 1)) (eTurn (H i)) = false) ∧ sqF G (n - j) j (m, H) = F
section SQZR
variable {h : iHp} {i j k l x m a c p q r t n N j0 : Nat} {W : wW} {G M H : Nat → Nat → Int32} {e f g : Nat → Int32} {b : iHp} {s s0 s1 s2 s' : mS} {Z : pP} {F : sqX}
theorem eTurn_k (h : eTurn e 0 = 0) (hz : e 0 = 0 ∨ e 0 = 1 ∨ e 0 = 2 ∨ e 0 = 3) : e 0 = 0 := by
  rcases hz with z | z | z | z
  · exact z
  · unfold eTurn at h
    rw [if_neg (by rw [z]; decide), if_pos z] at h
    exact absurd (show (2 : Int32) = 0 from h) (by decide)
  · unfold eTurn at h
    rw [if_neg (by rw [z]; decide), if_neg (by rw [z]; decide), if_pos z] at h
    exact absurd (show (1 : Int32) = 0 from h) (by decide)
  · unfold eTurn at h
    rw [if_neg (by rw [z]; decide), if_neg (by rw [z]; decide), if_neg (by rw [z]; decide)] at h
    exact absurd (show (3 : Int32) = 0 from h) (by decide)
/-- what stands before a NAME stands so before the NAME that two become -/
theorem irr_join (hg : eZ g) (h0 : e 0 = 0) (h1 : eNames g e = false) {v : Int32} : eNames g (e7 0 (e 1) (e 2) v 0 0 0) = false ∧ eLike (e7 0 (e 1) (e 2) v 0 0 0) (eTurn g) = false := by
  have h1 : ¬ (g 0 = 0 ∧ e 0 = 0 ∧ g 1 = e 1) := of_decide_eq_false h1
  refine ⟨decide_eq_false (fun z => h1 ⟨z.1, h0, z.2.2⟩), Bool.eq_false_iff.mpr (fun z => ?_)⟩
  obtain ⟨z0, z1, -⟩ := eLike_t z
  have z0 : (0 : Int32) = eTurn g 0 := z0
  have g0 := eTurn_k z0.symm hg.1
  rw [eTurn_0 g0] at z1
  exact h1 ⟨g0, h0, z1.symm⟩
theorem sqF_s (hj : j < n) (X : sqX) : sqF G (n - j) j X = sqF G (n - (j + 1)) (j + 1) (sqC (G j) X) := by
  rw [show n - j = n - (j + 1) + 1 by omega]
  rfl
theorem sqI.push (hI : sqI G n F m H j) (hj : j < n) (hz : eZ (G j)) (hs : sqC (G j) (m, H) = (m + 1, va_up H m (G j))) (hr : ∀ i, i + 1 = m → eNames (H i) (G j) = false ∧ eLike (G j) (eTurn (H i)) = false) : sqI G n F (m + 1) (va_up H m (G j)) (j + 1) := by
  obtain ⟨i1, i2, i3, i4, i5⟩ := hI
  refine ⟨hj, by omega, fun i hi => ?_, fun i hi => ?_, ?_⟩
  · unfold va_up
    by_cases c : i = m
    · rw [if_pos c]
      exact hz
    · rw [if_neg c]
      exact i3 i (by omega)
  · unfold va_up
    rw [if_neg (show ¬ i = m by omega)]
    by_cases c : i + 1 = m
    · rw [if_pos c]
      exact hr i c
    · rw [if_neg c]
      exact i4 i (by omega)
  · rw [← hs, ← sqF_s hj]
    exact i5
theorem sqM_push : sqM (m + 1) (va_up H m (G j)) G (j + 1) = sqM m H G j := by
  funext i
  unfold sqM va_up
  by_cases c : i < m
  · rw [if_pos c, if_pos (by omega), if_neg (by omega)]
  · rw [if_neg c]
    by_cases c2 : i = m
    · rw [if_pos (by omega), if_pos c2, c2, Nat.sub_self]
      rfl
    · rw [if_neg (by omega), show j + 1 + (i - (m + 1)) = j + (i - m) by omega]
theorem sqM_drop (hm : sqM (m + 1) H G j = M) : mDr M m 2 = sqM m H G (j + 1) := by
  funext i
  rw [← hm]
  unfold mDr sqM
  by_cases c : i < m
  · rw [if_pos c, if_pos c, if_pos (by omega)]
  · rw [if_neg c, if_neg c, if_neg (by omega), show j + (i + 2 - (m + 1)) = j + 1 + (i - m) by omega]
theorem sqI.drop (hI : sqI G n F (m + 1) H j) (hj : j < n) (hs : sqC (G j) (m + 1, H) = (m, H)) : sqI G n F m H (j + 1) := by
  obtain ⟨i1, i2, i3, i4, i5⟩ := hI
  refine ⟨hj, by omega, fun i hi => i3 i (by omega), fun i hi => i4 i (by omega), ?_⟩
  rw [← hs, ← sqF_s hj]
  exact i5
theorem sqI.join (hI : sqI G n F (m + 1) H j) (hj : j < n) (hN : eNames (H m) (G j) = true) (hs : sqC (G j) (m + 1, H) = (m + 1, va_up H m (e7 0 (H m 1) (H m 2) (G j 3) 0 0 0))) : sqI G n F (m + 1) (va_up H m (e7 0 (H m 1) (H m 2) (G j 3) 0 0 0)) (j + 1) := by
  obtain ⟨i1, i2, i3, i4, i5⟩ := hI
  obtain ⟨a0, -⟩ := eNames_t hN
  refine ⟨hj, by omega, fun i hi => ?_, fun i hi => ?_, ?_⟩
  · unfold va_up
    by_cases c : i = m
    · rw [if_pos c]
      exact ⟨Or.inl rfl, fun _ => ⟨rfl, rfl, rfl⟩⟩
    · rw [if_neg c]
      exact i3 i (by omega)
  · unfold va_up
    rw [if_neg (show ¬ i = m by omega)]
    by_cases c : i + 1 = m
    · rw [if_pos c]
      subst c
      exact irr_join (i3 i (by omega)) a0 (i4 i (by omega)).1
    · rw [if_neg c]
      exact i4 i (by omega)
  · rw [← hs, ← sqF_s hj]
    exact i5
theorem sqM_join (hm : sqM (m + 1) H G j = M) (hz : eZ (H m)) (h0 : H m 0 = 0) {i k : Nat} (hk : k < 7) : mDr (va_up M m (upd (M m) 3 (M (m + 1) 3))) (m + 1) 1 i k = sqM (m + 1) (va_up H m (e7 0 (H m 1) (H m 2) (G j 3) 0 0 0)) G (j + 1) i k := by
  have e1 : M m = H m := by rw [← hm]; exact if_pos (Nat.lt_succ_self m)
  have e2 : M (m + 1) = G j := by
    rw [← hm]
    unfold sqM
    rw [if_neg (by omega), Nat.sub_self]
    rfl
  rw [e1, e2]
  unfold mDr sqM va_up
  by_cases c : i < m + 1
  · rw [if_pos c, if_pos c]
    by_cases c2 : i = m
    · rw [if_pos c2, if_pos c2]
      obtain ⟨z4, z5, z6⟩ := hz.2 h0
      unfold upd
      match k, hk with
      | 0, _ => exact h0
      | 1, _ => rfl
      | 2, _ => rfl
      | 3, _ => rfl
      | 4, _ => exact z4
      | 5, _ => exact z5
      | 6, _ => exact z6
    · rw [if_neg c2, if_neg c2, ← hm]
      unfold sqM
      rw [if_pos c]
  · rw [if_neg c, if_neg c, if_neg (by omega), ← hm]
    unfold sqM
    rw [if_neg (by omega), show j + (i + 1 - (m + 1)) = j + 1 + (i - (m + 1)) by omega]
theorem squeezes_loop (hz : ∀ i, i < n → eZ (G i)) (hn : n ≤ 120) {Q : Option Value → iHp → Prop} (hQ0 : ∀ s2, sEx [25, 26] s0 s2 → mMd s2 F.1 F.2 → Q (some (.int 0)) (mH b x s2)) (hQ1 : ∀ s2 m H j, sEx [25, 26] s0 s2 → sqI G n F m H j → j0 < j → mMd s2 (m + (n - j)) (sqM m H G j) → Q (some (.int 1)) (mH b x s2)) : ∀ d i m H j s1 w, i + d = m + (n - j) → i + 1 ≤ m → j0 ≤ j → sqI G n F m H j → sEx [25, 26] s0 s1 → mMd s1 (m + (n - j)) (sqM m H G j) → iWp 4 mX9_squeezes 2 [.ref x, .int (nI i), w] [] (mH b x s1) Q := by
  intro d
  induction d with
  | zero => intro i m H j s1 w h1 h2; omega
  | succ d ih =>
    intro i m H j s1 w hd him hj0 hI hx hM
    have hjn := hI.1
    have hmj := hI.2.1
    have eMi : sqM m H G j i = H i := if_pos (by omega)
    by_cases c : i + 1 < m + (n - j)
    · by_cases c1 : i + 1 < m
      · have eMi1 : sqM m H G j (i + 1) = H (i + 1) := if_pos c1
        obtain ⟨r1, r2⟩ := hI.2.2.2.1 i c1
        refine sqs_no hM c (by omega) (by rw [eMi]; exact hI.2.2.1 i (by omega)) (by rw [eMi, eMi1]; exact r1) (by rw [eMi, eMi1]; exact r2) (fun s2 y1 y2 => ?_)
        exact ih (i + 1) m H j s2 _ (by omega) (by omega) hj0 hI (hx.trans y1) y2
      · obtain rfl : m = i + 1 := by omega
        have hj : j < n := by omega
        have eMi1 : sqM (i + 1) H G j (i + 1) = G j := by
          unfold sqM
          rw [if_neg (by omega), Nat.sub_self]
          rfl
        have zi := hI.2.2.1 i (by omega)
        have hsc : sqC (G j) (i + 1, H) = if eNames (H i) (G j) = true then (if H i 2 = G j 3 then (i, H) else (i + 1, va_up H i (e7 0 (H i 1) (H i 2) (G j 3) 0 0 0))) else if eLike (G j) (eTurn (H i)) = true then (i, H) else (i + 2, va_up H (i + 1) (G j)) := rfl
        have un : eLike (G j) (eTurn (H i)) = true → sqC (G j) (i + 1, H) = (i, H) → iWp 4 mX9_squeezes 2 [.ref x, .int (nI i), w] [] (mH b x s1) Q := by
          intro g1 g2
          refine sqs_un hM c (by omega) (by rw [eMi]; exact zi) (by rw [eMi, eMi1]; exact g1) (fun s2 y1 y2 => ?_)
          rw [sqM_drop rfl, show i + 1 + (n - j) - 2 = i + (n - (j + 1)) by omega] at y2
          exact hQ1 s2 i H (j + 1) (hx.trans y1) (hI.drop hj g2) (by omega) y2
        by_cases c2 : eNames (H i) (G j) = true
        · rw [if_pos c2] at hsc
          by_cases c3 : eLike (G j) (eTurn (H i)) = true
          · rw [if_pos (names_like c2 c3)] at hsc
            exact un c3 hsc
          · refine sqs_jn hM c (by omega) (by rw [eMi]; exact zi) (by rw [eMi, eMi1]; exact c2) (by rw [eMi, eMi1]; exact Bool.eq_false_iff.mpr c3) (fun g s2 y1 y2 => ?_) (fun g s2 y1 y2 => ?_)
            · rw [eMi, eMi1] at g
              rw [if_pos g] at hsc
              rw [sqM_drop rfl, show i + 1 + (n - j) - 2 = i + (n - (j + 1)) by omega] at y2
              exact hQ1 s2 i H (j + 1) (hx.trans y1) (hI.drop hj hsc) (by omega) y2
            · rw [eMi, eMi1] at g
              rw [if_neg g] at hsc
              rw [show i + 1 + (n - j) - 1 = i + 1 + (n - (j + 1)) by omega] at y2
              exact hQ1 s2 (i + 1) _ (j + 1) (hx.trans y1) (hI.join hj c2 hsc) (by omega) (y2.congr (fun q k _ hk => sqM_join rfl zi (eNames_t c2).1 hk))
        · rw [if_neg c2] at hsc
          by_cases c3 : eLike (G j) (eTurn (H i)) = true
          · rw [if_pos c3] at hsc
            exact un c3 hsc
          · rw [if_neg c3] at hsc
            refine sqs_no hM c (by omega) (by rw [eMi]; exact zi) (by rw [eMi, eMi1]; exact Bool.eq_false_iff.mpr c2) (by rw [eMi, eMi1]; exact Bool.eq_false_iff.mpr c3) (fun s2 y1 y2 => ?_)
            have hp := hI.push hj (hz j hj) hsc (fun q hq => by
              obtain rfl : q = i := by omega
              exact ⟨Bool.eq_false_iff.mpr c2, Bool.eq_false_iff.mpr c3⟩)
            refine ih (i + 1) (i + 1 + 1) _ (j + 1) s2 _ (by omega) (by omega) (by omega) hp (hx.trans y1) ?_
            rw [sqM_push, show i + 1 + 1 + (n - (j + 1)) = i + 1 + (n - j) by omega]
            exact y2
    · obtain rfl : m = i + 1 := by omega
      obtain rfl : j = n := by omega
      have hF := hI.2.2.2.2
      rw [Nat.sub_self] at hF hM
      have hF : (i + 1, H) = F := hF
      have e1 := hM.1
      rw [X9_squeezes_2]
      simp only [X9_squeezes_3, X9_squeezes_4, X9_squeezes_5, X9_squeezes_6, X9_squeezes_9, iOb_some, iClr_i, iClr_r, iClr_n, iClr_u, iClr_l, rf_s, rf_n, iB_0, iSum_nil, mg25, e1, nI_1, if_pos (show nI (i + 1 + 0) ≤ nI (i + 1) from Int32.le_refl _)]
      simp only [X9_squeezes_135, X9_squeezes_136, X9_squeezes_136z, X9_squeezes_136o, iOb_some, iClr_i, iClr_r, iClr_n, iClr_u, iClr_l, rf_s, rf_n, iB_0, iSum_nil]
      refine hQ0 s1 hx ?_
      rw [← hF]
      exact hM.congr (fun q k hq _ => congrFun (if_pos hq) k)
end SQZR

/-! tree: the class's Reader, all -/
def rQ (b : iHp) (p q : Nat) (R : Option Nat × tT) (r : Option Value) (h1 : iHp) : Prop := ∃ U w1 w2, h1 = rrH b p q U w1 w2 ∧ U.1 ≤ 40 ∧ ((∃ x, R.1 = some x ∧ r = some (.int (nI x)) ∧ x < 2 ^ 31) ∨ (R.1 = none ∧ r = some (.int (-1)) ∧ U = R.2))
section READ8
variable {h h1 b : iHp} {o sN n k i j l x m a c p q r t u d L st : Nat} {T U V : tT} {va vd v so ky : Int32} {fz : Nat → Int64} {f : Nat → Int32} {K B D : Nat → Int32}
theorem rdK_l (h : rdK f a d T ky m = .inl x) : x = a + 1 := by
  unfold rdK at h
  split at h
  · cases h
  · cases h
    rfl
theorem rdN_l (h : rdN f L a d T = .inl x) : x ≤ a + 1 := by
  unfold rdN at h
  split at h
  · split at h
    · split at h
      · have := rdK_l h
        omega
      · have := rdK_l h
        omega
    · cases h
      exact Nat.le_refl _
  · cases h
    omega
def rsS (fa : Int32) (a d st : Nat) : Int32 × Nat × Nat := if fa = 40 ∧ st = 1 then (0, a + 1, d + 1) else if fa = 44 ∧ 0 < d then (0, a + 1, d) else if fa = 41 ∧ 0 < d then (2, a + 1, d - 1) else (-1, a, d)
theorem ev_readSign (hw : rwAt b q so L fz) (hq : q + 1 < p) (ha : a < L) (hd : d ≤ a) (hs : st = 1 ∨ st = 2) : iEv mX4_readSign [.ref p, .int (nI st)] (rrH b p q T (nI a) (nI d)) (some (.int (rsS (fz a).toInt32 a d st).1)) (rrH b p q T (nI (rsS (fz a).toInt32 a d st).2.1) (nI (rsS (fz a).toInt32 a d st).2.2)) := by
  have hL := hw.2.2
  have w1 := rr_w (p := p) (T := T) (va := nI a) (vd := nI d) hw hq
  have es := ev_rint w1 ha
  refine J4_readSign ?_
  generalize (fz a).toInt32 = y at es
  have tail : ¬ (y = 40 ∧ st = 1) → iWp 4 mX4_readSign 45 [.ref p, .int (nI st), .int y] [] (rrH b p q T (nI a) (nI d)) (fun r' h' => r' = some (.int (rsS y a d st).1) ∧ h' = rrH b p q T (nI (rsS y a d st).2.1) (nI (rsS y a d st).2.2)) := by
    intro n1
    unfold rsS
    rw [if_neg n1]
    by_cases c2 : y = 44 ∧ 0 < d
    · rw [if_pos c2]
      simp only [X4_readSign_45, X4_readSign_46, X4_readSign_48, X4_readSign_51, X4_readSign_52, X4_readSign_55, X4_readSign_58, X4_readSign_59, X4_readSign_60, X4_readSign_63, X4_readSign_64, X4_readSign_65, X4_readSign_68, X4_readSign_69, iOb_some, iClr_i, iClr_r, iClr_n, iClr_u, iClr_l, rf_s, rf_n, iB_0, iSum_nil, c2.1, if_true, rr_g3, if_neg (nI_nle c2.2 (show d < 2 ^ 31 by omega)), rr_g2, nI_1, rr_p2]
      exact ⟨trivial, trivial⟩
    · rw [if_neg c2]
      have e70 : iWp 4 mX4_readSign 45 [.ref p, .int (nI st), .int y] [] (rrH b p q T (nI a) (nI d)) = iWp 4 mX4_readSign 70 [.ref p, .int (nI st), .int y] [] (rrH b p q T (nI a) (nI d)) := by
        funext Q
        by_cases c3 : y = 44
        · have d0 : d = 0 := by
            rcases Nat.eq_zero_or_pos d with z | z
            · exact z
            · exact absurd ⟨c3, z⟩ c2
          simp only [X4_readSign_45, X4_readSign_46, X4_readSign_48, X4_readSign_51, X4_readSign_52, X4_readSign_55, iOb_some, iClr_i, iClr_r, iClr_n, iClr_u, iClr_l, rf_s, rf_n, iB_0, iSum_nil, c3, if_true, rr_g3, d0, if_pos (show nI 0 ≤ 0 by decide)]
        · simp only [X4_readSign_45, X4_readSign_46, X4_readSign_48, iOb_some, iClr_i, iClr_r, iClr_n, iClr_u, iClr_l, rf_s, rf_n, iB_0, iSum_nil, if_neg c3]
      rw [e70]
      by_cases c4 : y = 41 ∧ 0 < d
      · rw [if_pos c4]
        have ed : nI d - 1 = nI (d - 1) := pk_sub (a := d) (b := 1) (by omega)
        simp only [X4_readSign_70, X4_readSign_71, X4_readSign_73, X4_readSign_76, X4_readSign_77, X4_readSign_80, X4_readSign_83, X4_readSign_84, X4_readSign_85, X4_readSign_88, X4_readSign_89, X4_readSign_90, X4_readSign_93, X4_readSign_94, X4_readSign_95, X4_readSign_98, X4_readSign_99, X4_readSign_100, X4_readSign_103, X4_readSign_104, iOb_some, iClr_i, iClr_r, iClr_n, iClr_u, iClr_l, rf_s, rf_n, iB_0, iSum_nil, c4.1, if_true, rr_g3, if_neg (nI_nle c4.2 (show d < 2 ^ 31 by omega)), ed, rr_p3, rr_g2, nI_1, rr_p2]
        exact ⟨trivial, trivial⟩
      · rw [if_neg c4]
        by_cases c5 : y = 41
        · have d0 : d = 0 := by
            rcases Nat.eq_zero_or_pos d with z | z
            · exact z
            · exact absurd ⟨c5, z⟩ c4
          simp only [X4_readSign_70, X4_readSign_71, X4_readSign_73, X4_readSign_76, X4_readSign_77, X4_readSign_80, iOb_some, iClr_i, iClr_r, iClr_n, iClr_u, iClr_l, rf_s, rf_n, iB_0, iSum_nil, c5, if_true, rr_g3, d0, if_pos (show nI 0 ≤ 0 by decide)]
          simp only [X4_readSign_105, X4_readSign_106, iOb_some, iClr_i, iClr_r, iClr_n, iClr_u, iClr_l, rf_s, rf_n, iB_0, iSum_nil]
          exact ⟨trivial, trivial⟩
        · simp only [X4_readSign_70, X4_readSign_71, X4_readSign_73, iOb_some, iClr_i, iClr_r, iClr_n, iClr_u, iClr_l, rf_s, rf_n, iB_0, iSum_nil, if_neg c5]
          simp only [X4_readSign_105, X4_readSign_106, iOb_some, iClr_i, iClr_r, iClr_n, iClr_u, iClr_l, rf_s, rf_n, iB_0, iSum_nil]
          exact ⟨trivial, trivial⟩
  by_cases c0 : y = 40
  · rcases hs with z | z
    · subst z
      have : rsS y a d 1 = (0, a + 1, d + 1) := if_pos ⟨c0, rfl⟩
      rw [this]
      simp only [X4_readSign_0, X4_readSign_1, X4_readSign_4, X4_readSign_5, X4_readSign_8 es w1.o, X4_readSign_11, X4_readSign_12, X4_readSign_13, X4_readSign_15, X4_readSign_18, X4_readSign_19, X4_readSign_20, X4_readSign_23, X4_readSign_24, X4_readSign_25, X4_readSign_28, X4_readSign_29, X4_readSign_30, X4_readSign_33, X4_readSign_34, X4_readSign_35, X4_readSign_38, X4_readSign_39, X4_readSign_40, X4_readSign_43, X4_readSign_44, iOb_some, iClr_i, iClr_r, iClr_n, iClr_u, iClr_l, rf_s, rf_n, iB_0, iSum_nil, rr_g1, rr_g2, c0, if_true, show nI 1 = 1 from rfl, rr_g3, nI_1, rr_p3, rr_p2]
      exact ⟨trivial, trivial⟩
    · subst z
      have n1 : ¬ (y = 40 ∧ 2 = 1) := fun z => absurd z.2 (by decide)
      have n2 : ¬ nI 2 = 1 := by decide
      simp only [X4_readSign_0, X4_readSign_1, X4_readSign_4, X4_readSign_5, X4_readSign_8 es w1.o, X4_readSign_11, X4_readSign_12, X4_readSign_13, X4_readSign_15, X4_readSign_18, X4_readSign_19, X4_readSign_20, iOb_some, iClr_i, iClr_r, iClr_n, iClr_u, iClr_l, rf_s, rf_n, iB_0, iSum_nil, rr_g1, rr_g2, c0, if_true, if_neg n2]
      rw [← c0]
      exact tail n1
  · simp only [X4_readSign_0, X4_readSign_1, X4_readSign_4, X4_readSign_5, X4_readSign_8 es w1.o, X4_readSign_11, X4_readSign_12, X4_readSign_13, X4_readSign_15, iOb_some, iClr_i, iClr_r, iClr_n, iClr_u, iClr_l, rf_s, rf_n, iB_0, iSum_nil, rr_g1, rr_g2, if_neg c0]
    exact tail (fun z => c0 z.1)
theorem read_end {w : Value} (hL : L ≤ 160) (ha : a = L) (hT : T.1 ≤ 40) (hst : st = 0 ∨ st = 1 ∨ st = 2) (hd : d ≤ a) (ht : t ≤ a) : iWp 6 mX4_read 12 [.ref p, .int (nI L), .int (nI st), .int (nI t), w] [] (rrH b p q T (nI a) (nI d)) (rQ b p q (rd (fun j => (fz j).toInt32) L a d st T)) := by
  have hna : ¬ a < L := by omega
  subst ha
  have post : iWp 6 mX4_read 71 [.ref p, .int (nI a), .int (nI st), .int (nI t), w] [] (rrH b p q T (nI a) (nI d)) (rQ b p q (rd (fun j => (fz j).toInt32) a a d st T)) := by
    rw [rd_end hna]
    by_cases c1 : st = 0
    · subst c1
      simp only [X4_read_71, X4_read_72, X4_read_75, X4_read_76, X4_read_79, X4_read_82, X4_read_83, X4_read_86, X4_read_87, iOb_some, iClr_i, iClr_r, iClr_n, iClr_u, iClr_l, rf_s, rf_n, iB_0, iSum_nil, if_pos (show nI 0 = 0 from rfl)]
      exact ⟨T, _, _, rfl, hT, Or.inl ⟨a, by unfold rdE; rw [if_neg (fun z => z.1 rfl)], rfl, by omega⟩⟩
    · have n1 : ¬ nI st = 0 := nI_ne0 (by omega) (by omega)
      by_cases c2 : d = 0
      · subst c2
        simp only [X4_read_71, X4_read_72, X4_read_75, X4_read_76, X4_read_79, X4_read_82, X4_read_83, X4_read_86, X4_read_87, iOb_some, iClr_i, iClr_r, iClr_n, iClr_u, iClr_l, rf_s, rf_n, iB_0, iSum_nil, if_neg n1, rr_g3, if_pos (show nI 0 = 0 from rfl)]
        refine ⟨T, _, _, rfl, hT, Or.inr ⟨by unfold rdE; rw [if_pos ⟨c1, rfl⟩], rfl, by unfold rdE; rw [if_pos ⟨c1, rfl⟩]⟩⟩
      · simp only [X4_read_71, X4_read_72, X4_read_75, X4_read_76, X4_read_79, X4_read_82, X4_read_83, X4_read_86, X4_read_87, iOb_some, iClr_i, iClr_r, iClr_n, iClr_u, iClr_l, rf_s, rf_n, iB_0, iSum_nil, if_neg n1, rr_g3, if_neg (nI_ne0 (show 0 < d by omega) (show d < 2 ^ 31 by omega))]
        exact ⟨T, _, _, rfl, hT, Or.inl ⟨a, by unfold rdE; rw [if_neg (fun z => c2 z.2)], rfl, by omega⟩⟩
  rw [X4_read_12]
  by_cases c : t < a
  · simp only [X4_read_13, X4_read_14, X4_read_17, X4_read_18, X4_read_21, X4_read_22, iOb_some, iClr_i, iClr_r, iClr_n, iClr_u, iClr_l, rf_s, rf_n, iB_0, iSum_nil, if_neg (nI_ge c (show a < 2 ^ 31 by omega)), rr_g2, if_pos (Int32.le_refl (nI a))]
    exact post
  · simp only [X4_read_13, X4_read_14, iOb_some, iClr_i, iClr_r, iClr_n, iClr_u, iClr_l, rf_s, rf_n, iB_0, iSum_nil, if_pos (show nI a ≤ nI t from nI_le (by omega) (by omega))]
    exact post
theorem read_loop (hw : rwAt b q so L fz) (hq : q + 1 < p) : ∀ k a d st T t w, L - a ≤ k → a ≤ L → d ≤ a → (st = 0 ∨ st = 1 ∨ st = 2) → T.1 ≤ 40 → t ≤ a → iWp 6 mX4_read 12 [.ref p, .int (nI L), .int (nI st), .int (nI t), w] [] (rrH b p q T (nI a) (nI d)) (rQ b p q (rd (fun j => (fz j).toInt32) L a d st T)) := by
  have hL := hw.2.2
  intro k
  induction k with
  | zero =>
    intro a d st T t w hk ha hd hst hT ht
    exact read_end hL (by omega) hT hst hd ht
  | succ k ih =>
    intro a d st T t w hk ha hd hst hT ht
    by_cases hna : a < L
    · rw [X4_read_12]
      rcases hst with rfl | hst
      · obtain ⟨r, h1, ev, hq1⟩ := ev_readNode (d := d) hw hq hna hT
        rw [rd_s hna, if_pos rfl]
        rcases hq1 with ⟨x, w', r1, rfl, rfl⟩ | ⟨y, r1, rfl, rfl⟩
        · have hx := rdN_l r1
          rw [r1]
          dsimp only
          simp only [X4_read_13, X4_read_14, X4_read_17, X4_read_18, X4_read_21, X4_read_22, X4_read_25, X4_read_26, X4_read_29, X4_read_30 ev rr_o, X4_read_33, X4_read_35, X4_read_37, X4_read_38, X4_read_41, X4_read_43, iOb_some, iClr_i, iClr_r, iClr_n, iClr_u, iClr_l, rf_s, rf_n, iB_0, iSum_nil, if_neg (nI_ge (show t < L by omega) (show L < 2 ^ 31 by omega)), rr_g2, if_neg (nI_ge hna (show L < 2 ^ 31 by omega)), if_pos (show nI 0 = 0 from rfl), if_neg (show ¬ nI x = -1 from oI_ne (show x < 2 ^ 31 by omega))]
          exact ⟨T, _, _, rfl, hT, Or.inl ⟨x, rfl, rfl, by omega⟩⟩
        · obtain ⟨y1, y2, y3, y4, y5⟩ := rdN_r r1
          rw [r1]
          dsimp only
          simp only [X4_read_13, X4_read_14, X4_read_17, X4_read_18, X4_read_21, X4_read_22, X4_read_25, X4_read_26, X4_read_29, X4_read_30 ev rr_o, X4_read_33, X4_read_35, X4_read_37, X4_read_38, X4_read_41, X4_read_43, X4_read_44, X4_read_45, X4_read_46, X4_read_49, X4_read_50, X4_read_54, X4_read_55, X4_read_56, X4_read_57, X4_read_60, X4_read_61, X4_read_64, X4_read_65, X4_read_68, iOb_some, iClr_i, iClr_r, iClr_n, iClr_u, iClr_l, rf_s, rf_n, iB_0, iSum_nil, if_neg (nI_ge (show t < L by omega) (show L < 2 ^ 31 by omega)), rr_g2, if_neg (nI_ge hna (show L < 2 ^ 31 by omega)), if_pos (show nI 0 = 0 from rfl), if_true, nI_1]
          exact ih y.1 d 1 y.2 (t + 1) _ (by omega) y2 (by omega) (Or.inr (Or.inl rfl)) (by omega) (by omega)
      · have hs0 : ¬ st = 0 := by omega
        have ev := ev_readSign (p := p) (T := T) hw hq hna hd hst
        rw [rd_s hna, if_neg hs0]
        unfold rsS at ev
        have go : ∀ (st' a' d' : Nat), (st' = 0 ∨ st' = 1 ∨ st' = 2) → iEv mX4_readSign [.ref p, .int (nI st)] (rrH b p q T (nI a) (nI d)) (some (.int (nI st'))) (rrH b p q T (nI a') (nI d')) → a' = a + 1 → d' ≤ a' → iWp 6 mX4_read 13 [.ref p, .int (nI L), .int (nI st), .int (nI t), w] [.int (nI t)] (rrH b p q T (nI a) (nI d)) (rQ b p q (rd (fun j => (fz j).toInt32) L a' d' st' T)) := by
          intro st' a' d' s1 ev h2 h3
          subst h2
          simp only [X4_read_13, X4_read_14, X4_read_17, X4_read_18, X4_read_21, X4_read_22, X4_read_25, X4_read_26, X4_read_29, X4_read_33, X4_read_35, X4_read_37, X4_read_38, X4_read_41, X4_read_43, X4_read_44, X4_read_45, X4_read_46, X4_read_49, X4_read_50, X4_read_51 ev rr_o, X4_read_54, X4_read_55, X4_read_56, X4_read_57, X4_read_60, X4_read_61, X4_read_64, X4_read_65, X4_read_68, iOb_some, iClr_i, iClr_r, iClr_n, iClr_u, iClr_l, rf_s, rf_n, iB_0, iSum_nil, if_neg (nI_ge (show t < L by omega) (show L < 2 ^ 31 by omega)), rr_g2, if_neg (nI_ge hna (show L < 2 ^ 31 by omega)), if_neg (nI_ne0 (show 0 < st by omega) (show st < 2 ^ 31 by omega)), if_neg (show ¬ nI st' = -1 from oI_ne (show st' < 2 ^ 31 by omega)), nI_1]
          exact ih (a + 1) d' st' T (t + 1) _ (by omega) (by omega) h3 s1 hT (by omega)
        by_cases c1 : (fz a).toInt32 = 40 ∧ st = 1
        · rw [if_pos c1] at ev ⊢
          exact go 0 (a + 1) (d + 1) (Or.inl rfl) ev rfl (by omega)
        · rw [if_neg c1] at ev ⊢
          by_cases c2 : (fz a).toInt32 = 44 ∧ 0 < d
          · rw [if_pos c2] at ev ⊢
            exact go 0 (a + 1) d (Or.inl rfl) ev rfl (by omega)
          · rw [if_neg c2] at ev ⊢
            by_cases c3 : (fz a).toInt32 = 41 ∧ 0 < d
            · rw [if_pos c3] at ev ⊢
              exact go 2 (a + 1) (d - 1) (Or.inr (Or.inr rfl)) ev rfl (by omega)
            · rw [if_neg c3] at ev ⊢
              simp only [X4_read_13, X4_read_14, X4_read_17, X4_read_18, X4_read_21, X4_read_22, X4_read_25, X4_read_26, X4_read_29, X4_read_33, X4_read_35, X4_read_37, X4_read_38, X4_read_41, X4_read_43, X4_read_44, X4_read_45, X4_read_46, X4_read_49, X4_read_50, X4_read_51 ev rr_o, X4_read_54, X4_read_55, X4_read_56, X4_read_57, X4_read_60, X4_read_61, X4_read_64, iOb_some, iClr_i, iClr_r, iClr_n, iClr_u, iClr_l, rf_s, rf_n, iB_0, iSum_nil, if_neg (nI_ge (show t < L by omega) (show L < 2 ^ 31 by omega)), rr_g2, if_neg (nI_ge hna (show L < 2 ^ 31 by omega)), if_neg (nI_ne0 (show 0 < st by omega) (show st < 2 ^ 31 by omega)), if_true]
              exact ⟨T, _, _, rfl, hT, Or.inl ⟨a, rfl, rfl, by omega⟩⟩
    · exact read_end hL (by omega) hT hst hd ht
end READ8

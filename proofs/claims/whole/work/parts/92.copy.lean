/-! copy, on both sides -/
section COPYS
variable {h h' : iHp} {o sN n k i j l x m a c p q : Nat} {im : Option Nat} {R E T P : Nat → Option Nat} {sh rf C : Nat → Int32} {W : wW} {b : iHp} {s s' : mS} {v : Int32} {f g : Nat → Int64} {so : Int32}
theorem run_n (hn : n ≤ 160) (hi : i < 2 ^ 31) (hl : l < 2 ^ 31) : nI n - nI l < nI i ↔ n < i + l := by
  rw [Int32.lt_iff_toInt_lt, Int32.toInt_sub, nI_toInt (show n < 2 ^ 31 by omega), nI_toInt hi, nI_toInt hl, Int.bmod_eq_of_le (by omega) (by omega)]
  omega
theorem rwRun_n (hn : n ≤ 160) {i l : Int32} : rwRun n i l = true ↔ ∃ i' l' : Nat, i = nI i' ∧ l = nI l' ∧ i' + l' ≤ n := by
  unfold rwRun
  constructor
  · intro z
    rw [Bool.and_eq_true, Bool.and_eq_true] at z
    obtain ⟨⟨z1, z2⟩, z3⟩ := z
    have z1 : ¬ i < 0 := by simpa using z1
    have z2 : ¬ l < 0 := by simpa using z2
    obtain ⟨i', e1, rfl⟩ := nI_of z1
    obtain ⟨l', e2, rfl⟩ := nI_of z2
    have z3 : ¬ nI n - nI l' < nI i' := fun y => by rw [decide_eq_true y] at z3; cases z3
    rw [run_n hn e1 e2] at z3
    exact ⟨i', l', rfl, rfl, by omega⟩
  · rintro ⟨i', l', rfl, rfl, z⟩
    have e1 : ¬ nI i' < 0 := nI_pos (by omega)
    have e2 : ¬ nI l' < 0 := nI_pos (by omega)
    have e3 : ¬ nI n - nI l' < nI i' := fun y => by rw [run_n hn (by omega) (by omega)] at y; omega
    rw [decide_eq_false e1, decide_eq_false e2, decide_eq_false e3]
    rfl
theorem lg_gt {y z : Nat} (hy : y < 2 ^ 63) (hz : z < 2 ^ 63) : (0 < lg_cmp (lN y) (lN z)) = (z < y) := by
  unfold lg_cmp
  have h1 := pk_lLT (a := z) (b := y) hz hy
  have h2 := pk_lEQ (a := y) (b := z) hy hz
  by_cases c : z < y
  · rw [if_pos (h1.mpr c)]
    simp [c]
  · rw [if_neg (fun w => c (h1.mp w))]
    by_cases c2 : lN y = lN z
    · rw [if_pos c2]
      simp [c]
    · rw [if_neg c2]
      simp [c]
theorem lg_le {y z : Nat} (hy : y < 2 ^ 63) (hz : z < 2 ^ 63) : (lg_cmp (lN y) (lN z) ≤ 0) = (y ≤ z) := by
  have := lg_gt hy hz
  have e : (lg_cmp (lN y) (lN z) ≤ 0) = ¬ (0 < lg_cmp (lN y) (lN z)) := propext Int32.not_lt.symm
  rw [e, this]
  exact propext Nat.not_lt
theorem iCpyL_of (e : h.1 p = some (.inl (1, m, .inr (.inl f)))) (e2 : h.1 q = some (.inl (1, k, .inr (.inl g)))) (h1 : i + l ≤ m) (h2 : j + l ≤ k) (hm : m < 2 ^ 31) (hk : k < 2 ^ 31) : iCpy h p (nI i) q (nI j) (nI l) = some (iSet h q (.inl (1, k, .inr (.inl (va_cpy f g i j l))))) := by
  unfold iCpy
  rw [e, e2]
  dsimp only
  rw [nI_clamp (show i < 2 ^ 31 by omega), nI_clamp (show j < 2 ^ 31 by omega), nI_clamp (show l < 2 ^ 31 by omega), if_pos ⟨rfl, rfl, nI_pos (by omega), nI_pos (by omega), nI_pos (by omega), h1, h2⟩]
def aCopy (W : wW) (p q i j n : Int32) : Int32 × wW := match iIx p 8, iIx q 8 with
  | some a, some c => match (W.2.2.1 a).1, (W.2.2.1 c).1 with
    | some z, some y => if z.1 = y.1 then (if n < 0 then (-4, wRef W 4) else if rwRun z.2.1 i n = true ∧ rwRun y.2.1 j n = true then (1, wSh W c (some (y.1, y.2.1, va_cpy z.2.2 y.2.2 i.toNatClampNeg j.toNatClampNeg n.toNatClampNeg), -1)) else (-5, wRef W 5)) else (-2, wRef W 2)
    | _, _ => if (W.2.2.1 a).2 = -1 ∧ (W.2.2.1 c).2 = -1 then (-3, wRef W 3) else (-2, wRef W 2)
  | _, _ => (-1, wRef W 1)
theorem c8_rowV (hR : cRe h o sN im R sh rf n k E C T P W) (hi : i < 8) (e : (W.2.2.1 i).1 = none) : iEv mX8_rowAt [.ref o, .int (nI i)] h (some .null) h := c8_rowN hR (fun q hq => by rw [iIx_s hi (by decide)] at hq; cases hq; exact e)
theorem c8_copy (hR : cRep h o W) (hW : wOk W) (p q i j l : Int32) : ∃ r h1, iEv mX8_copy [.ref o, .int p, .int q, .int i, .int j, .int l] h r h1 ∧ c8P h o (aCopy W p q i j l) r h1 := by
  obtain ⟨sN, im, R, sh, rf, n, k, E, C, T, P, hR⟩ := hR
  refine I8_copy ?_
  unfold aCopy
  have es := c8_isShelf (h := h) p
  have eq := c8_isShelf (h := h) q
  rcases iIx_cases p (n := 8) (by decide) with ⟨e, z⟩ | ⟨a, ha, rfl, e⟩
  · rw [e] at es ⊢
    simp only [X8_copy_0, X8_copy_1 es, X8_copy_4, X8_copy_7, X8_copy_11, X8_copy_14, X8_copy_15, X8_copy_16 (ev8_refuse hR (v := -1) (r := 1) (by decide) (by decide) rfl) hR.ob, X8_copy_19, iOb_some, iClr_i, iClr_r, iClr_n, iClr_u, iClr_l, rf_s, rf_n, iB_0, iSum_nil, Option.isSome_none, if_true]
    exact c8_end hR (by decide)
  rcases iIx_cases q (n := 8) (by decide) with ⟨f, z⟩ | ⟨c, hc, rfl, f⟩
  · rw [e] at es ⊢
    rw [f] at eq ⊢
    simp only [X8_copy_0, X8_copy_1 es, X8_copy_4, X8_copy_7, X8_copy_8 eq, X8_copy_11, X8_copy_14, X8_copy_15, X8_copy_16 (ev8_refuse hR (v := -1) (r := 1) (by decide) (by decide) rfl) hR.ob, X8_copy_19, iOb_some, iClr_i, iClr_r, iClr_n, iClr_u, iClr_l, rf_s, rf_n, iB_0, iSum_nil, Option.isSome_some, Option.isSome_none, Bool.true_eq_false, if_false, if_true]
    exact c8_end hR (by decide)
  rw [e] at es ⊢
  rw [f] at eq ⊢
  dsimp only
  have pre : ∀ Q : Option Value → iHp → Prop, iWp 3 mX8_copy 0 [.ref o, .int (nI a), .int (nI c), .int i, .int j, .int l, iU, iU] [] h Q = iWp 3 mX8_copy 20 [.ref o, .int (nI a), .int (nI c), .int i, .int j, .int l, iU, iU] [] h Q := by
    intro Q
    simp only [X8_copy_0, X8_copy_1 es, X8_copy_4, X8_copy_7, X8_copy_8 eq, X8_copy_11, iOb_some, iClr_i, iClr_r, iClr_n, iClr_u, iClr_l, rf_s, rf_n, iB_0, iSum_nil, Option.isSome_some, Bool.true_eq_false, if_false]
  rw [pre]
  have s1 := hR.shv ha
  have s2 := hR.shv hc
  have h8a := hW.2.2 a ha
  have h8c := hW.2.2 c hc
  unfold shOk at h8a h8c
  have r2 := ev8_refuse hR (v := -2) (r := 2) (by decide) (by decide) rfl
  have r3 := ev8_refuse hR (v := -3) (r := 3) (by decide) (by decide) rfl
  cases e1 : (W.2.2.1 a).1 with
  | none =>
    have va := c8_rowV hR ha e1
    cases e2 : (W.2.2.1 c).1 with
    | none =>
      have vc := c8_rowV hR hc e2
      dsimp only
      by_cases k1 : (W.2.2.1 a).2 = -1
      · by_cases k2 : (W.2.2.1 c).2 = -1
        · rw [if_pos ⟨k1, k2⟩]
          simp only [X8_copy_20, X8_copy_21, X8_copy_22 va hR.ob, X8_copy_25, X8_copy_25n, X8_copy_27, X8_copy_28, X8_copy_29 vc hR.ob, X8_copy_32, X8_copy_32n, X8_copy_34, X8_copy_35, X8_copy_38, X8_copy_39, X8_copy_40, X8_copy_41, X8_copy_44, X8_copy_45, X8_copy_48, X8_copy_49, X8_copy_50, X8_copy_51, X8_copy_54, X8_copy_55, X8_copy_60, X8_copy_61, X8_copy_61n, X8_copy_63, X8_copy_63n, X8_copy_66, X8_copy_66n, X8_copy_68, X8_copy_68n, X8_copy_71, X8_copy_71n, X8_copy_73, X8_copy_76, X8_copy_76n, X8_copy_78, X8_copy_81, X8_copy_84, X8_copy_85, X8_copy_90, X8_copy_91, X8_copy_91n, X8_copy_93, X8_copy_93n, X8_copy_96, X8_copy_96n, X8_copy_98, X8_copy_98n, X8_copy_101, X8_copy_102, X8_copy_104 r3 hR.ob, X8_copy_107, iOb_some, iClr_i, iClr_r, iClr_n, iClr_u, iClr_l, rf_s, rf_n, iB_0, iSum_nil, hR.g1, hR.lS ha, hR.lS hc, s1, s2, if_pos k1, if_pos k2]
          exact c8_end hR (by decide)
        · rw [if_neg (fun z => k2 z.2)]
          simp only [X8_copy_20, X8_copy_21, X8_copy_22 va hR.ob, X8_copy_25, X8_copy_25n, X8_copy_27, X8_copy_28, X8_copy_29 vc hR.ob, X8_copy_32, X8_copy_32n, X8_copy_34, X8_copy_35, X8_copy_38, X8_copy_39, X8_copy_40, X8_copy_41, X8_copy_44, X8_copy_45, X8_copy_48, X8_copy_49, X8_copy_50, X8_copy_51, X8_copy_54, X8_copy_55, X8_copy_57 r2 hR.ob, X8_copy_60, iOb_some, iClr_i, iClr_r, iClr_n, iClr_u, iClr_l, rf_s, rf_n, iB_0, iSum_nil, hR.g1, hR.lS ha, hR.lS hc, s1, s2, if_pos k1, if_neg k2]
          exact c8_end hR (by decide)
      · rw [if_neg (fun z => k1 z.1)]
        simp only [X8_copy_20, X8_copy_21, X8_copy_22 va hR.ob, X8_copy_25, X8_copy_25n, X8_copy_27, X8_copy_28, X8_copy_29 vc hR.ob, X8_copy_32, X8_copy_32n, X8_copy_34, X8_copy_35, X8_copy_38, X8_copy_39, X8_copy_40, X8_copy_41, X8_copy_44, X8_copy_45, X8_copy_48, X8_copy_49, X8_copy_50, X8_copy_51, X8_copy_54, X8_copy_55, X8_copy_57 r2 hR.ob, X8_copy_60, iOb_some, iClr_i, iClr_r, iClr_n, iClr_u, iClr_l, rf_s, rf_n, iB_0, iSum_nil, hR.g1, hR.lS ha, hR.lS hc, s1, s2, if_neg k1]
        exact c8_end hR (by decide)
    | some y =>
      rw [e2] at h8c
      obtain ⟨ac, fc, rc, -⟩ := hR.rS hc e2
      have vc := c8_row hR hc rc
      dsimp only
      by_cases k1 : (W.2.2.1 a).2 = -1
      · rw [if_pos ⟨k1, h8c.2.2⟩]
        simp only [X8_copy_20, X8_copy_21, X8_copy_22 va hR.ob, X8_copy_25, X8_copy_25n, X8_copy_27, X8_copy_28, X8_copy_29 vc hR.ob, X8_copy_32, X8_copy_32n, X8_copy_34, X8_copy_35, X8_copy_38, X8_copy_39, X8_copy_40, X8_copy_41, X8_copy_44, X8_copy_45, X8_copy_48, X8_copy_49, X8_copy_50, X8_copy_51, X8_copy_54, X8_copy_55, X8_copy_60, X8_copy_61, X8_copy_61n, X8_copy_63, X8_copy_63n, X8_copy_66, X8_copy_66n, X8_copy_68, X8_copy_68n, X8_copy_71, X8_copy_71n, X8_copy_73, X8_copy_76, X8_copy_76n, X8_copy_78, X8_copy_81, X8_copy_84, X8_copy_85, X8_copy_90, X8_copy_91, X8_copy_91n, X8_copy_93, X8_copy_93n, X8_copy_96, X8_copy_96n, X8_copy_98, X8_copy_98n, X8_copy_101, X8_copy_102, X8_copy_104 r3 hR.ob, X8_copy_107, iOb_some, iClr_i, iClr_r, iClr_n, iClr_u, iClr_l, rf_s, rf_n, iB_0, iSum_nil, hR.g1, hR.lS ha, hR.lS hc, s1, s2, if_pos k1, if_pos h8c.2.2]
        exact c8_end hR (by decide)
      · rw [if_neg (fun z => k1 z.1)]
        simp only [X8_copy_20, X8_copy_21, X8_copy_22 va hR.ob, X8_copy_25, X8_copy_25n, X8_copy_27, X8_copy_28, X8_copy_29 vc hR.ob, X8_copy_32, X8_copy_32n, X8_copy_34, X8_copy_35, X8_copy_38, X8_copy_39, X8_copy_40, X8_copy_41, X8_copy_44, X8_copy_45, X8_copy_48, X8_copy_49, X8_copy_50, X8_copy_51, X8_copy_54, X8_copy_55, X8_copy_57 r2 hR.ob, X8_copy_60, iOb_some, iClr_i, iClr_r, iClr_n, iClr_u, iClr_l, rf_s, rf_n, iB_0, iSum_nil, hR.g1, hR.lS ha, hR.lS hc, s1, s2, if_neg k1]
        exact c8_end hR (by decide)
  | some z =>
    rw [e1] at h8a
    obtain ⟨aa, fa, ra, wa, wa2, oa, oa2⟩ := hR.rS ha e1
    have va := c8_row hR ha ra
    cases e2 : (W.2.2.1 c).1 with
    | none =>
      have vc := c8_rowV hR hc e2
      dsimp only
      by_cases k2 : (W.2.2.1 c).2 = -1
      · rw [if_pos ⟨h8a.2.2, k2⟩]
        simp only [X8_copy_20, X8_copy_21, X8_copy_22 va hR.ob, X8_copy_25, X8_copy_25n, X8_copy_27, X8_copy_28, X8_copy_29 vc hR.ob, X8_copy_32, X8_copy_32n, X8_copy_34, X8_copy_35, X8_copy_38, X8_copy_39, X8_copy_40, X8_copy_41, X8_copy_44, X8_copy_45, X8_copy_48, X8_copy_49, X8_copy_50, X8_copy_51, X8_copy_54, X8_copy_55, X8_copy_60, X8_copy_61, X8_copy_61n, X8_copy_63, X8_copy_63n, X8_copy_66, X8_copy_66n, X8_copy_68, X8_copy_68n, X8_copy_71, X8_copy_71n, X8_copy_73, X8_copy_76, X8_copy_76n, X8_copy_78, X8_copy_81, X8_copy_84, X8_copy_85, X8_copy_90, X8_copy_91, X8_copy_91n, X8_copy_93, X8_copy_93n, X8_copy_96, X8_copy_96n, X8_copy_98, X8_copy_98n, X8_copy_101, X8_copy_102, X8_copy_104 r3 hR.ob, X8_copy_107, iOb_some, iClr_i, iClr_r, iClr_n, iClr_u, iClr_l, rf_s, rf_n, iB_0, iSum_nil, hR.g1, hR.lS ha, hR.lS hc, s1, s2, if_pos k2, if_pos h8a.2.2]
        exact c8_end hR (by decide)
      · rw [if_neg (fun z => k2 z.2)]
        simp only [X8_copy_20, X8_copy_21, X8_copy_22 va hR.ob, X8_copy_25, X8_copy_25n, X8_copy_27, X8_copy_28, X8_copy_29 vc hR.ob, X8_copy_32, X8_copy_32n, X8_copy_34, X8_copy_35, X8_copy_38, X8_copy_39, X8_copy_40, X8_copy_41, X8_copy_44, X8_copy_45, X8_copy_48, X8_copy_49, X8_copy_50, X8_copy_51, X8_copy_54, X8_copy_55, X8_copy_57 r2 hR.ob, X8_copy_60, iOb_some, iClr_i, iClr_r, iClr_n, iClr_u, iClr_l, rf_s, rf_n, iB_0, iSum_nil, hR.g1, hR.lS ha, hR.lS hc, s1, s2, if_neg k2, if_pos h8a.2.2]
        exact c8_end hR (by decide)
    | some y =>
      rw [e2] at h8c
      obtain ⟨ac, fc, rc, wc, wc2, oc1, oc2⟩ := hR.rS hc e2
      have vc := c8_row hR hc rc
      dsimp only
      by_cases k3 : z.1 = y.1
      · rw [if_pos k3]
        by_cases k4 : l < 0
        · rw [if_pos k4]
          simp only [X8_copy_20, X8_copy_21, X8_copy_22 va hR.ob, X8_copy_25, X8_copy_25n, X8_copy_27, X8_copy_28, X8_copy_29 vc hR.ob, X8_copy_32, X8_copy_32n, X8_copy_34, X8_copy_35, X8_copy_38, X8_copy_39, X8_copy_40, X8_copy_41, X8_copy_44, X8_copy_45, X8_copy_48, X8_copy_49, X8_copy_50, X8_copy_51, X8_copy_54, X8_copy_55, X8_copy_60, X8_copy_61, X8_copy_61n, X8_copy_63, X8_copy_63n, X8_copy_66, X8_copy_66n, X8_copy_68, X8_copy_68n, X8_copy_71, X8_copy_71n, X8_copy_73, X8_copy_76, X8_copy_76n, X8_copy_78, X8_copy_81, X8_copy_84, X8_copy_85, X8_copy_90, X8_copy_91, X8_copy_91n, X8_copy_93, X8_copy_93n, X8_copy_96, X8_copy_96n, X8_copy_98, X8_copy_98n, X8_copy_101, X8_copy_102, X8_copy_107, X8_copy_108, X8_copy_110, X8_copy_113, X8_copy_114, X8_copy_116 (ev8_refuse hR (v := -4) (r := 4) (by decide) (by decide) rfl) hR.ob, X8_copy_119, iOb_some, iClr_i, iClr_r, iClr_n, iClr_u, iClr_l, rf_s, rf_n, iB_0, iSum_nil, hR.g1, hR.lS ha, hR.lS hc, s1, s2, if_pos h8a.2.2, if_pos h8c.2.2, wa.s, wc.s, if_pos k3, if_neg (Int32.not_le.mpr k4)]
          exact c8_end hR (by decide)
        · rw [if_neg k4]
          have pre2 : ∀ Q : Option Value → iHp → Prop, iWp 3 mX8_copy 20 [.ref o, .int (nI a), .int (nI c), .int i, .int j, .int l, iU, iU] [] h Q = iWp 3 mX8_copy 120 [.ref o, .int (nI a), .int (nI c), .int i, .int j, .int l, .ref aa, .ref ac] [] h Q := by
            intro Q
            simp only [X8_copy_20, X8_copy_21, X8_copy_22 va hR.ob, X8_copy_25, X8_copy_25n, X8_copy_27, X8_copy_28, X8_copy_29 vc hR.ob, X8_copy_32, X8_copy_32n, X8_copy_34, X8_copy_35, X8_copy_38, X8_copy_39, X8_copy_40, X8_copy_41, X8_copy_44, X8_copy_45, X8_copy_48, X8_copy_49, X8_copy_50, X8_copy_51, X8_copy_54, X8_copy_55, X8_copy_60, X8_copy_61, X8_copy_61n, X8_copy_63, X8_copy_63n, X8_copy_66, X8_copy_66n, X8_copy_68, X8_copy_68n, X8_copy_71, X8_copy_71n, X8_copy_73, X8_copy_76, X8_copy_76n, X8_copy_78, X8_copy_81, X8_copy_84, X8_copy_85, X8_copy_90, X8_copy_91, X8_copy_91n, X8_copy_93, X8_copy_93n, X8_copy_96, X8_copy_96n, X8_copy_98, X8_copy_98n, X8_copy_101, X8_copy_102, X8_copy_107, X8_copy_108, X8_copy_110, iOb_some, iClr_i, iClr_r, iClr_n, iClr_u, iClr_l, rf_s, rf_n, iB_0, iSum_nil, hR.g1, hR.lS ha, hR.lS hc, s1, s2, if_pos h8a.2.2, if_pos h8c.2.2, wa.s, wc.s, if_pos k3, if_pos (Int32.not_lt.mp k4)]
          rw [pre2]
          have u1 := ev_rrun wa i l
          have u2 := ev_rrun wc j l
          have r5 := ev8_refuse hR (v := -5) (r := 5) (by decide) (by decide) rfl
          by_cases k5 : rwRun z.2.1 i l = true
          · rw [k5] at u1
            by_cases k6 : rwRun y.2.1 j l = true
            · rw [k6] at u2
              rw [if_pos ⟨k5, k6⟩]
              obtain ⟨i', l', rfl, rfl, b1⟩ := (rwRun_n wa.2.2).mp k5
              obtain ⟨j', l2, rfl, eL, b2⟩ := (rwRun_n wc.2.2).mp k6
              have w16a := wa.2.2
              have w16c := wc.2.2
              have hl' : l' < 2 ^ 31 := by omega
              have hl2 : l2 < 2 ^ 31 := by omega
              obtain rfl : l' = l2 := (nI_eq hl' hl2).mp eL
              have ec := iCpyL_of wa.2.1 wc.2.1 b1 b2 (by omega) (by omega)
              rw [nI_clamp (show i' < 2 ^ 31 by omega), nI_clamp (show j' < 2 ^ 31 by omega), nI_clamp hl']
              simp only [X8_copy_120, X8_copy_120n, X8_copy_122, X8_copy_123, X8_copy_125 u1 wa.o, X8_copy_128, X8_copy_131, X8_copy_131n, X8_copy_133, X8_copy_135, X8_copy_137 u2 wc.o, X8_copy_140, X8_copy_143, X8_copy_144, X8_copy_149, X8_copy_150, X8_copy_150n, X8_copy_152, X8_copy_155, X8_copy_156, X8_copy_156n, X8_copy_158, X8_copy_161, X8_copy_163, X8_copy_165, X8_copy_168, X8_copy_169, iOb_some, iClr_i, iClr_r, iClr_n, iClr_u, iClr_l, rf_s, rf_n, iB_0, iSum_nil, Bool.true_eq_false, if_false, wa.e, wc.e, ec]
              refine ⟨rfl, ⟨sN, im, R, sh, rf, n, k, E, C, T, P, hR.putrow hc e2 h8c.2.2 rc wc oc1 oc2 (fun _ _ => rfl) (fun t ht => ?_)⟩, frZ.set (Or.inr oc2.1), Nat.le_refl _, Nat.le_add_right _ _, Nat.le_refl _, Nat.le_add_right _ _⟩
              unfold va_cpy
              split
              · rw [wa2 _ (by omega)]
              · exact wc2 t ht
            · rw [if_neg (fun z => k6 z.2)]
              rw [Bool.eq_false_iff.mpr k6] at u2
              simp only [X8_copy_120, X8_copy_120n, X8_copy_122, X8_copy_123, X8_copy_125 u1 wa.o, X8_copy_128, X8_copy_131, X8_copy_131n, X8_copy_133, X8_copy_135, X8_copy_137 u2 wc.o, X8_copy_140, X8_copy_143, X8_copy_144, X8_copy_146 r5 hR.ob, X8_copy_149, iOb_some, iClr_i, iClr_r, iClr_n, iClr_u, iClr_l, rf_s, rf_n, iB_0, iSum_nil, Bool.true_eq_false, if_false, if_true]
              exact c8_end hR (by decide)
          · rw [if_neg (fun z => k5 z.1)]
            rw [Bool.eq_false_iff.mpr k5] at u1
            simp only [X8_copy_120, X8_copy_120n, X8_copy_122, X8_copy_123, X8_copy_125 u1 wa.o, X8_copy_128, X8_copy_131, X8_copy_131n, X8_copy_133, X8_copy_135, X8_copy_140, X8_copy_143, X8_copy_144, X8_copy_146 r5 hR.ob, X8_copy_149, iOb_some, iClr_i, iClr_r, iClr_n, iClr_u, iClr_l, rf_s, rf_n, iB_0, iSum_nil, if_true]
            exact c8_end hR (by decide)
      · rw [if_neg k3]
        simp only [X8_copy_20, X8_copy_21, X8_copy_22 va hR.ob, X8_copy_25, X8_copy_25n, X8_copy_27, X8_copy_28, X8_copy_29 vc hR.ob, X8_copy_32, X8_copy_32n, X8_copy_34, X8_copy_35, X8_copy_38, X8_copy_39, X8_copy_40, X8_copy_41, X8_copy_44, X8_copy_45, X8_copy_48, X8_copy_49, X8_copy_50, X8_copy_51, X8_copy_54, X8_copy_55, X8_copy_60, X8_copy_61, X8_copy_61n, X8_copy_63, X8_copy_63n, X8_copy_66, X8_copy_66n, X8_copy_68, X8_copy_68n, X8_copy_71, X8_copy_71n, X8_copy_73, X8_copy_76, X8_copy_76n, X8_copy_78, X8_copy_81, X8_copy_84, X8_copy_85, X8_copy_87 r2 hR.ob, X8_copy_90, iOb_some, iClr_i, iClr_r, iClr_n, iClr_u, iClr_l, rf_s, rf_n, iB_0, iSum_nil, hR.g1, hR.lS ha, hR.lS hc, s1, s2, if_pos h8a.2.2, if_pos h8c.2.2, wa.s, wc.s, if_neg k3]
        exact c8_end hR (by decide)
/-- some of the reference's row elements copied: those from d on (k of them, r ahead left alone) -/
def mCp (s : mS) (u t r k : Nat) : mS := (s.1, s.2.1, fun q => if t + r ≤ q ∧ q < t + k then s.2.2 (u + (q - t)) else s.2.2 q)
theorem mCp_0 {u t r : Nat} : mCp s u t r r = s := wS_ext rfl (fun _ => rfl) (funext fun q => if_neg (by omega))
theorem mCp_up {u t r : Nat} (h : t + 160 ≤ u + 0 ∨ u + 160 ≤ t ∨ t ≤ u) (hr : r < 160) : mPutL (mCp s u t 0 r) (t + r) ((mCp s u t 0 r).2.2 (u + r)) = mCp s u t 0 (r + 1) := by
  refine wS_ext rfl (fun _ => rfl) (funext fun q => ?_)
  show (if q = t + r then (if t + 0 ≤ u + r ∧ u + r < t + r then s.2.2 (u + (u + r - t)) else s.2.2 (u + r)) else (if t + 0 ≤ q ∧ q < t + r then s.2.2 (u + (q - t)) else s.2.2 q)) = if t + 0 ≤ q ∧ q < t + (r + 1) then s.2.2 (u + (q - t)) else s.2.2 q
  by_cases c : q = t + r
  · rw [if_pos c, if_neg (by omega), if_pos (by omega)]
    exact congrArg _ (by omega)
  · rw [if_neg c]
    by_cases c2 : t + 0 ≤ q ∧ q < t + r
    · rw [if_pos c2, if_pos (by omega)]
    · rw [if_neg c2, if_neg (by omega)]
theorem mCp_dn {u t r l : Nat} (h : u ≤ t) (hr : r < l) : mPutL (mCp s u t (r + 1) l) (t + r) ((mCp s u t (r + 1) l).2.2 (u + r)) = mCp s u t r l := by
  refine wS_ext rfl (fun _ => rfl) (funext fun q => ?_)
  show (if q = t + r then (if t + (r + 1) ≤ u + r ∧ u + r < t + l then s.2.2 (u + (u + r - t)) else s.2.2 (u + r)) else (if t + (r + 1) ≤ q ∧ q < t + l then s.2.2 (u + (q - t)) else s.2.2 q)) = if t + r ≤ q ∧ q < t + l then s.2.2 (u + (q - t)) else s.2.2 q
  by_cases c : q = t + r
  · rw [if_pos c, if_neg (by omega), if_pos (by omega)]
    exact congrArg _ (by omega)
  · rw [if_neg c]
    by_cases c2 : t + (r + 1) ≤ q ∧ q < t + l
    · rw [if_pos c2, if_pos (by omega)]
    · rw [if_neg c2, if_neg (by omega)]
theorem cpUp_loop (ha : a < 8) (hc : c < 8) (hi : i + l ≤ 160) (hj : j + l ≤ 160) (hd : a ≠ c ∨ j ≤ i) {Q : Option Value → iHp → Prop} : ∀ k r, r + k = l → (iWp 2 mX9_copy 251 [.ref x, .int (nI a), .int (nI c), .int (nI i), .int (nI j), .int (nI l), .int (nI r)] [] (mH b x (mCp s (160 * a + i) (160 * c + j) 0 r)) Q = Q (some (.int 1)) (mH b x (mCp s (160 * a + i) (160 * c + j) 0 l))) := by
  intro k
  induction k with
  | zero =>
    intro r hr
    obtain rfl : r = l := by omega
    rw [X9_copy_251]
    simp only [X9_copy_253, X9_copy_255, X9_copy_258, X9_copy_259, X9_copy_262, X9_copy_265, X9_copy_266, X9_copy_267, X9_copy_269, X9_copy_270, X9_copy_272, X9_copy_273, X9_copy_274, X9_copy_277, X9_copy_280, X9_copy_281, X9_copy_282, X9_copy_283, X9_copy_284, X9_copy_286, X9_copy_287, X9_copy_288, X9_copy_289, X9_copy_292, X9_copy_295, X9_copy_296, iOb_some, iClr_i, iClr_r, iClr_n, iClr_u, iClr_l, rf_s, rf_n, iB_0, iSum_nil, if_pos (Int32.le_refl (nI r))]
  | succ k ih =>
    intro r hr
    rw [X9_copy_251]
    have r1 := ih (r + 1) (by omega)
    by_cases hac : a = c
    · have e := mCp_up (s := s) (u := 160 * a + i) (t := 160 * c + j) (r := r) (by omega) (by omega)
      rw [← e] at r1
      simp only [X9_copy_253, X9_copy_255, X9_copy_258, X9_copy_259, X9_copy_262, X9_copy_265, X9_copy_266, X9_copy_267, X9_copy_269, X9_copy_270, X9_copy_272, X9_copy_273, X9_copy_274, X9_copy_277, X9_copy_280, X9_copy_281, X9_copy_282, X9_copy_283, X9_copy_284, X9_copy_286, X9_copy_287, X9_copy_288, X9_copy_289, X9_copy_292, iOb_some, iClr_i, iClr_r, iClr_n, iClr_u, iClr_l, rf_s, rf_n, iB_0, iSum_nil, if_neg (nI_ge (show r < l by omega) (by omega)), mg13, i160, nI_add, ml13 (show 160 * a + i + r < 1280 by omega), ms13 (show 160 * c + j + r < 1280 by omega), nI_1]
      exact r1
    · rcases Nat.lt_or_gt_of_ne hac with w | w
      · have e : mPutL (mCp s (160 * a + i) (160 * c + j) 0 r) (160 * c + j + r) ((mCp s (160 * a + i) (160 * c + j) 0 r).2.2 (160 * a + i + r)) = mCp s (160 * a + i) (160 * c + j) 0 (r + 1) := by
          refine wS_ext rfl (fun _ => rfl) (funext fun q => ?_)
          show (if q = 160 * c + j + r then (if 160 * c + j + 0 ≤ 160 * a + i + r ∧ 160 * a + i + r < 160 * c + j + r then s.2.2 (160 * a + i + (160 * a + i + r - (160 * c + j))) else s.2.2 (160 * a + i + r)) else (if 160 * c + j + 0 ≤ q ∧ q < 160 * c + j + r then s.2.2 (160 * a + i + (q - (160 * c + j))) else s.2.2 q)) = if 160 * c + j + 0 ≤ q ∧ q < 160 * c + j + (r + 1) then s.2.2 (160 * a + i + (q - (160 * c + j))) else s.2.2 q
          by_cases c1 : q = 160 * c + j + r
          · rw [if_pos c1, if_neg (by omega), if_pos (by omega)]
            exact congrArg _ (by omega)
          · rw [if_neg c1]
            by_cases c2 : 160 * c + j + 0 ≤ q ∧ q < 160 * c + j + r
            · rw [if_pos c2, if_pos (by omega)]
            · rw [if_neg c2, if_neg (by omega)]
        rw [← e] at r1
        simp only [X9_copy_253, X9_copy_255, X9_copy_258, X9_copy_259, X9_copy_262, X9_copy_265, X9_copy_266, X9_copy_267, X9_copy_269, X9_copy_270, X9_copy_272, X9_copy_273, X9_copy_274, X9_copy_277, X9_copy_280, X9_copy_281, X9_copy_282, X9_copy_283, X9_copy_284, X9_copy_286, X9_copy_287, X9_copy_288, X9_copy_289, X9_copy_292, iOb_some, iClr_i, iClr_r, iClr_n, iClr_u, iClr_l, rf_s, rf_n, iB_0, iSum_nil, if_neg (nI_ge (show r < l by omega) (by omega)), mg13, i160, nI_add, ml13 (show 160 * a + i + r < 1280 by omega), ms13 (show 160 * c + j + r < 1280 by omega), nI_1]
        exact r1
      · have e := mCp_up (s := s) (u := 160 * a + i) (t := 160 * c + j) (r := r) (by omega) (by omega)
        rw [← e] at r1
        simp only [X9_copy_253, X9_copy_255, X9_copy_258, X9_copy_259, X9_copy_262, X9_copy_265, X9_copy_266, X9_copy_267, X9_copy_269, X9_copy_270, X9_copy_272, X9_copy_273, X9_copy_274, X9_copy_277, X9_copy_280, X9_copy_281, X9_copy_282, X9_copy_283, X9_copy_284, X9_copy_286, X9_copy_287, X9_copy_288, X9_copy_289, X9_copy_292, iOb_some, iClr_i, iClr_r, iClr_n, iClr_u, iClr_l, rf_s, rf_n, iB_0, iSum_nil, if_neg (nI_ge (show r < l by omega) (by omega)), mg13, i160, nI_add, ml13 (show 160 * a + i + r < 1280 by omega), ms13 (show 160 * c + j + r < 1280 by omega), nI_1]
        exact r1
theorem cpDn_loop (ha : a < 8) (hi : i + l ≤ 160) (hj : j + l ≤ 160) (hd : i ≤ j) {Q : Option Value → iHp → Prop} : ∀ r, r ≤ l → (iWp 2 mX9_copy 203 [.ref x, .int (nI a), .int (nI a), .int (nI i), .int (nI j), .int (nI l), .int (dI r)] [] (mH b x (mCp s (160 * a + i) (160 * a + j) r l)) Q = Q (some (.int 1)) (mH b x (mCp s (160 * a + i) (160 * a + j) 0 l))) := by
  intro r
  induction r with
  | zero =>
    intro hr
    rw [X9_copy_203]
    simp only [X9_copy_205, X9_copy_208, X9_copy_209, X9_copy_212, X9_copy_215, X9_copy_216, X9_copy_217, X9_copy_219, X9_copy_220, X9_copy_222, X9_copy_223, X9_copy_224, X9_copy_227, X9_copy_230, X9_copy_231, X9_copy_232, X9_copy_233, X9_copy_234, X9_copy_236, X9_copy_237, X9_copy_238, X9_copy_239, X9_copy_242, X9_copy_245, iOb_some, iClr_i, iClr_r, iClr_n, iClr_u, iClr_l, rf_s, rf_n, iB_0, iSum_nil, dI_0, if_pos (show (-1 : Int32) < 0 by decide)]
    simp only [X9_copy_295, X9_copy_296, iOb_some, iClr_i, iClr_r, iClr_n, iClr_u, iClr_l, rf_s, rf_n, iB_0, iSum_nil]
  | succ r ih =>
    intro hr
    rw [X9_copy_203]
    have r1 := ih (by omega)
    have e := mCp_dn (s := s) (u := 160 * a + i) (t := 160 * a + j) (r := r) (l := l) (by omega) (by omega)
    rw [← e] at r1
    simp only [X9_copy_205, X9_copy_208, X9_copy_209, X9_copy_212, X9_copy_215, X9_copy_216, X9_copy_217, X9_copy_219, X9_copy_220, X9_copy_222, X9_copy_223, X9_copy_224, X9_copy_227, X9_copy_230, X9_copy_231, X9_copy_232, X9_copy_233, X9_copy_234, X9_copy_236, X9_copy_237, X9_copy_238, X9_copy_239, X9_copy_242, iOb_some, iClr_i, iClr_r, iClr_n, iClr_u, iClr_l, rf_s, rf_n, iB_0, iSum_nil, dI_c, if_neg (nI_pos (show r < 2 ^ 31 by omega)), mg13, i160, nI_add, ml13 (show 160 * a + i + r < 1280 by omega), ms13 (show 160 * a + j + r < 1280 by omega), dI_m]
    exact r1
theorem m9_copy (hR : mRel s W) (hW : wOk W) (p q i j l : Int32) : ∃ r h1, iEv mX9_copy [.ref x, .int p, .int q, .int i, .int j, .int l] (mH b x s) r h1 ∧ m9P b x (aCopy W p q i j l) r h1 := by
  refine I9_copy ?_
  unfold aCopy
  have ep := ev9_wi7 (i := p) (h := mH b x s)
  have eq := ev9_wi7 (i := q) (h := mH b x s)
  rcases iIx_cases p (n := 8) (by decide) with ⟨e, z⟩ | ⟨a, ha, rfl, e⟩
  · rw [e] at ep ⊢
    simp only [X9_copy_0, X9_copy_1, X9_copy_2, X9_copy_4 ep, X9_copy_7, X9_copy_10, X9_copy_11, X9_copy_12, X9_copy_17, X9_copy_20, X9_copy_21, X9_copy_22 (ev9_noV (v := -1) (r := 1) (by decide) rfl) mH_obj, X9_copy_25, iOb_some, iClr_i, iClr_r, iClr_n, iClr_u, iClr_l, rf_s, rf_n, iB_0, iSum_nil, Option.isSome_none, if_true]
    exact m9_rf hR (by decide)
  rcases iIx_cases q (n := 8) (by decide) with ⟨f, z⟩ | ⟨c, hc, rfl, f⟩
  · rw [e] at ep ⊢
    rw [f] at eq ⊢
    simp only [X9_copy_0, X9_copy_1, X9_copy_2, X9_copy_4 ep, X9_copy_7, X9_copy_10, X9_copy_11, X9_copy_12, X9_copy_14 eq, X9_copy_17, X9_copy_20, X9_copy_21, X9_copy_22 (ev9_noV (v := -1) (r := 1) (by decide) rfl) mH_obj, X9_copy_25, iOb_some, iClr_i, iClr_r, iClr_n, iClr_u, iClr_l, rf_s, rf_n, iB_0, iSum_nil, Option.isSome_some, Option.isSome_none, Bool.true_eq_false, if_false, if_true]
    exact m9_rf hR (by decide)
  rw [e] at ep ⊢
  rw [f] at eq ⊢
  dsimp only
  simp only [X9_copy_0, X9_copy_1, X9_copy_2, X9_copy_4 ep, X9_copy_7, X9_copy_10, X9_copy_11, X9_copy_12, X9_copy_14 eq, X9_copy_17, iOb_some, iClr_i, iClr_r, iClr_n, iClr_u, iClr_l, rf_s, rf_n, iB_0, iSum_nil, Option.isSome_some, Bool.true_eq_false, if_false]
  have era := ev9_isRow (b := b) (x := x) hR hW ha
  have erc := ev9_isRow (b := b) (x := x) hR hW hc
  have h1a := hold_row (hW.2.2 a ha) hW.1.2.1
  have h1c := hold_row (hW.2.2 c hc) hW.1.2.1
  have hha := (hR.2.2.1 a ha).1
  have hhc := (hR.2.2.1 c hc).1
  have h8a := hW.2.2 a ha
  have h8c := hW.2.2 c hc
  unfold shOk at h8a h8c
  have r2 := ev9_noV (b := b) (x := x) (s := s) (v := -2) (r := 2) (by decide) rfl
  have r3 := ev9_noV (b := b) (x := x) (s := s) (v := -3) (r := 3) (by decide) rfl
  have bad2 : iWp 2 mX9_copy 91 [.ref x, .int (nI a), .int (nI c), .int i, .int j, .int l, iU] [] (mH b x s) (m9P b x (-2, wRef W 2)) := by
    simp only [X9_copy_91, X9_copy_92, X9_copy_94 r2 mH_obj, X9_copy_97, iOb_some, iClr_i, iClr_r, iClr_n, iClr_u, iClr_l, rf_s, rf_n, iB_0, iSum_nil]
    exact m9_rf hR (by decide)
  have bad3 : hHold (W.2.2.1 a) < 0 ∨ hHold (W.2.2.1 c) < 0 → iWp 2 mX9_copy 98 [.ref x, .int (nI a), .int (nI c), .int i, .int j, .int l, iU] [] (mH b x s) (m9P b x (-3, wRef W 3)) := by
    intro z
    by_cases z1 : hHold (W.2.2.1 a) < 0
    · simp only [X9_copy_98, X9_copy_99, X9_copy_102, X9_copy_103, X9_copy_104, X9_copy_107, X9_copy_108, X9_copy_111, X9_copy_112, X9_copy_113, X9_copy_116, X9_copy_117, X9_copy_119 r3 mH_obj, X9_copy_122, iOb_some, iClr_i, iClr_r, iClr_n, iClr_u, iClr_l, rf_s, rf_n, iB_0, iSum_nil, mg11, ml11 ha, hha, if_pos z1]
      exact m9_rf hR (by decide)
    · have z2 := z.resolve_left z1
      simp only [X9_copy_98, X9_copy_99, X9_copy_102, X9_copy_103, X9_copy_104, X9_copy_107, X9_copy_108, X9_copy_111, X9_copy_112, X9_copy_113, X9_copy_116, X9_copy_117, X9_copy_119 r3 mH_obj, X9_copy_122, iOb_some, iClr_i, iClr_r, iClr_n, iClr_u, iClr_l, rf_s, rf_n, iB_0, iSum_nil, mg11, ml11 ha, hha, if_neg z1, ml11 hc, hhc, if_neg (Int32.not_le.mpr z2)]
      exact m9_rf hR (by decide)
  cases e1 : (W.2.2.1 a).1 with
  | none =>
    rw [e1] at era
    by_cases k1 : (W.2.2.1 a).2 = -1
    · have ka := h1a.2.2.mpr ⟨e1, k1⟩
      cases e2 : (W.2.2.1 c).1 with
      | none =>
        rw [e2] at erc
        dsimp only
        by_cases k2 : (W.2.2.1 c).2 = -1
        · have kc := h1c.2.2.mpr ⟨e2, k2⟩
          rw [if_pos ⟨k1, k2⟩]
          simp only [X9_copy_26, X9_copy_27, X9_copy_30, X9_copy_31, X9_copy_32, X9_copy_35, X9_copy_36, X9_copy_40, X9_copy_43, X9_copy_44, X9_copy_47, X9_copy_48, X9_copy_49, X9_copy_52, X9_copy_53, X9_copy_57, X9_copy_60, X9_copy_61, X9_copy_62 era mH_obj, X9_copy_65, iOb_some, iClr_i, iClr_r, iClr_n, iClr_u, iClr_l, rf_s, rf_n, iB_0, iSum_nil, mg11, ml11 ha, hha, if_pos ka, ml11 hc, hhc, if_pos kc, Option.isSome_none, if_true]
          exact bad3 (Or.inl ka)
        · have kc : ¬ hHold (W.2.2.1 c) < 0 := fun z => k2 (h1c.2.2.mp z).2
          rw [if_neg (fun z => k2 z.2)]
          simp only [X9_copy_26, X9_copy_27, X9_copy_30, X9_copy_31, X9_copy_32, X9_copy_35, X9_copy_36, X9_copy_40, X9_copy_43, X9_copy_44, X9_copy_47, X9_copy_48, X9_copy_49, X9_copy_52, X9_copy_53, X9_copy_54 erc mH_obj, X9_copy_57, iOb_some, iClr_i, iClr_r, iClr_n, iClr_u, iClr_l, rf_s, rf_n, iB_0, iSum_nil, mg11, ml11 ha, hha, if_pos ka, ml11 hc, hhc, if_neg kc, Option.isSome_none, if_true]
          exact bad2
      | some y =>
        rw [e2] at erc h8c
        have kc : ¬ hHold (W.2.2.1 c) < 0 := fun z => by
          have := (h1c.2.2.mp z).1
          rw [e2] at this
          cases this
        dsimp only
        rw [if_pos ⟨k1, h8c.2.2⟩]
        simp only [X9_copy_26, X9_copy_27, X9_copy_30, X9_copy_31, X9_copy_32, X9_copy_35, X9_copy_36, X9_copy_40, X9_copy_43, X9_copy_44, X9_copy_47, X9_copy_48, X9_copy_49, X9_copy_52, X9_copy_53, X9_copy_54 erc mH_obj, X9_copy_57, X9_copy_60, X9_copy_61, X9_copy_62 era mH_obj, X9_copy_65, iOb_some, iClr_i, iClr_r, iClr_n, iClr_u, iClr_l, rf_s, rf_n, iB_0, iSum_nil, mg11, ml11 ha, hha, if_pos ka, ml11 hc, hhc, if_neg kc, Option.isSome_none, Option.isSome_some, Bool.true_eq_false, if_false, if_true]
        exact bad3 (Or.inl ka)
    · have ka : ¬ hHold (W.2.2.1 a) < 0 := fun z => k1 (h1a.2.2.mp z).2
      cases e2 : (W.2.2.1 c).1 with
      | none =>
        dsimp only
        rw [if_neg (fun z => k1 z.1)]
        simp only [X9_copy_26, X9_copy_27, X9_copy_30, X9_copy_31, X9_copy_32, X9_copy_35, X9_copy_36, X9_copy_37 era mH_obj, X9_copy_40, iOb_some, iClr_i, iClr_r, iClr_n, iClr_u, iClr_l, rf_s, rf_n, iB_0, iSum_nil, mg11, ml11 ha, hha, if_neg ka, Option.isSome_none, if_true]
        exact bad2
      | some y =>
        dsimp only
        rw [if_neg (fun z => k1 z.1)]
        simp only [X9_copy_26, X9_copy_27, X9_copy_30, X9_copy_31, X9_copy_32, X9_copy_35, X9_copy_36, X9_copy_37 era mH_obj, X9_copy_40, iOb_some, iClr_i, iClr_r, iClr_n, iClr_u, iClr_l, rf_s, rf_n, iB_0, iSum_nil, mg11, ml11 ha, hha, if_neg ka, Option.isSome_none, if_true]
        exact bad2
  | some z =>
    rw [e1] at era h8a
    have ka : ¬ hHold (W.2.2.1 a) < 0 := fun z => by
      have := (h1a.2.2.mp z).1
      rw [e1] at this
      cases this
    cases e2 : (W.2.2.1 c).1 with
    | none =>
      rw [e2] at erc
      dsimp only
      by_cases k2 : (W.2.2.1 c).2 = -1
      · have kc := h1c.2.2.mpr ⟨e2, k2⟩
        rw [if_pos ⟨h8a.2.2, k2⟩]
        simp only [X9_copy_26, X9_copy_27, X9_copy_30, X9_copy_31, X9_copy_32, X9_copy_35, X9_copy_36, X9_copy_37 era mH_obj, X9_copy_40, X9_copy_43, X9_copy_44, X9_copy_47, X9_copy_48, X9_copy_49, X9_copy_52, X9_copy_53, X9_copy_57, X9_copy_60, X9_copy_61, X9_copy_62 era mH_obj, X9_copy_65, X9_copy_68, X9_copy_69, X9_copy_70 erc mH_obj, X9_copy_73, iOb_some, iClr_i, iClr_r, iClr_n, iClr_u, iClr_l, rf_s, rf_n, iB_0, iSum_nil, mg11, ml11 ha, hha, if_neg ka, ml11 hc, hhc, if_pos kc, Option.isSome_none, Option.isSome_some, Bool.true_eq_false, if_false, if_true]
        exact bad3 (Or.inr kc)
      · have kc : ¬ hHold (W.2.2.1 c) < 0 := fun z => k2 (h1c.2.2.mp z).2
        rw [if_neg (fun z => k2 z.2)]
        simp only [X9_copy_26, X9_copy_27, X9_copy_30, X9_copy_31, X9_copy_32, X9_copy_35, X9_copy_36, X9_copy_37 era mH_obj, X9_copy_40, X9_copy_43, X9_copy_44, X9_copy_47, X9_copy_48, X9_copy_49, X9_copy_52, X9_copy_53, X9_copy_54 erc mH_obj, X9_copy_57, iOb_some, iClr_i, iClr_r, iClr_n, iClr_u, iClr_l, rf_s, rf_n, iB_0, iSum_nil, mg11, ml11 ha, hha, if_neg ka, ml11 hc, hhc, if_neg kc, Option.isSome_none, Option.isSome_some, Bool.true_eq_false, if_false, if_true]
        exact bad2
    | some y =>
      rw [e2] at erc h8c
      have kc : ¬ hHold (W.2.2.1 c) < 0 := fun z => by
        have := (h1c.2.2.mp z).1
        rw [e2] at this
        cases this
      obtain ⟨fa1, fa2⟩ := (hR.2.2.1 a ha).2 z e1
      obtain ⟨fc1, fc2⟩ := (hR.2.2.1 c hc).2 y e2
      have hza : hHold (W.2.2.1 a) = 100 + z.1 := by unfold hHold; rw [e1]
      have hzc : hHold (W.2.2.1 c) = 100 + y.1 := by unfold hHold; rw [e2]
      have w16a := h8a.2.1
      have w16c := h8c.2.1
      dsimp only at w16a w16c ⊢
      by_cases k3 : z.1 = y.1
      · rw [if_pos k3]
        have k3' : hHold (W.2.2.1 a) = hHold (W.2.2.1 c) := by rw [hza, hzc, k3]
        simp only [X9_copy_26, X9_copy_27, X9_copy_30, X9_copy_31, X9_copy_32, X9_copy_35, X9_copy_36, X9_copy_37 era mH_obj, X9_copy_40, X9_copy_43, X9_copy_44, X9_copy_47, X9_copy_48, X9_copy_49, X9_copy_52, X9_copy_53, X9_copy_54 erc mH_obj, X9_copy_57, X9_copy_60, X9_copy_61, X9_copy_62 era mH_obj, X9_copy_65, X9_copy_68, X9_copy_69, X9_copy_70 erc mH_obj, X9_copy_73, X9_copy_76, X9_copy_77, X9_copy_80, X9_copy_81, X9_copy_82, X9_copy_83, X9_copy_86, X9_copy_87, X9_copy_88, iOb_some, iClr_i, iClr_r, iClr_n, iClr_u, iClr_l, rf_s, rf_n, iB_0, iSum_nil, mg11, ml11 ha, hha, if_neg ka, ml11 hc, hhc, if_neg kc, Option.isSome_some, Bool.true_eq_false, if_false, if_pos k3']
        by_cases k4 : l < 0
        · rw [if_pos k4]
          simp only [X9_copy_98, X9_copy_99, X9_copy_102, X9_copy_103, X9_copy_104, X9_copy_107, X9_copy_108, X9_copy_111, X9_copy_112, X9_copy_113, X9_copy_116, X9_copy_117, X9_copy_122, X9_copy_123, X9_copy_125, X9_copy_128, X9_copy_129, X9_copy_131 (ev9_noV (v := -4) (r := 4) (by decide) rfl) mH_obj, X9_copy_134, iOb_some, iClr_i, iClr_r, iClr_n, iClr_u, iClr_l, rf_s, rf_n, iB_0, iSum_nil, mg11, ml11 ha, hha, if_neg ka, ml11 hc, hhc, if_pos (Int32.not_lt.mp kc), if_neg (Int32.not_le.mpr k4)]
          exact m9_rf hR (by decide)
        · rw [if_neg k4]
          simp only [X9_copy_98, X9_copy_99, X9_copy_102, X9_copy_103, X9_copy_104, X9_copy_107, X9_copy_108, X9_copy_111, X9_copy_112, X9_copy_113, X9_copy_116, X9_copy_117, X9_copy_122, X9_copy_123, X9_copy_125, iOb_some, iClr_i, iClr_r, iClr_n, iClr_u, iClr_l, rf_s, rf_n, iB_0, iSum_nil, mg11, ml11 ha, hha, if_neg ka, ml11 hc, hhc, if_pos (Int32.not_lt.mp kc), if_pos (Int32.not_lt.mp k4)]
          have bad5 : iWp 2 mX9_copy 179 [.ref x, .int (nI a), .int (nI c), .int i, .int j, .int l, iU] [] (mH b x s) (m9P b x (-5, wRef W 5)) := by
            simp only [X9_copy_179, X9_copy_180, X9_copy_182 (ev9_noV (v := -5) (r := 5) (by decide) rfl) mH_obj, X9_copy_185, iOb_some, iClr_i, iClr_r, iClr_n, iClr_u, iClr_l, rf_s, rf_n, iB_0, iSum_nil]
            exact m9_rf hR (by decide)
          obtain ⟨l', hl', rfl⟩ := nI_of k4
          by_cases k5 : i < 0
          · rw [if_neg (fun z => by obtain ⟨i', _, rfl, _, b1⟩ := (rwRun_n w16a).mp z.1; exact nI_pos (by omega) k5)]
            simp only [X9_copy_135, X9_copy_136, iOb_some, iClr_i, iClr_r, iClr_n, iClr_u, iClr_l, rf_s, rf_n, iB_0, iSum_nil, if_pos k5]
            exact bad5
          obtain ⟨i', hi', rfl⟩ := nI_of k5
          by_cases k6 : j < 0
          · rw [if_neg (fun z => by obtain ⟨j', _, rfl, _, b1⟩ := (rwRun_n w16c).mp z.2; exact nI_pos (by omega) k6)]
            simp only [X9_copy_135, X9_copy_136, X9_copy_139, X9_copy_141, iOb_some, iClr_i, iClr_r, iClr_n, iClr_u, iClr_l, rf_s, rf_n, iB_0, iSum_nil, if_neg k5, if_pos k6]
            exact bad5
          obtain ⟨j', hj', rfl⟩ := nI_of k6
          have run1 : rwRun z.2.1 (nI i') (nI l') = true ↔ i' + l' ≤ z.2.1 := by
            rw [rwRun_n w16a]
            constructor
            · rintro ⟨i2, l2, e1, e2, b1⟩
              rw [(nI_eq hi' (by omega)).mp e1, (nI_eq hl' (by omega)).mp e2]
              exact b1
            · intro b1
              exact ⟨i', l', rfl, rfl, b1⟩
          have run2 : rwRun y.2.1 (nI j') (nI l') = true ↔ j' + l' ≤ y.2.1 := by
            rw [rwRun_n w16c]
            constructor
            · rintro ⟨i2, l2, e1, e2, b1⟩
              rw [(nI_eq hj' (by omega)).mp e1, (nI_eq hl' (by omega)).mp e2]
              exact b1
            · intro b1
              exact ⟨j', l', rfl, rfl, b1⟩
          have g1 := lg_gt (y := i' + l') (z := z.2.1) (by omega) (by omega)
          have g2 := lg_le (y := j' + l') (z := y.2.1) (by omega) (by omega)
          by_cases k7 : z.2.1 < i' + l'
          · rw [if_neg (fun z => by have := run1.mp z.1; omega)]
            simp only [X9_copy_135, X9_copy_136, X9_copy_139, X9_copy_141, X9_copy_144, X9_copy_145, X9_copy_146, X9_copy_148, X9_copy_149, X9_copy_150, X9_copy_151, X9_copy_154, X9_copy_155, X9_copy_156, X9_copy_157, X9_copy_158, iOb_some, iClr_i, iClr_r, iClr_n, iClr_u, iClr_l, rf_s, rf_n, iB_0, iSum_nil, if_neg k5, if_neg k6, nI_l hi', nI_l hl', mg12, ml12 ha, fa1, nI_l (show z.2.1 < 2 ^ 31 by omega), lN_add, g1, if_pos k7]
            exact bad5
          by_cases k8 : j' + l' ≤ y.2.1
          · rw [if_pos ⟨run1.mpr (by omega), run2.mpr k8⟩]
            rw [nI_clamp hi', nI_clamp hj', nI_clamp hl']
            simp only [X9_copy_135, X9_copy_136, X9_copy_139, X9_copy_141, X9_copy_144, X9_copy_145, X9_copy_146, X9_copy_148, X9_copy_149, X9_copy_150, X9_copy_151, X9_copy_154, X9_copy_155, X9_copy_156, X9_copy_157, X9_copy_158, X9_copy_161, X9_copy_163, X9_copy_164, X9_copy_166, X9_copy_167, X9_copy_168, X9_copy_169, X9_copy_172, X9_copy_173, X9_copy_174, X9_copy_175, X9_copy_176, iOb_some, iClr_i, iClr_r, iClr_n, iClr_u, iClr_l, rf_s, rf_n, iB_0, iSum_nil, if_neg k5, if_neg k6, nI_l hi', nI_l hj', nI_l hl', mg12, ml12 ha, ml12 hc, fa1, fc1, nI_l (show z.2.1 < 2 ^ 31 by omega), nI_l (show y.2.1 < 2 ^ 31 by omega), lN_add, g1, g2, if_neg k7, if_pos k8]
            have fin : m9P b x (1, wSh W c (some (y.1, y.2.1, va_cpy z.2.2 y.2.2 i' j' l'), -1)) (some (.int 1)) (mH b x (mCp s (160 * a + i') (160 * c + j') 0 l')) := by
              refine ⟨rfl, _, rfl, hR.shf hc rfl (fun _ _ _ => rfl) (fun _ _ => ⟨rfl, rfl⟩) (fun p r hp1 hp2 hr => ?_) ⟨hhc.trans hzc, fun r hr => ?_⟩ hW⟩
              · show (if 160 * c + j' + 0 ≤ 160 * p + r ∧ 160 * p + r < 160 * c + j' + l' then _ else s.2.2 (160 * p + r)) = _
                rw [if_neg (by omega)]
              · cases hr
                refine ⟨fc1, fun t ht => ?_⟩
                have ht : t < y.2.1 := ht
                show (if 160 * c + j' + 0 ≤ 160 * c + t ∧ 160 * c + t < 160 * c + j' + l' then s.2.2 (160 * a + i' + (160 * c + t - (160 * c + j'))) else s.2.2 (160 * c + t)) = va_cpy z.2.2 y.2.2 i' j' l' t
                unfold va_cpy
                by_cases k9 : j' ≤ t ∧ t < j' + l'
                · rw [if_pos k9, if_pos (by omega), show 160 * a + i' + (160 * c + t - (160 * c + j')) = 160 * a + (i' + (t - j')) by omega, fa2 _ (by omega)]
                · rw [if_neg k9, if_neg (by omega), fc2 t ht]
            by_cases k9 : a = c ∧ i' < j'
            · obtain ⟨rfl, k9⟩ := k9
              have e1 : nI l' - 1 = dI l' := dI_s l'
              simp only [X9_copy_186, X9_copy_187, X9_copy_188, X9_copy_191, X9_copy_192, X9_copy_194, X9_copy_197, X9_copy_199, X9_copy_200, X9_copy_201, iOb_some, iClr_i, iClr_r, iClr_n, iClr_u, iClr_l, rf_s, rf_n, iB_0, iSum_nil, if_true, if_neg (nI_ge k9 hj'), e1]
              have lp := cpDn_loop (b := b) (x := x) (s := s) (i := i') (j := j') (l := l') ha (by omega) (by omega) (by omega) (Q := m9P b x (1, wSh W a (some (y.1, y.2.1, va_cpy z.2.2 y.2.2 i' j' l'), -1))) l' (Nat.le_refl _)
              rw [mCp_0] at lp
              exact lp.mpr fin
            · have lp := cpUp_loop (b := b) (x := x) (s := s) (i := i') (j := j') (l := l') ha hc (by omega) (by omega) (by omega) (Q := m9P b x (1, wSh W c (some (y.1, y.2.1, va_cpy z.2.2 y.2.2 i' j' l'), -1))) l' 0 (by omega)
              rw [mCp_0] at lp
              by_cases k10 : a = c
              · subst k10
                simp only [X9_copy_186, X9_copy_187, X9_copy_188, X9_copy_191, X9_copy_192, X9_copy_194, X9_copy_197, X9_copy_199, X9_copy_200, X9_copy_201, X9_copy_203, X9_copy_205, X9_copy_208, X9_copy_209, X9_copy_212, X9_copy_215, X9_copy_216, X9_copy_217, X9_copy_219, X9_copy_220, X9_copy_222, X9_copy_223, X9_copy_224, X9_copy_227, X9_copy_230, X9_copy_231, X9_copy_232, X9_copy_233, X9_copy_234, X9_copy_236, X9_copy_237, X9_copy_238, X9_copy_239, X9_copy_242, X9_copy_245, X9_copy_248, X9_copy_249, iOb_some, iClr_i, iClr_r, iClr_n, iClr_u, iClr_l, rf_s, rf_n, iB_0, iSum_nil, if_true, if_pos (nI_le (show j' ≤ i' by omega) hi')]
                exact lp.mpr fin
              · simp only [X9_copy_186, X9_copy_187, X9_copy_188, X9_copy_191, X9_copy_192, X9_copy_194, X9_copy_197, X9_copy_199, X9_copy_200, X9_copy_201, X9_copy_203, X9_copy_205, X9_copy_208, X9_copy_209, X9_copy_212, X9_copy_215, X9_copy_216, X9_copy_217, X9_copy_219, X9_copy_220, X9_copy_222, X9_copy_223, X9_copy_224, X9_copy_227, X9_copy_230, X9_copy_231, X9_copy_232, X9_copy_233, X9_copy_234, X9_copy_236, X9_copy_237, X9_copy_238, X9_copy_239, X9_copy_242, X9_copy_245, X9_copy_248, X9_copy_249, iOb_some, iClr_i, iClr_r, iClr_n, iClr_u, iClr_l, rf_s, rf_n, iB_0, iSum_nil, if_neg (fun z => k10 ((nI_eq (by omega) (by omega)).mp z))]
                exact lp.mpr fin
          · rw [if_neg (fun z => k8 (run2.mp z.2))]
            simp only [X9_copy_135, X9_copy_136, X9_copy_139, X9_copy_141, X9_copy_144, X9_copy_145, X9_copy_146, X9_copy_148, X9_copy_149, X9_copy_150, X9_copy_151, X9_copy_154, X9_copy_155, X9_copy_156, X9_copy_157, X9_copy_158, X9_copy_161, X9_copy_163, X9_copy_164, X9_copy_166, X9_copy_167, X9_copy_168, X9_copy_169, X9_copy_172, X9_copy_173, X9_copy_174, X9_copy_175, X9_copy_176, iOb_some, iClr_i, iClr_r, iClr_n, iClr_u, iClr_l, rf_s, rf_n, iB_0, iSum_nil, if_neg k5, if_neg k6, nI_l hi', nI_l hj', nI_l hl', mg12, ml12 ha, ml12 hc, fa1, fc1, nI_l (show z.2.1 < 2 ^ 31 by omega), nI_l (show y.2.1 < 2 ^ 31 by omega), lN_add, g1, g2, if_neg k7, if_neg k8]
            exact bad5
      · rw [if_neg k3]
        have k3' : ¬ hHold (W.2.2.1 a) = hHold (W.2.2.1 c) := by
          rw [hza, hzc]
          rcases h8a.1 with z1 | z1 | z1 | z1 <;> rcases h8c.1 with z2 | z2 | z2 | z2 <;> rw [z1, z2] at k3 ⊢ <;> first | exact absurd rfl k3 | decide
        simp only [X9_copy_26, X9_copy_27, X9_copy_30, X9_copy_31, X9_copy_32, X9_copy_35, X9_copy_36, X9_copy_37 era mH_obj, X9_copy_40, X9_copy_43, X9_copy_44, X9_copy_47, X9_copy_48, X9_copy_49, X9_copy_52, X9_copy_53, X9_copy_54 erc mH_obj, X9_copy_57, X9_copy_60, X9_copy_61, X9_copy_62 era mH_obj, X9_copy_65, X9_copy_68, X9_copy_69, X9_copy_70 erc mH_obj, X9_copy_73, X9_copy_76, X9_copy_77, X9_copy_80, X9_copy_81, X9_copy_82, X9_copy_83, X9_copy_86, X9_copy_87, X9_copy_88, iOb_some, iClr_i, iClr_r, iClr_n, iClr_u, iClr_l, rf_s, rf_n, iB_0, iSum_nil, mg11, ml11 ha, hha, if_neg ka, ml11 hc, hhc, if_neg kc, Option.isSome_some, Bool.true_eq_false, if_false, if_neg k3']
        exact bad2
end COPYS

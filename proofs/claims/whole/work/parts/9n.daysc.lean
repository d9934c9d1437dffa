/-! days: the class -/
section DAYSC
variable {h h1 b : iHp} {o sN n k i j l x m a c p q r t u tc pc s : Nat} {im : Option Nat} {R E T P : Nat → Option Nat} {sh rf C : Nat → Int32} {W : wW} {U V : tT} {X : dyX} {K B D : Nat → Int32} {se : Int32}
theorem st_tr (hs : s + 3 ≤ t) : stH (trH b t n K B D) s tc pc se T P = trH (stH b s tc pc se T P) t n K B D := by
  refine Prod.ext (funext fun q => ?_) rfl
  show (if s ≤ q ∧ q < s + 3 then some (stC s tc pc se T P (q - s)) else (if t ≤ q ∧ q < t + 4 then some (trC t n K B D (q - t)) else b.1 q)) = (if t ≤ q ∧ q < t + 4 then some (trC t n K B D (q - t)) else (if s ≤ q ∧ q < s + 3 then some (stC s tc pc se T P (q - s)) else b.1 q))
  by_cases e : s ≤ q ∧ q < s + 3
  · rw [if_pos e, if_neg (by omega), if_pos e]
  · rw [if_neg e, if_neg e]
abbrev dyH (b : iHp) (sN t : Nat) (W : wW) (T P : Nat → Option Nat) (X : dyX) : iHp := trT (stH b sN W.1.1 W.1.2.2.1 X.2 T P) t X.1
theorem dyH_draw (ht : W.1.1 ≤ 16) (hp : W.1.2.2.1 ≤ 16) (hs : sN + 3 ≤ t) {w S S' : Int32} (hw : ¬ w ≤ 0) (h1 : sNext S = S') : iEv mX6_draw [.ref sN, .int w] (dyH b sN t W T P (U, S)) (some (.int (sDraw S' w))) (dyH b sN t W T P (U, S')) := by
  subst h1
  have := ev_sdraw (b := trT b t U) (s := sN) (tc := W.1.1) (pc := W.1.2.2.1) (se := S) (T := T) (P := P) ht hp hw
  rw [st_tr hs, st_tr hs] at this
  exact this
theorem cRe.days (hR : cRe h o sN im R sh rf n k E C T P W) (hW : wOk W) (g1 : ∀ q, q < h.2.1 → h1.1 q = h.1 q) (g2 : h1.2 = (h.2.1 + 4, h.2.2 + 244)) (X : dyX) : cRe (dyH h1 sN h.2.1 W T P X) o sN im R sh rf n k E C T P (wSd W X.2) ∧ gr h (dyH h1 sN h.2.1 W T P X) o sN 4 244 ∧ ∀ j, j < 4 → oc (dyH h1 sN h.2.1 W T P X) o sN (h.2.1 + j) := by
  have hb : bSt h o sN T P (W.1.1, W.1.2.1, W.1.2.2.1, W.1.2.2.2.1, X.2) := hR.2.2.2.2.1
  have hS := hR.setS (w := (W.1.1, W.1.2.1, W.1.2.2.1, W.1.2.2.2.1, X.2)) hW.1.1 hW.1.2.1 hb
  have hsn := hR.sNh
  have hlo := hR.lo
  have hl := hR.sNl
  have cell : ∀ q, q < h.2.1 → (stH h1 sN W.1.1 W.1.2.2.1 X.2 T P).1 q = (stH h sN W.1.1 W.1.2.2.1 X.2 T P).1 q := by
    intro q hq
    show (if sN ≤ q ∧ q < sN + 3 then some (stC sN W.1.1 W.1.2.2.1 X.2 T P (q - sN)) else h1.1 q) = (if sN ≤ q ∧ q < sN + 3 then some (stC sN W.1.1 W.1.2.2.1 X.2 T P (q - sN)) else h.1 q)
    rw [g1 q hq]
  have g2' : (stH h1 sN W.1.1 W.1.2.2.1 X.2 T P).2 = ((stH h sN W.1.1 W.1.2.2.1 X.2 T P).2.1 + 4, (stH h sN W.1.1 W.1.2.2.1 X.2 T P).2.2 + 244) := g2
  obtain ⟨a1, a2, a3⟩ := hS.growT (h1 := stH h1 sN W.1.1 W.1.2.2.1 X.2 T P) cell g2' X.1
  refine ⟨a1, ?_, a3⟩
  have ag : agt h (stH h sN W.1.1 W.1.2.2.1 X.2 T P) o sN sN := fun q hq => ⟨hq, stH_off hq.2.2⟩
  have g0 : gr h (stH h sN W.1.1 W.1.2.2.1 X.2 T P) o sN 0 0 := ⟨frZ.st hl, ag, Nat.le_refl _, Nat.le_refl _, Nat.le_refl _, Nat.le_refl _⟩
  exact (g0.trans a2).mono (by omega) (by omega)
theorem ev_passDay (hR : cRe h o sN im R sh rf n k E C T P W) (hW : wOk W) (g1 : ∀ q, q < h.2.1 → h1.1 q = h.1 q) (g2 : h1.2 = (h.2.1 + 4, h.2.2 + 244)) (hX : tOk X.1) : iEv mX8_passDay [.ref o, .ref h.2.1] (dyH h1 sN h.2.1 W T P X) none (dyH h1 sN h.2.1 W T P (dyT X)) := by
  obtain ⟨⟨m, K, B, D⟩, se⟩ := X
  obtain ⟨hK, d, hd, h5⟩ := id hX
  dsimp only at hK hd h5
  have h60 := hK.le
  have h0 := h5.1
  have hsn := hR.sNh
  have tO : ∀ Y : dyX, iObj (dyH h1 sN h.2.1 W T P Y) o 8 = true := fun Y => (hR.days hW g1 g2 Y).1.ob
  have tG : ∀ Y : dyX, iGet (dyH h1 sN h.2.1 W T P Y) o 8 4 = some (.ref sN) := fun Y => (hR.days hW g1 g2 Y).1.g4
  have tS : ∀ Y : dyX, iObj (dyH h1 sN h.2.1 W T P Y) sN 6 = true := fun Y => (hR.days hW g1 g2 Y).1.2.2.1.o
  have tT' : ∀ S, trAt (dyH h1 sN h.2.1 W T P ((m, K, B, D), S)) h.2.1 m K B D := fun S => trH_tr (show m ≤ 80 by omega)
  obtain ⟨S1, e1⟩ : ∃ S, sNext se = S := ⟨_, rfl⟩
  obtain ⟨S2, e2⟩ : ∃ S, sNext S1 = S := ⟨_, rfl⟩
  obtain ⟨S3, e3⟩ : ∃ S, sNext S2 = S := ⟨_, rfl⟩
  obtain ⟨ky, ek⟩ : ∃ k, dyK se = k := ⟨_, rfl⟩
  have eK : sDraw S1 60 + 1 = ky := by
    rw [← ek, ← e1]
    rfl
  rw [dyT_eq e1 e2 e3 ek]
  have d1 := dyH_draw (b := h1) (T := T) (P := P) (U := (m, K, B, D)) hW.1.1 hW.1.2.1 hsn (w := 60) (by decide) e1
  have d2 := fun w hw => dyH_draw (b := h1) (T := T) (P := P) (U := (m, K, B, D)) hW.1.1 hW.1.2.1 hsn (w := w) hw e2
  have d3 := fun w hw => dyH_draw (b := h1) (T := T) (P := P) (U := (m, K, B, D)) hW.1.1 hW.1.2.1 hsn (w := w) hw e3
  have w1 := ev_whereOf (tT' S1) ky
  have g4 := tG ((m, K, B, D), se)
  have g4' := tG ((m, K, B, D), S1)
  have g4'' := tG ((m, K, B, D), S2)
  have z1 := (tT' S1).s
  have z2 := (tT' S2).s
  have z3 := (tT' S3).s
  refine J8_passDay (cat_r h.2.1) ?_
  cases hwh : tWhere K m ky with
  | none =>
    rw [hwh] at w1
    dsimp only
    by_cases c : m < 40
    · rw [if_pos c]
      obtain ⟨p1, p2⟩ := dyP_n (se := S3) h0 (by omega)
      have d3' := d3 (nI m) (nI_nle h0 (by omega))
      rw [p1] at d3'
      have wd := ev_depthAt (tT' S3) p2
      have wi := ev_insert (b := stH h1 sN W.1.1 W.1.2.2.1 S3 T P) (t := h.2.1) (n := m) (K := K) (B := B) (D := D) (i := dyP S3 m + 1) (by omega) (by omega) ky (97 + sDraw S2 26) (D (dyP S3 m) + 1)
      simp only [X8_passDay_0, X8_passDay_1, X8_passDay_4, X8_passDay_6 d1 (tS _), X8_passDay_9, X8_passDay_10, X8_passDay_11, X8_passDay_12, X8_passDay_12n, X8_passDay_13, X8_passDay_14 w1 (tT' S1).o, X8_passDay_17, X8_passDay_18, X8_passDay_19, X8_passDay_20, X8_passDay_23, X8_passDay_23n, X8_passDay_24, X8_passDay_27, X8_passDay_29, X8_passDay_32, X8_passDay_34, X8_passDay_35, X8_passDay_38, X8_passDay_40 (d2 26 (by decide)) (tS _), X8_passDay_43, X8_passDay_44, X8_passDay_46, X8_passDay_47, X8_passDay_50, X8_passDay_50n, X8_passDay_51, X8_passDay_54 d3' (tS _), X8_passDay_57, X8_passDay_59, X8_passDay_59n, X8_passDay_60, X8_passDay_62, X8_passDay_63, X8_passDay_64, X8_passDay_65, X8_passDay_67, X8_passDay_67n, X8_passDay_68, X8_passDay_70 wd (tT' S3).o, X8_passDay_73, X8_passDay_74, X8_passDay_75 wi (tT' S3).o, X8_passDay_78, X8_passDay_81, X8_passDay_82, X8_passDay_85, X8_passDay_85n, X8_passDay_86, X8_passDay_90, X8_passDay_93, X8_passDay_94, X8_passDay_97, X8_passDay_101, X8_passDay_104, X8_passDay_104n, X8_passDay_105, X8_passDay_109, X8_passDay_112, X8_passDay_112n, X8_passDay_113, X8_passDay_114, X8_passDay_116, X8_passDay_117, X8_passDay_120, X8_passDay_125, X8_passDay_129, iOb_some, iClr_i, iClr_r, iClr_n, iClr_u, iClr_l, rf_s, rf_n, iB_0, iSum_nil, g4, eK, oI_n, if_true, z1, z2, z3, if_neg (show ¬ (40 : Int32) ≤ nI m from nI_ge (b := 40) c (by decide)), g4', g4'', nI_1]
      exact ⟨trivial, rfl⟩
    · rw [if_neg c]
      simp only [X8_passDay_0, X8_passDay_1, X8_passDay_4, X8_passDay_6 d1 (tS _), X8_passDay_9, X8_passDay_10, X8_passDay_11, X8_passDay_12, X8_passDay_12n, X8_passDay_13, X8_passDay_14 w1 (tT' S1).o, X8_passDay_17, X8_passDay_18, X8_passDay_19, X8_passDay_20, X8_passDay_23, X8_passDay_23n, X8_passDay_24, X8_passDay_27, X8_passDay_29, iOb_some, iClr_i, iClr_r, iClr_n, iClr_u, iClr_l, rf_s, rf_n, iB_0, iSum_nil, g4, eK, oI_n, if_true, z1, if_pos (show (40 : Int32) ≤ nI m from nI_le (a := 40) (by omega) (by omega))]
      simp only [X8_passDay_129, iOb_some, iClr_i, iClr_r, iClr_n, iClr_u, iClr_l, rf_s, rf_n, iB_0, iSum_nil]
      exact ⟨trivial, trivial⟩
  | some i =>
    rw [hwh] at w1
    dsimp only
    have hi := (tWhere_lt hwh).1
    have ren : ∀ S S' : Int32, sNext S = S' → iWp 3 mX8_passDay 112 [.ref o, .ref h.2.1, .int ky, .int (nI i), iU, iU] [] (dyH h1 sN h.2.1 W T P ((m, K, B, D), S)) (fun r' h' => r' = none ∧ h' = dyH h1 sN h.2.1 W T P (dyR i (97 + sDraw S' 26) (m, K, B, D), S')) := by
      intro S S' hS
      have d4 := dyH_draw (b := h1) (T := T) (P := P) (U := (m, K, B, D)) hW.1.1 hW.1.2.1 hsn (w := 26) (by decide) hS
      have wr := ev_rename (b := stH h1 sN W.1.1 W.1.2.2.1 S' T P) (t := h.2.1) (n := m) (K := K) (B := B) (D := D) (by omega) hi (97 + sDraw S' 26)
      simp only [X8_passDay_112, X8_passDay_112n, X8_passDay_113, X8_passDay_114, X8_passDay_116, X8_passDay_117, X8_passDay_120, X8_passDay_122 d4 (tS _), X8_passDay_125, X8_passDay_126 wr (tT' S').o, X8_passDay_129, iOb_some, iClr_i, iClr_r, iClr_n, iClr_u, iClr_l, rf_s, rf_n, iB_0, iSum_nil, tG ((m, K, B, D), S)]
      exact ⟨trivial, rfl⟩
    by_cases c0 : i = 0
    · subst c0
      rw [if_neg (fun z => z.1 rfl)]
      simp only [X8_passDay_0, X8_passDay_1, X8_passDay_4, X8_passDay_6 d1 (tS _), X8_passDay_9, X8_passDay_10, X8_passDay_11, X8_passDay_12, X8_passDay_12n, X8_passDay_13, X8_passDay_14 w1 (tT' S1).o, X8_passDay_17, X8_passDay_18, X8_passDay_19, X8_passDay_20, X8_passDay_23, X8_passDay_23n, X8_passDay_24, X8_passDay_27, X8_passDay_29, X8_passDay_32, X8_passDay_34, X8_passDay_35, X8_passDay_38, X8_passDay_43, X8_passDay_44, X8_passDay_46, X8_passDay_47, X8_passDay_50, X8_passDay_50n, X8_passDay_51, X8_passDay_57, X8_passDay_59, X8_passDay_59n, X8_passDay_60, X8_passDay_62, X8_passDay_63, X8_passDay_64, X8_passDay_65, X8_passDay_67, X8_passDay_67n, X8_passDay_68, X8_passDay_73, X8_passDay_74, X8_passDay_78, X8_passDay_81, X8_passDay_82, iOb_some, iClr_i, iClr_r, iClr_n, iClr_u, iClr_l, rf_s, rf_n, iB_0, iSum_nil, g4, eK, oI_s, if_neg (oI_ne (show 0 < 2 ^ 31 by decide)), if_pos (show nI 0 = 0 from rfl)]
      exact ren S1 S2 e2
    · have hkl := tKids_le (D := D) (n := m) (i := i)
      have wc := ev_childCount (tT' S1) hi
      by_cases c1 : tKids D m i = 0
      · rw [if_pos ⟨c0, c1⟩]
        rw [c1] at wc
        by_cases c2 : sDraw S2 2 = 0
        · rw [if_pos c2]
          have wv := ev_remove (b := stH h1 sN W.1.1 W.1.2.2.1 S2 T P) (t := h.2.1) (n := m) (K := K) (B := B) (D := D) (by omega) hi
          simp only [X8_passDay_0, X8_passDay_1, X8_passDay_4, X8_passDay_6 d1 (tS _), X8_passDay_9, X8_passDay_10, X8_passDay_11, X8_passDay_12, X8_passDay_12n, X8_passDay_13, X8_passDay_14 w1 (tT' S1).o, X8_passDay_17, X8_passDay_18, X8_passDay_19, X8_passDay_20, X8_passDay_23, X8_passDay_23n, X8_passDay_24, X8_passDay_27, X8_passDay_29, X8_passDay_32, X8_passDay_34, X8_passDay_35, X8_passDay_38, X8_passDay_43, X8_passDay_44, X8_passDay_46, X8_passDay_47, X8_passDay_50, X8_passDay_50n, X8_passDay_51, X8_passDay_57, X8_passDay_59, X8_passDay_59n, X8_passDay_60, X8_passDay_62, X8_passDay_63, X8_passDay_64, X8_passDay_65, X8_passDay_67, X8_passDay_67n, X8_passDay_68, X8_passDay_73, X8_passDay_74, X8_passDay_78, X8_passDay_81, X8_passDay_82, X8_passDay_85, X8_passDay_85n, X8_passDay_86, X8_passDay_87 wc (tT' S1).o, X8_passDay_90, X8_passDay_93, X8_passDay_94, X8_passDay_97, X8_passDay_98 (d2 2 (by decide)) (tS _), X8_passDay_101, X8_passDay_104, X8_passDay_104n, X8_passDay_105, X8_passDay_106 wv (tT' S2).o, X8_passDay_109, X8_passDay_112, X8_passDay_112n, X8_passDay_113, X8_passDay_114, X8_passDay_116, X8_passDay_117, X8_passDay_120, X8_passDay_125, X8_passDay_129, iOb_some, iClr_i, iClr_r, iClr_n, iClr_u, iClr_l, rf_s, rf_n, iB_0, iSum_nil, g4, eK, oI_s, if_neg (oI_ne (show i < 2 ^ 31 by omega)), if_neg (nI_ne0 (show 0 < i by omega) (show i < 2 ^ 31 by omega)), if_pos (show nI 0 = 0 from rfl), g4', if_pos c2]
          exact ⟨trivial, rfl⟩
        · rw [if_neg c2]
          simp only [X8_passDay_0, X8_passDay_1, X8_passDay_4, X8_passDay_6 d1 (tS _), X8_passDay_9, X8_passDay_10, X8_passDay_11, X8_passDay_12, X8_passDay_12n, X8_passDay_13, X8_passDay_14 w1 (tT' S1).o, X8_passDay_17, X8_passDay_18, X8_passDay_19, X8_passDay_20, X8_passDay_23, X8_passDay_23n, X8_passDay_24, X8_passDay_27, X8_passDay_29, X8_passDay_32, X8_passDay_34, X8_passDay_35, X8_passDay_38, X8_passDay_43, X8_passDay_44, X8_passDay_46, X8_passDay_47, X8_passDay_50, X8_passDay_50n, X8_passDay_51, X8_passDay_57, X8_passDay_59, X8_passDay_59n, X8_passDay_60, X8_passDay_62, X8_passDay_63, X8_passDay_64, X8_passDay_65, X8_passDay_67, X8_passDay_67n, X8_passDay_68, X8_passDay_73, X8_passDay_74, X8_passDay_78, X8_passDay_81, X8_passDay_82, X8_passDay_85, X8_passDay_85n, X8_passDay_86, X8_passDay_87 wc (tT' S1).o, X8_passDay_90, X8_passDay_93, X8_passDay_94, X8_passDay_97, X8_passDay_98 (d2 2 (by decide)) (tS _), X8_passDay_101, iOb_some, iClr_i, iClr_r, iClr_n, iClr_u, iClr_l, rf_s, rf_n, iB_0, iSum_nil, g4, eK, oI_s, if_neg (oI_ne (show i < 2 ^ 31 by omega)), if_neg (nI_ne0 (show 0 < i by omega) (show i < 2 ^ 31 by omega)), if_pos (show nI 0 = 0 from rfl), g4', if_neg c2]
          exact ren S2 S3 e3
      · rw [if_neg (fun z => c1 z.2)]
        simp only [X8_passDay_0, X8_passDay_1, X8_passDay_4, X8_passDay_6 d1 (tS _), X8_passDay_9, X8_passDay_10, X8_passDay_11, X8_passDay_12, X8_passDay_12n, X8_passDay_13, X8_passDay_14 w1 (tT' S1).o, X8_passDay_17, X8_passDay_18, X8_passDay_19, X8_passDay_20, X8_passDay_23, X8_passDay_23n, X8_passDay_24, X8_passDay_27, X8_passDay_29, X8_passDay_32, X8_passDay_34, X8_passDay_35, X8_passDay_38, X8_passDay_43, X8_passDay_44, X8_passDay_46, X8_passDay_47, X8_passDay_50, X8_passDay_50n, X8_passDay_51, X8_passDay_57, X8_passDay_59, X8_passDay_59n, X8_passDay_60, X8_passDay_62, X8_passDay_63, X8_passDay_64, X8_passDay_65, X8_passDay_67, X8_passDay_67n, X8_passDay_68, X8_passDay_73, X8_passDay_74, X8_passDay_78, X8_passDay_81, X8_passDay_82, X8_passDay_85, X8_passDay_85n, X8_passDay_86, X8_passDay_87 wc (tT' S1).o, X8_passDay_90, iOb_some, iClr_i, iClr_r, iClr_n, iClr_u, iClr_l, rf_s, rf_n, iB_0, iSum_nil, g4, eK, oI_s, if_neg (oI_ne (show i < 2 ^ 31 by omega)), if_neg (nI_ne0 (show 0 < i by omega) (show i < 2 ^ 31 by omega)), if_neg (nI_ne0 (show 0 < tKids D m i by omega) (show tKids D m i < 2 ^ 31 by omega))]
        exact ren S1 S2 e2
theorem days_loop (hR : cRe h o sN im R sh rf n k E C T P W) (hW : wOk W) (g1 : ∀ q, q < h.2.1 → h1.1 q = h.1 q) (g2 : h1.2 = (h.2.1 + 4, h.2.2 + 244)) {y : Int32} {v : Value} {Q : Option Value → iHp → Prop} (hm : m ≤ 60) : ∀ k i X, i + k = m → tOk X.1 → iWp 4 mX8_days 65 [.ref o, .int y, .int (nI m), v, .ref h.2.1, .int (nI m)] [] (dyH h1 sN h.2.1 W T P (dyN k X)) Q → iWp 4 mX8_days 47 [.ref o, .int y, .int (nI m), v, .ref h.2.1, .int (nI i)] [] (dyH h1 sN h.2.1 W T P X) Q := by
  intro k
  induction k with
  | zero =>
    intro i X hi hT hQ
    obtain rfl : i = m := by omega
    rw [X8_days_47]
    simp only [X8_days_49, X8_days_50, iOb_some, iClr_i, iClr_r, iClr_n, iClr_u, iClr_l, rf_s, rf_n, iB_0, iSum_nil, if_pos (Int32.le_refl (nI i))]
    exact hQ
  | succ k ih =>
    intro i X hi hT hQ
    rw [X8_days_47]
    simp only [X8_days_49, X8_days_50, X8_days_53, X8_days_54, X8_days_54n, X8_days_56 (ev_passDay hR hW g1 g2 hT) (hR.days hW g1 g2 X).1.ob (cat_r h.2.1), X8_days_59, X8_days_62, iOb_some, iClr_i, iClr_r, iClr_n, iClr_u, iClr_l, rf_s, rf_n, iB_0, iSum_nil, if_neg (nI_ge (show i < m by omega) (show m < 2 ^ 31 by omega)), nI_1]
    exact ih (i + 1) (dyT X) (by omega) (dyT_ok hT) hQ
theorem c8_days (hR : cRep h o W) (hW : wOk W) (t y : Int32) : ∃ r h1, iEv mX8_days [.ref o, .int t, .int y] h r h1 ∧ c8P h o (aDays W t y) r h1 := by
  obtain ⟨sN, im, R, sh, rf, n, k, E, C, T, P, hR⟩ := hR
  refine I8_days ?_
  unfold aDays
  have hn2 : W.1.1 < 2 ^ 31 := by have := hW.1.1; omega
  have r1 := ev8_refuse hR (v := -1) (r := 1) (by decide) (by decide) rfl
  have r6 := ev8_refuse hR (v := -6) (r := 6) (by decide) (by decide) rfl
  rcases iIx_cases t hn2 with ⟨f, z⟩ | ⟨j, hj, rfl, f⟩
  · rw [f]
    simp only [X8_days_0, X8_days_1, X8_days_2 (c8_treeN hR z) hR.ob, X8_days_5, X8_days_5n, X8_days_6, X8_days_6n, X8_days_7, X8_days_7n, X8_days_10, X8_days_11, X8_days_12 r1 hR.ob, X8_days_15, iOb_some, iClr_i, iClr_r, iClr_n, iClr_u, iClr_l, rf_s, rf_n, iB_0, iSum_nil]
    exact c8_end hR (by decide)
  · rw [f]
    obtain ⟨ta, K, B, D, f1, f2, f3, f4⟩ := c8_tree hR hj
    dsimp only
    by_cases c : 1 ≤ y ∧ y ≤ 60
    · rw [if_pos c]
      obtain ⟨m, rfl, hm⟩ : ∃ m, y = nI m ∧ m ≤ 60 := by
        obtain ⟨m, hm, rfl⟩ := nI_of (x := y) (fun z => absurd (Int32.le_trans c.1 (Int32.le_of_lt z)) (by decide))
        exact ⟨m, rfl, (nI_leI (a := m) (b := 60) (by omega) (by decide)).mp c.2⟩
      rw [nI_clamp (show m < 2 ^ 31 by omega)]
      obtain ⟨h1, t1, t2, t3, t4⟩ := c8_copyT hR f2 f4
      have hT := hW.1.2.2.1 j hj
      have hcE := (cpyOf_eq f2).trans f3
      have hU := hcE.symm.ok hT
      obtain ⟨q1, q2⟩ := dyN_congr m _ _ W.1.2.2.2.2 hcE hU
      have hk := dyN_ok m ((_, cpyOf K, cpyOf B, cpyOf D), W.1.2.2.2.2) hU
      have e0 : h1 = dyH h1 sN h.2.1 W T P (((W.1.2.1 j).1, cpyOf K, cpyOf B, cpyOf D), W.1.2.2.2.2) := by
        have hr := (hR.grow t3 (by rw [show h1.2.1 = h.2.1 + 4 from congrArg Prod.fst t4]; omega)).steq
        show h1 = trT (stH h1 sN W.1.1 W.1.2.2.1 W.1.2.2.2.2 T P) h.2.1 _
        rw [hr, t2]
      have hn1 := Int32.not_lt.mpr c.1
      have hn2 := Int32.not_lt.mpr c.2
      simp only [X8_days_0, X8_days_1, X8_days_2 f1 hR.ob, X8_days_5, X8_days_5n, X8_days_6, X8_days_6n, X8_days_7, X8_days_7n, X8_days_10, X8_days_11, X8_days_15, X8_days_16, X8_days_17, X8_days_18, X8_days_21, X8_days_22, X8_days_24, X8_days_27, X8_days_28, X8_days_33, X8_days_34, X8_days_37, X8_days_38, X8_days_38n, X8_days_39 t1 (cat_r ta), X8_days_42, X8_days_42n, X8_days_44, X8_days_45, iOb_some, iClr_i, iClr_r, iClr_n, iClr_u, iClr_l, rf_s, rf_n, iB_0, iSum_nil, if_neg hn1, if_pos c.2]
      have hL := days_loop (Q := c8P h o (nI (dyN m (W.1.2.1 j, W.1.2.2.2.2)).1.1, wTr (wSd W (dyN m (W.1.2.1 j, W.1.2.2.2.2)).2) j (dyN m (W.1.2.1 j, W.1.2.2.2.2)).1)) (y := nI j) (v := .ref ta) hR hW t3 t4 hm m 0 (((W.1.2.1 j).1, cpyOf K, cpyOf B, cpyOf D), W.1.2.2.2.2) (Nat.zero_add _) hU ?_
      · rw [← e0] at hL
        exact hL
      · rw [← q2]
        generalize dyN m (((W.1.2.1 j).1, cpyOf K, cpyOf B, cpyOf D), W.1.2.2.2.2) = X at q1 hk ⊢
        generalize (dyN m (W.1.2.1 j, W.1.2.2.2.2)).1 = Y at q1 ⊢
        obtain ⟨k5, k6, k7⟩ := hR.days hW t3 t4 X
        have hTX : trAt (dyH h1 sN h.2.1 W T P X) h.2.1 X.1.1 X.1.2.1 X.1.2.2.1 X.1.2.2.2 := trH_tr (by have := hk.1.le; omega)
        obtain ⟨h3, z1, z2, z3, z4⟩ := c8_replace k5 (wSd_ok hW) hj hTX k7 q1
        simp only [X8_days_65, X8_days_66, X8_days_69, X8_days_70, X8_days_70n, X8_days_72 z1 k5.2.2.1.o (cat_r h.2.1), X8_days_75, X8_days_75n, X8_days_77, X8_days_80, iOb_some, iClr_i, iClr_r, iClr_n, iClr_u, iClr_l, rf_s, rf_n, iB_0, iSum_nil, k5.g4, z4.s]
        rw [q1.1]
        obtain ⟨b1, b2, b3, b4, b5, b6⟩ := k6.trans z3
        exact ⟨rfl, ⟨sN, im, R, sh, rf, n, k, E, C, _, P, z2⟩, b1, by omega, by omega, by omega, by omega⟩
    · rw [if_neg c]
      by_cases c1 : y < 1
      · simp only [X8_days_0, X8_days_1, X8_days_2 f1 hR.ob, X8_days_5, X8_days_5n, X8_days_6, X8_days_6n, X8_days_7, X8_days_7n, X8_days_10, X8_days_11, X8_days_15, X8_days_16, X8_days_17, X8_days_18, X8_days_21, X8_days_22, X8_days_24, X8_days_27, X8_days_28, X8_days_30 r6 hR.ob, X8_days_33, iOb_some, iClr_i, iClr_r, iClr_n, iClr_u, iClr_l, rf_s, rf_n, iB_0, iSum_nil, if_pos c1]
        exact c8_end hR (by decide)
      · have c2 : ¬ y ≤ 60 := fun z => c ⟨Int32.not_lt.mp c1, z⟩
        simp only [X8_days_0, X8_days_1, X8_days_2 f1 hR.ob, X8_days_5, X8_days_5n, X8_days_6, X8_days_6n, X8_days_7, X8_days_7n, X8_days_10, X8_days_11, X8_days_15, X8_days_16, X8_days_17, X8_days_18, X8_days_21, X8_days_22, X8_days_24, X8_days_27, X8_days_28, X8_days_30 r6 hR.ob, X8_days_33, iOb_some, iClr_i, iClr_r, iClr_n, iClr_u, iClr_l, rf_s, rf_n, iB_0, iSum_nil, if_neg c1, if_neg c2]
        exact c8_end hR (by decide)
end DAYSC

/-! the law's loop, and the goal -/
section LAWLOOP
variable {h h1 h2 b : iHp} {o i j k L bb base : Nat} {W : wW} {xs : Nat → Int32} {s : mS}
/-- what the law leaves -/
def lwQ (base : Nat) (r : Option Value) (h1 : iHp) : Prop := r = some (.int 1) ∧ h1.2.1 ≤ base + 600000 ∧ h1.2.2 ≤ 7302250
theorem lw_room1 {a o k : Nat} (hk : k ≤ 512) (h1 : a ≤ o + 38 + 1000 * k) : a ≤ o + 600000 := by
  have h2 : 1000 * k ≤ 1000 * 512 := Nat.mul_le_mul_left 1000 hk
  have h3 : (1000 : Nat) * 512 = 512000 := by decide
  rw [h3] at h2
  have h4 : o + 38 + 1000 * k ≤ o + 38 + 512000 := Nat.add_le_add_left h2 (o + 38)
  have h5 : (38 : Nat) + 512000 ≤ 600000 := by decide
  rw [Nat.add_assoc o 38 512000] at h4
  exact Nat.le_trans h1 (Nat.le_trans h4 (Nat.add_le_add_left h5 o))
theorem lw_room2 {a k : Nat} (hk : k ≤ 512) (h1 : a ≤ 50000 + 14000 * k) : a ≤ 7302250 := by
  have h2 : 14000 * k ≤ 14000 * 512 := Nat.mul_le_mul_left 14000 hk
  have h3 : 50000 + 14000 * 512 ≤ 7302250 := by decide
  exact Nat.le_trans h1 (Nat.le_trans (Nat.add_le_add_left h2 50000) h3)
theorem lw_gt (hL : L ≤ 3072) (hi : i ≤ 3078) : nI L - 6 < nI i ↔ L < i + 6 := by
  have e := pk_sub_toInt (a := L) (b := 6) (by omega) (by omega)
  rw [Int32.lt_iff_toInt_lt, show (nI L - 6) = nI L - nI 6 from rfl, e, nI_toInt (by omega)]
  omega
theorem lw_loop (hb : bb < o) (hL : L ≤ 3072) : ∀ m i k W h, L - i ≤ m → i = 6 * k → k ≤ 512 → lwI bb o L xs W k h → iWp 60 mL_law 18 [.ref bb, .ref o, .ref (o + 10), .int (nI i)] [] h (lwQ o) := by
  intro m
  induction m with
  | zero =>
    intro i k W h hm hi hk hI
    have ln := lnS hI.1
    simp only [XL_law_18, XL_law_19, XL_law_19n, XL_law_20, XL_law_21, XL_law_23, XL_law_24, iOb_some, iClr_i, iClr_r, iClr_n, iClr_u, iClr_l, rf_s, rf_n, iB_0, iSum_nil, ln, if_pos ((lw_gt hL (show i ≤ 3078 by omega)).mpr (show L < i + 6 by omega))]
    simp only [XL_law_1471, iOb_some, iClr_i, iClr_r, iClr_n, iClr_u, iClr_l, rf_s, rf_n, iB_0, iSum_nil]
    exact (XL_law_1472 (b := true)).mpr ⟨rfl, lw_room1 hk hI.2.2.2.2.1, lw_room2 hk hI.2.2.2.2.2⟩
  | succ m ih =>
    intro i k W h hm hi hk hI
    have ln := lnS hI.1
    by_cases c : L < i + 6
    · simp only [XL_law_18, XL_law_19, XL_law_19n, XL_law_20, XL_law_21, XL_law_23, XL_law_24, iOb_some, iClr_i, iClr_r, iClr_n, iClr_u, iClr_l, rf_s, rf_n, iB_0, iSum_nil, ln, if_pos ((lw_gt hL (show i ≤ 3078 by omega)).mpr c)]
      simp only [XL_law_1471, iOb_some, iClr_i, iClr_r, iClr_n, iClr_u, iClr_l, rf_s, rf_n, iB_0, iSum_nil]
      exact (XL_law_1472 (b := true)).mpr ⟨rfl, lw_room1 hk hI.2.2.2.2.1, lw_room2 hk hI.2.2.2.2.2⟩
    · simp only [XL_law_18, XL_law_19, XL_law_19n, XL_law_20, XL_law_21, XL_law_23, XL_law_24, iOb_some, iClr_i, iClr_r, iClr_n, iClr_u, iClr_l, rf_s, rf_n, iB_0, iSum_nil, ln, if_neg (fun z => c ((lw_gt hL (show i ≤ 3078 by omega)).mp z))]
      exact lw_step hb hL (by omega) hI (fun W' h2 hI2 => ih (i + 6) (k + 1) W' h2 (by omega) (by omega) (by omega) hI2)
-- the start
theorem wOk_0 : wOk wWz := ⟨⟨Nat.zero_le _, Nat.zero_le _, fun t ht => absurd ht (Nat.not_lt_zero t), fun p hp => absurd hp (Nat.not_lt_zero p)⟩, fun w hw => (by cases hw), fun i _ => Or.inl rfl⟩
theorem mRel_0 (hz : mZ s 8) : mRel s wWz := by
  obtain ⟨z1, z2, z3⟩ := hz
  have e17 : s.2.1 17 = fun _ => 0 := z2 17 (by decide)
  unfold mRel mNow
  rw [z1]
  refine ⟨⟨rfl, rfl, rfl, fun t ht => absurd ht (Nat.not_lt_zero t), fun p hp => absurd hp (Nat.not_lt_zero p)⟩, rfl, fun i hi => ⟨z3 i hi, fun r hr => (by cases hr)⟩, fun k _ => ?_, rfl, rfl⟩
  rw [e17]
  rfl
theorem cRep_0 (hz : c8Z h h1 o) (hc : ∀ q, q < o + 10 → h2.1 q = h1.1 q) (hn : o + 38 ≤ h2.2.1) : cRep h2 o wWz := by
  obtain ⟨-, -, c0, c1, ⟨f, c2, f8⟩, c3, cd, cs⟩ := hz
  refine ⟨o + 7, none, fun _ => none, f, fun _ => 0, 0, 0, fun _ => none, fun _ => 0, fun _ => none, fun _ => none, ⟨(hc _ (by omega)).trans c0, (hc _ (by omega)).trans c1, (hc _ (by omega)).trans c2, (hc _ (by omega)).trans c3⟩, ⟨(hc _ (by omega)).trans (cd 0 (by decide)), (hc _ (by omega)).trans (cd 1 (by decide)), (hc _ (by omega)).trans (cd 2 (by decide)), by omega, by omega⟩, ⟨(hc _ (by omega)).trans (cs 0 (by decide)), (hc _ (by omega)).trans (cs 1 (by decide)), (hc _ (by omega)).trans (cs 2 (by decide)), Nat.zero_le _, Nat.zero_le _⟩, ⟨hn, Or.inl rfl⟩, ⟨fun j hj => absurd hj (Nat.not_lt_zero j), fun j hj => absurd hj (Nat.not_lt_zero j), fun j x e => (by cases e), fun j x e => (by cases e)⟩, trivial, ⟨fun i hi => ⟨f8 i hi, trivial⟩, fun i j a _ _ e => (by cases e)⟩, fun j _ => rfl⟩
theorem iGoal_ok : iGoal := by
  intro bb L base xs hL hb
  have z : iWp 60 mL_law 0 [.ref bb, iU, iU, iU] [] (iH0 bb L base xs) (lwQ base) := by
    obtain ⟨h1, e1, c1⟩ := ev_x8init (h := iH0 bb L base xs)
    obtain ⟨h2, e2, ⟨s, s1, s2⟩, c2, c3, c4⟩ := ev_x9init (h := h1)
    have n0 : (iH0 bb L base xs).2.1 = base := rfl
    have m0 : (iH0 bb L base xs).2.2 = 0 := rfl
    have b0 : (iH0 bb L base xs).1 bb = some (.inl (7, L, .inl xs)) := if_pos rfl
    rw [n0] at e1 c1
    have n1 : h1.2.1 = base + 10 := c1.1.1
    have m1 : h1.2.2 = 0 + 433 := by rw [c1.1.2, m0]
    have hI : lwI bb base L xs wWz 0 h2 := by
      refine ⟨(c2 bb (by omega)).trans ((c1.2.1 bb hb).trans b0), ⟨s, ?_, mRel_0 s2⟩, cRep_0 c1 (fun q hq => c2 q (by omega)) (by omega), wOk_0, by omega, by rw [c4, m1]; decide⟩
      rw [← n1]
      exact s1
    rw [n1] at e2
    simp only [XL_law_0, XL_law_3, XL_law_4 e1, XL_law_7, XL_law_7n, XL_law_8, XL_law_11, XL_law_12 e2, XL_law_15, XL_law_15n, XL_law_16, XL_law_17, iOb_some, iClr_i, iClr_r, iClr_n, iClr_u, iClr_l, rf_s, rf_n, iB_0, iSum_nil, n0, n1]
    exact lw_loop hb hL L 0 0 wWz h2 (by omega) rfl (by omega) hI
  obtain ⟨N, r, h1, hx, rfl, q1, q2⟩ := z
  exact ⟨N, h1, hx N (Nat.le_refl N), q1, q2⟩
end LAWLOOP

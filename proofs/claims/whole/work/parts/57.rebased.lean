/-! the class's Draft: an edit added over another tree -/
section REB
variable {h b b' H : iHp} {d n c q x y t m : Nat} {E : Nat → Option Nat} {C : Nat → Int32} {e f : Nat → Int32}
theorem drH_trH {n' : Nat} {K B D : Nat → Int32} (hd : d + 3 ≤ t) : drH (trH b t n' K B D) d n c E C = trH (drH b d n c E C) t n' K B D := by
  refine Prod.ext (funext fun q => ?_) rfl
  show (if d ≤ q ∧ q < d + 3 then some (drC d n c E C (q - d)) else (if t ≤ q ∧ q < t + 4 then some (trC t n' K B D (q - t)) else b.1 q)) = (if t ≤ q ∧ q < t + 4 then some (trC t n' K B D (q - t)) else (if d ≤ q ∧ q < d + 3 then some (drC d n c E C (q - d)) else b.1 q))
  by_cases e : d ≤ q ∧ q < d + 3
  · rw [if_pos e, if_neg (by omega), if_pos e]
  · rw [if_neg e, if_neg e]
theorem trH_eNew {n' : Nat} {K B D : Nat → Int32} (ht : t + 4 ≤ b.2.1) : eNew (trH b t n' K B D) e = trH (eNew b e) t n' K B D := by
  refine Prod.ext (funext fun q => ?_) rfl
  show (if q = b.2.1 then some (.inr (2, eL e)) else (if t ≤ q ∧ q < t + 4 then some (trC t n' K B D (q - t)) else b.1 q)) = (if t ≤ q ∧ q < t + 4 then some (trC t n' K B D (q - t)) else (if q = b.2.1 then some (.inr (2, eL e)) else b.1 q))
  by_cases e : q = b.2.1
  · rw [if_pos e, if_neg (by omega), if_pos e]
  · rw [if_neg e, if_neg e]
theorem edAt.tr {n' : Nat} {K B D : Nat → Int32} (hE : edAt b x e) (hx : x < t ∨ t + 4 ≤ x) : edAt (trH b t n' K B D) x e := (trH_off hx).trans hE
/-- KEPT -/
theorem ev_darK (hdt : d + 3 ≤ t) (hn : n < 120) (hc : c ≤ 120) {T : tT} (hT : T.1 ≤ 80) (ho : iEv mX2_over [.ref q, .ref t] H (some (.int 0)) H) (hq : iObj H q 2 = true) (hfit : iEv mX2_fitted [.ref q, .ref t] H (some (.ref y)) (drH (trT b' t T) d n c E C)) (hF : edAt b' y f) (hy : y < d ∨ d + 3 ≤ y) (hy2 : y < t ∨ t + 4 ≤ y) (hft : fitT f T = true) (pl : Int32) : iEv mX1_addRebased [.ref d, .ref q, .int pl, .ref t] H none (drH (trT b' t (ePerf f T)) d (n + 1) c (va_up E n (some y)) C) := by
  refine J1_addRebased (cat_r q) (cat_r t) ?_
  have hF1 : edAt (trT (drH b' d n c E C) t T) y f := (hF.dr hy).tr hy2
  have hF2 : edAt (drH (trT b' t (ePerf f T)) d n c E C) y f := (hF.tr hy2).dr hy
  have ep := (ev_perf hF1 hT hft).1
  have h3 : drAt (drH (trT b' t (ePerf f T)) d n c E C) d n c E C := drH_dr (by omega) hc
  rw [drH_trH hdt] at hfit
  rw [show trT (drH b' d n c E C) t (ePerf f T) = drH (trT b' t (ePerf f T)) d n c E C from (drH_trH hdt).symm] at ep
  simp only [X1_addRebased_0, X1_addRebased_0n, X1_addRebased_1, X1_addRebased_1n, X1_addRebased_2 ho hq (cat_r t), X1_addRebased_5, X1_addRebased_7, X1_addRebased_9, X1_addRebased_12, X1_addRebased_12n, X1_addRebased_13, X1_addRebased_13n, X1_addRebased_14 hfit hq (cat_r t), X1_addRebased_17, X1_addRebased_17n, X1_addRebased_19, X1_addRebased_19n, X1_addRebased_21, X1_addRebased_21n, X1_addRebased_22 ep hF1.o (cat_r t), X1_addRebased_25, X1_addRebased_26, X1_addRebased_26n, X1_addRebased_28 (ev_dadd hn hc hF2.o) h3.o (cat_r y), X1_addRebased_31, X1_addRebased_34, X1_addRebased_36, X1_addRebased_37, X1_addRebased_40, X1_addRebased_41, X1_addRebased_44, X1_addRebased_46, X1_addRebased_49, X1_addRebased_50, X1_addRebased_53, X1_addRebased_54, X1_addRebased_55, X1_addRebased_58, X1_addRebased_59, X1_addRebased_60, X1_addRebased_61, X1_addRebased_62, X1_addRebased_65, X1_addRebased_66, X1_addRebased_67, X1_addRebased_70, X1_addRebased_71, X1_addRebased_72, X1_addRebased_73, X1_addRebased_75, X1_addRebased_76, X1_addRebased_77, X1_addRebased_78, X1_addRebased_81, X1_addRebased_82, X1_addRebased_83, X1_addRebased_86, iOb_some, iClr_i, iClr_r, iClr_n, iClr_u, iClr_l, rf_s, rf_n, iB_0, iSum_nil, if_true, and_self]
/-- left out -/
theorem ev_darL (ho : iEv mX2_over [.ref q, .ref t] H (some (.int (-1))) H) (hq : iObj H q 2 = true) (pl : Int32) : iEv mX1_addRebased [.ref d, .ref q, .int pl, .ref t] H none H := by
  refine J1_addRebased (cat_r q) (cat_r t) ?_
  simp only [X1_addRebased_0, X1_addRebased_0n, X1_addRebased_1, X1_addRebased_1n, X1_addRebased_2 ho hq (cat_r t), X1_addRebased_5, X1_addRebased_7, X1_addRebased_9, X1_addRebased_12, X1_addRebased_12n, X1_addRebased_13, X1_addRebased_13n, X1_addRebased_17, X1_addRebased_17n, X1_addRebased_19, X1_addRebased_19n, X1_addRebased_21, X1_addRebased_21n, X1_addRebased_25, X1_addRebased_26, X1_addRebased_26n, X1_addRebased_31, X1_addRebased_34, X1_addRebased_36, X1_addRebased_37, X1_addRebased_40, X1_addRebased_41, X1_addRebased_44, X1_addRebased_46, X1_addRebased_49, X1_addRebased_50, X1_addRebased_53, X1_addRebased_54, X1_addRebased_55, X1_addRebased_58, X1_addRebased_59, X1_addRebased_60, X1_addRebased_61, X1_addRebased_62, X1_addRebased_65, X1_addRebased_66, X1_addRebased_67, X1_addRebased_70, X1_addRebased_71, X1_addRebased_72, X1_addRebased_73, X1_addRebased_75, X1_addRebased_76, X1_addRebased_77, X1_addRebased_78, X1_addRebased_81, X1_addRebased_82, X1_addRebased_83, X1_addRebased_86, iOb_some, iClr_i, iClr_r, iClr_n, iClr_u, iClr_l, rf_s, rf_n, iB_0, iSum_nil, if_neg (show ¬ (-1 : Int32) = 0 by decide), if_true, and_self]
/-- a conflict -/
theorem ev_darC (hn : n ≤ 1000000) (hc : c < 120) {v : Int32} (ho : iEv mX2_over [.ref q, .ref t] (drH b d n c E C) (some (.int v)) (drH b d n c E C)) (hq : iObj (drH b d n c E C) q 2 = true) (h0 : ¬ v = 0) (h1 : ¬ v = -1) (pl : Int32) : iEv mX1_addRebased [.ref d, .ref q, .int pl, .ref t] (drH b d n c E C) none (drH b d n (c + 1) E (upd (upd C (2 * c) pl) (2 * c + 1) v)) := by
  refine J1_addRebased (cat_r q) (cat_r t) ?_
  have a1 : drAt (drH b d n c E C) d n c E C := drH_dr hn (by omega)
  have a2 : drAt (drH b d n c E (upd C (2 * c) pl)) d n c E (upd C (2 * c) pl) := drH_dr hn (by omega)
  have a3 : drAt (drH b d n c E (upd (upd C (2 * c) pl) (2 * c + 1) v)) d n c E (upd (upd C (2 * c) pl) (2 * c + 1) v) := drH_dr hn (by omega)
  simp only [X1_addRebased_0, X1_addRebased_0n, X1_addRebased_1, X1_addRebased_1n, X1_addRebased_2 ho hq (cat_r t), X1_addRebased_5, X1_addRebased_7, X1_addRebased_9, X1_addRebased_12, X1_addRebased_12n, X1_addRebased_13, X1_addRebased_13n, X1_addRebased_17, X1_addRebased_17n, X1_addRebased_19, X1_addRebased_19n, X1_addRebased_21, X1_addRebased_21n, X1_addRebased_25, X1_addRebased_26, X1_addRebased_26n, X1_addRebased_31, X1_addRebased_34, X1_addRebased_36, X1_addRebased_37, X1_addRebased_40, X1_addRebased_41, X1_addRebased_44, X1_addRebased_46, X1_addRebased_49, X1_addRebased_50, X1_addRebased_53, X1_addRebased_54, X1_addRebased_55, X1_addRebased_58, X1_addRebased_59, X1_addRebased_60, X1_addRebased_61, X1_addRebased_62, X1_addRebased_65, X1_addRebased_66, X1_addRebased_67, X1_addRebased_70, X1_addRebased_71, X1_addRebased_72, X1_addRebased_73, X1_addRebased_75, X1_addRebased_76, X1_addRebased_77, X1_addRebased_78, X1_addRebased_81, X1_addRebased_82, X1_addRebased_83, X1_addRebased_86, iOb_some, iClr_i, iClr_r, iClr_n, iClr_u, iClr_l, rf_s, rf_n, iB_0, iSum_nil, if_neg h0, if_neg h1, a1.g3, a1.g1, a2.g3, a2.g1, a3.g3, if_neg (show ¬ (120 : Int32) ≤ nI c from nI_ge (b := 120) hc (by decide)), show (2 : Int32) = nI 2 from rfl, pk_mul, ← nI_succ, dr_sc (show 2 * c < 240 by omega), dr_sc (show 2 * c + 1 < 240 by omega), dr_pc, and_self]
end REB

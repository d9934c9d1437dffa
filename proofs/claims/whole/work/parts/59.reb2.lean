/-! the class's Draft: an edit KEPT over another tree, all in one -/
section REB2
variable {b : iHp} {d n c x t : Nat} {E : Nat → Option Nat} {C : Nat → Int32} {e f : Nat → Int32} {T : tT}
/-- the edit as it is kept -/
def oFit (e : Nat → Int32) (T : tT) : Nat → Int32 := if e 0 = 0 then e else if e 0 = 1 then (match tWhere T.2.1 T.1 (e 1) with
    | some i => e7 1 (e 1) (e 2) (tPK T.2.1 T.2.2.2 i) (nI (tPlace T.2.2.2 i)) 0 0
    | none => e) else if e 0 = 2 then (match tWhere T.2.1 T.1 (e 3) with
    | some g => e7 2 (e 1) (e 2) (e 3) (iMn (e 4) (nI (tKids T.2.2.2 T.1 g))) 0 0
    | none => e) else (match tWhere T.2.1 T.1 (e 1), tWhere T.2.1 T.1 (e 5) with
    | some i, some g => e7 3 (e 1) 0 (e 3) (nI (tPlace T.2.2.2 i)) (e 5) (iMn (e 6) (eLast T.1 T.2.2.2 i g))
    | _, _ => e)
abbrev fateT (e : Nat → Int32) (T : tT) : Int32 := oFate e T.1 T.2.1 T.2.2.1 T.2.2.2
def oNewB (b : iHp) (e : Nat → Int32) (T : tT) : iHp := if e 0 = 0 then b else eNew b (oFit e T)
def oNewX (b : iHp) (x : Nat) (e : Nat → Int32) : Nat := if e 0 = 0 then x else b.2.1
theorem new_dt (hdt : d + 3 ≤ t) (htb : t + 4 ≤ b.2.1) : eNew (drH (trT b t T) d n c E C) f = drH (trT (eNew b f) t T) d n c E C := by
  rw [drH_eNew (show d + 3 ≤ (trT b t T).2.1 from show d + 3 ≤ b.2.1 by omega)]
  exact congrArg (fun z => drH z d n c E C) (trH_eNew htb)
theorem ev_dar0 (hdt : d + 3 ≤ t) (htb : t + 4 ≤ b.2.1) (hn : n < 120) (hc : c ≤ 120) (hT : T.1 ≤ 80) (hE : edAt b x e) (hx : x < d ∨ d + 3 ≤ x) (hx2 : x < t ∨ t + 4 ≤ x) (h4 : ¬ e 4 < 0) (h6 : ¬ e 6 < 0) (hL : ∀ i g, i < T.1 → g < T.1 → ¬ eLast T.1 T.2.2.2 i g < 0) (hk : fateT e T = 0) (pl : Int32) : iEv mX1_addRebased [.ref d, .ref x, .int pl, .ref t] (drH (trT b t T) d n c E C) none (drH (trT (oNewB b e T) t (ePerf (oFit e T) T)) d (n + 1) c (va_up E n (some (oNewX b x e))) C) ∧ fitT (oFit e T) T = true := by
  have hE1 : edAt (drH (trT b t T) d n c E C) x e := (hE.tr hx2).dr hx
  have hT1 : trAt (drH (trT b t T) d n c E C) t T.1 T.2.1 T.2.2.1 T.2.2.2 := by
    rw [drH_trH hdt]
    exact trH_tr hT
  have ho : iEv mX2_over [.ref x, .ref t] (drH (trT b t T) d n c E C) (some (.int 0)) (drH (trT b t T) d n c E C) := by
    have z := ev_over hE1 hT1
    rw [show oFate e T.1 T.2.1 T.2.2.1 T.2.2.2 = 0 from hk] at z
    exact z
  have hN : (drH (trT b t T) d n c E C).2.1 = b.2.1 := rfl
  by_cases c0 : e 0 = 0
  · have hf : fitT e T = true := kept_N c0 hk
    rw [show oNewB b e T = b from if_pos c0, show oFit e T = e from if_pos c0, show oNewX b x e = x from if_pos c0]
    exact ⟨ev_darK hdt hn hc hT ho hE1.o (ev_fittedN hE1 hT1 c0) hE hx hx2 hf pl, hf⟩
  · rw [show oNewB b e T = eNew b (oFit e T) from if_neg c0, show oNewX b x e = b.2.1 from if_neg c0]
    by_cases c1 : e 0 = 1
    · obtain ⟨i, hw, -, hf⟩ := kept_T c1 hk
      have z : oFit e T = e7 1 (e 1) (e 2) (tPK T.2.1 T.2.2.2 i) (nI (tPlace T.2.2.2 i)) 0 0 := by
        unfold oFit
        rw [if_neg c0, if_pos c1, hw]
      have w := ev_fittedT hE1 hT1 c1 hw
      rw [new_dt hdt htb, hN, ← z] at w
      rw [← z] at hf
      exact ⟨ev_darK hdt hn hc hT ho hE1.o w eNew_at (Or.inr (by omega)) (Or.inr htb) hf pl, hf⟩
    · by_cases c2 : e 0 = 2
      · obtain ⟨g, hg, hf⟩ := kept_G c2 h4 hk hT
        have z : oFit e T = e7 2 (e 1) (e 2) (e 3) (iMn (e 4) (nI (tKids T.2.2.2 T.1 g))) 0 0 := by
          unfold oFit
          rw [if_neg c0, if_neg c1, if_pos c2, hg]
        have w := ev_fittedG hE1 hT1 c2 hg
        rw [new_dt hdt htb, hN, ← z] at w
        rw [← z] at hf
        exact ⟨ev_darK hdt hn hc hT ho hE1.o w eNew_at (Or.inr (by omega)) (Or.inr htb) hf pl, hf⟩
      · obtain ⟨i, g, hw, -, hg, -, hf⟩ := kept_M c0 c1 c2 h6 hL hk
        have z : oFit e T = e7 3 (e 1) 0 (e 3) (nI (tPlace T.2.2.2 i)) (e 5) (iMn (e 6) (eLast T.1 T.2.2.2 i g)) := by
          unfold oFit
          rw [if_neg c0, if_neg c1, if_neg c2, hw, hg]
        have w := ev_fittedM hE1 hT1 c0 c1 c2 hw hg
        rw [new_dt hdt htb, hN, ← z] at w
        rw [← z] at hf
        exact ⟨ev_darK hdt hn hc hT ho hE1.o w eNew_at (Or.inr (by omega)) (Or.inr htb) hf pl, hf⟩
end REB2

/-! the class's Tree read, by what it holds -/
def tA (h : iHp) (t : Nat) (T : tT) : Prop := ∃ K B D, trAt h t T.1 K B D ∧ tEq (T.1, K, B, D) T
section TREAD
variable {h h' : iHp} {t i j n : Nat} {T U : tT} {K B D : Nat → Int32} {k : Int32}
theorem tA.o (hA : tA h t T) : iObj h t 7 = true := by
  obtain ⟨K, B, D, a, e⟩ := hA
  exact a.o
theorem tA.s (hA : tA h t T) : iGet h t 7 3 = some (.int (nI T.1)) := by
  obtain ⟨K, B, D, a, e⟩ := hA
  exact a.s
theorem tA.congr (hA : tA h t T) (e : tEq T U) : tA h t U := by
  obtain ⟨K, B, D, a, e1⟩ := hA
  rw [e.1] at a e1
  exact ⟨K, B, D, a, e1.trans e⟩
theorem tA_of (a : trAt h t n K B D) (e : tEq (n, K, B, D) U) : tA h t U := ⟨K, B, D, by rw [← e.1]; exact a, by
  have h1 : n = U.1 := e.1
  rw [← h1]
  exact e⟩
/-- the same cells -/
theorem tA.same (hA : tA h t T) (hs : ∀ j, j < 4 → h'.1 (t + j) = h.1 (t + j)) : tA h' t T := by
  obtain ⟨K, B, D, a, e⟩ := hA
  exact ⟨K, B, D, ⟨(hs 0 (by decide)).trans a.1, (hs 1 (by decide)).trans a.2.1, (hs 2 (by decide)).trans a.2.2.1, (hs 3 (by decide)).trans a.2.2.2.1, a.2.2.2.2⟩, e⟩
theorem tA.keyAt (hA : tA h t T) (hi : i < T.1) : iEv mX7_keyAt [.ref t, .int (nI i)] h (some (.int (T.2.1 i))) h := by
  obtain ⟨K, B, D, a, e⟩ := hA
  have := ev_keyAt a hi
  rwa [show K i = T.2.1 i from (e.2 i hi).1] at this
theorem tA.labelAt (hA : tA h t T) (hi : i < T.1) : iEv mX7_labelAt [.ref t, .int (nI i)] h (some (.int (T.2.2.1 i))) h := by
  obtain ⟨K, B, D, a, e⟩ := hA
  have := ev_labelAt a hi
  rwa [show B i = T.2.2.1 i from (e.2 i hi).2.1] at this
theorem tA.depthAt (hA : tA h t T) (hi : i < T.1) : iEv mX7_depthAt [.ref t, .int (nI i)] h (some (.int (T.2.2.2 i))) h := by
  obtain ⟨K, B, D, a, e⟩ := hA
  have := ev_depthAt a hi
  rwa [show D i = T.2.2.2 i from (e.2 i hi).2.2] at this
theorem tA.whereOf (hA : tA h t T) (k : Int32) : iEv mX7_whereOf [.ref t, .int k] h (some (.int (oI (tWhere T.2.1 T.1 k)))) h := by
  obtain ⟨K, B, D, a, e⟩ := hA
  have := ev_whereOf a k
  rwa [tWhere_congr (fun j hj => (e.2 j hj).1)] at this
theorem tA.endOf (hA : tA h t T) (hT : tOk T) (hi : i < T.1) : iEv mX7_endOf [.ref t, .int (nI i)] h (some (.int (nI (tEnd T.2.2.2 T.1 i)))) h := by
  obtain ⟨K, B, D, a, e⟩ := hA
  obtain ⟨hK, d, hd, h5⟩ := hT
  have := ev_endOf a hi
  rwa [← cEnd hd (fun j hj => (e.2 j hj).2.2.symm) hi] at this
theorem tA.parentAt (hA : tA h t T) (hT : tOk T) (hi : i < T.1) : iEv mX7_parentAt [.ref t, .int (nI i)] h (some (.int (oI (tPar T.2.2.2 i)))) h := by
  obtain ⟨K, B, D, a, e⟩ := hA
  obtain ⟨hK, d, hd, h5⟩ := hT
  have := ev_parentAt a hi
  rwa [← cPar hd (fun j hj => (e.2 j hj).2.2.symm) hi] at this
theorem tA.parentKeyAt (hA : tA h t T) (hT : tOk T) (hi : i < T.1) : iEv mX7_parentKeyAt [.ref t, .int (nI i)] h (some (.int (tPK T.2.1 T.2.2.2 i))) h := by
  obtain ⟨K, B, D, a, e⟩ := hA
  obtain ⟨hK, d, hd, h5⟩ := hT
  have := ev_parentKeyAt a hi
  rwa [← cPK hd (fun j hj => (e.2 j hj).2.2.symm) (fun j hj => (e.2 j hj).1.symm) hi] at this
theorem tA.placeAt (hA : tA h t T) (hT : tOk T) (hi : i < T.1) : iEv mX7_placeAt [.ref t, .int (nI i)] h (some (.int (nI (tPlace T.2.2.2 i)))) h := by
  obtain ⟨K, B, D, a, e⟩ := hA
  obtain ⟨hK, d, hd, h5⟩ := hT
  have := ev_placeAt a hi
  rwa [← cPlace hd (fun j hj => (e.2 j hj).2.2.symm) hi] at this
end TREAD

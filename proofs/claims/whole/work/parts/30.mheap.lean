/-! THE REFERENCE'S STATE: one object of 41 fields, and 27 arrays right behind it. s.1: the numbers, s.2.1: the int arrays, s.2.2: rowOf; all by the fields' numbers -/
abbrev mS : Type := (Nat → Int32) × (Nat → Nat → Int32) × (Nat → Int64)
def mSet (s : mS) (k : Nat) (v : Int32) : mS := (va_up s.1 k v, s.2)
def mPut (s : mS) (k j : Nat) (v : Int32) : mS := (s.1, va_up s.2.1 k (upd (s.2.1 k) j v), s.2.2)
def mPutL (s : mS) (j : Nat) (v : Int64) : mS := (s.1, s.2.1, vp_updL s.2.2 j v)
def mObj (x : Nat) (s : mS) : List Value := [.int (s.1 0), .ref (x + 1), .ref (x + 2), .ref (x + 3), .ref (x + 4), .int (s.1 5), .int (s.1 6), .ref (x + 5), .ref (x + 6), .ref (x + 7), .int (s.1 10), .ref (x + 8), .ref (x + 9), .ref (x + 10), .int (s.1 14), .int (s.1 15), .int (s.1 16), .ref (x + 11), .int (s.1 18), .ref (x + 12), .ref (x + 13), .ref (x + 14), .ref (x + 15), .ref (x + 16), .ref (x + 17), .int (s.1 25), .ref (x + 18), .int (s.1 27), .ref (x + 19), .ref (x + 20), .int (s.1 30), .int (s.1 31), .ref (x + 21), .ref (x + 22), .ref (x + 23), .ref (x + 24), .int (s.1 36), .ref (x + 25), .ref (x + 26), .ref (x + 27), .int (s.1 40)]
def mCell (x : Nat) (s : mS) (j : Nat) : iPC := match j with
  | 0 => .inr (9, mObj x s)
  | 1 => .inl (0, 16, .inl (s.2.1 1))
  | 2 => .inl (0, 1024, .inl (s.2.1 2))
  | 3 => .inl (0, 1024, .inl (s.2.1 3))
  | 4 => .inl (0, 1024, .inl (s.2.1 4))
  | 5 => .inl (0, 80, .inl (s.2.1 7))
  | 6 => .inl (0, 13440, .inl (s.2.1 8))
  | 7 => .inl (0, 3840, .inl (s.2.1 9))
  | 8 => .inl (0, 8, .inl (s.2.1 11))
  | 9 => .inl (0, 8, .inl (s.2.1 12))
  | 10 => .inl (1, 1280, .inr (.inl s.2.2))
  | 11 => .inl (0, 8, .inl (s.2.1 17))
  | 12 => .inl (0, 66, .inl (s.2.1 19))
  | 13 => .inl (0, 66, .inl (s.2.1 20))
  | 14 => .inl (0, 66, .inl (s.2.1 21))
  | 15 => .inl (0, 66, .inl (s.2.1 22))
  | 16 => .inl (0, 66, .inl (s.2.1 23))
  | 17 => .inl (0, 66, .inl (s.2.1 24))
  | 18 => .inl (0, 1400, .inl (s.2.1 26))
  | 19 => .inl (0, 240, .inl (s.2.1 28))
  | 20 => .inl (0, 66, .inl (s.2.1 29))
  | 21 => .inl (0, 16, .inl (s.2.1 32))
  | 22 => .inl (0, 1024, .inl (s.2.1 33))
  | 23 => .inl (0, 1024, .inl (s.2.1 34))
  | 24 => .inl (0, 1024, .inl (s.2.1 35))
  | 25 => .inl (0, 80, .inl (s.2.1 37))
  | 26 => .inl (0, 13440, .inl (s.2.1 38))
  | 27 => .inl (0, 3840, .inl (s.2.1 39))
  | _ => .inr (9, mObj x s)
def iPC_i (n : Nat) (f : Nat → Int32) : iPC := .inl (0, n, .inl f)
def mH (b : iHp) (x : Nat) (s : mS) : iHp := (fun q => if x ≤ q ∧ q < x + 28 then some (mCell x s (q - x)) else b.1 q, b.2)
section MH
variable {b : iHp} {x : Nat} {s : mS} {v : Int32} {u : Int64} {j : Nat}
theorem mH_at {p : Nat} (hp : p < 28) : (mH b x s).1 (x + p) = some (mCell x s p) := by
  show (if x ≤ x + p ∧ x + p < x + 28 then some (mCell x s (x + p - x)) else b.1 (x + p)) = _
  rw [if_pos ⟨by omega, by omega⟩, Nat.add_sub_cancel_left]
theorem mH_at0 : (mH b x s).1 x = some (.inr (9, mObj x s)) := mH_at (p := 0) (by decide)
theorem mH_set {s' : mS} {p : Nat} {c : iPC} (hp : p < 28) (hc : c = mCell x s' p) (ho : ∀ q, q < 28 → q ≠ p → mCell x s' q = mCell x s q) : iSet (mH b x s) (x + p) c = mH b x s' := by
  subst hc
  refine Prod.ext (funext fun q => ?_) rfl
  show (if q = x + p then some (mCell x s' p) else (if x ≤ q ∧ q < x + 28 then some (mCell x s (q - x)) else b.1 q)) = (if x ≤ q ∧ q < x + 28 then some (mCell x s' (q - x)) else b.1 q)
  by_cases e : q = x + p
  · subst e
    rw [if_pos rfl, if_pos ⟨by omega, by omega⟩, Nat.add_sub_cancel_left]
  · rw [if_neg e]
    by_cases hq : x ≤ q ∧ q < x + 28
    · rw [if_pos hq, if_pos hq, ho (q - x) (by omega) (by omega)]
    · rw [if_neg hq, if_neg hq]
theorem mH_obj : iObj (mH b x s) x 9 = true := by
  unfold iObj
  rw [mH_at0]
  rfl
theorem mGet {k : Nat} : iGet (mH b x s) x 9 k = (mObj x s)[k]? := by
  unfold iGet
  rw [mH_at0]
  rfl
theorem m_up {α : Type} {f : Nat → α} {k j : Nat} {v : α} (h : j ≠ k) : va_up f k v j = f j := if_neg h
theorem m_us {α : Type} {f : Nat → α} {k : Nat} {v : α} : va_up f k v k = v := if_pos rfl
theorem mLd {p k n : Nat} (hp : p < 28) (hc : ∀ s : mS, mCell x s p = .inl (0, n, .inl (s.2.1 k))) (hn : n < 2 ^ 31) (hj : j < n) : iLdI (mH b x s) (x + p) (nI j) = some (s.2.1 k j) := by
  unfold iLdI
  rw [mH_at hp, hc]
  dsimp only
  rw [if_pos ⟨Or.inl rfl, nI_in hj hn⟩, nI_clamp (by omega)]
theorem mSt {p k n : Nat} (hp : p < 28) (hc : ∀ s : mS, mCell x s p = .inl (0, n, .inl (s.2.1 k))) (ho : ∀ (s : mS) (g : Nat → Int32) (q : Nat), q < 28 → q ≠ p → mCell x (s.1, va_up s.2.1 k g, s.2.2) q = mCell x s q) (hn : n < 2 ^ 31) (hj : j < n) : iStI (mH b x s) (x + p) (nI j) v = some (mH b x (mPut s k j v)) := by
  unfold iStI
  rw [mH_at hp, hc]
  dsimp only
  rw [if_pos ⟨rfl, nI_in hj hn⟩, nI_clamp (by omega)]
  refine congrArg some (mH_set hp ?_ (fun q h1 h2 => ho s _ q h1 h2))
  rw [hc]
  show _ = iPC_i n (va_up s.2.1 k (upd (s.2.1 k) j v) k)
  rw [m_us]
  rfl
theorem i28 {P : Nat → Prop} (h0 : P 0) (h1 : P 1) (h2 : P 2) (h3 : P 3) (h4 : P 4) (h5 : P 5) (h6 : P 6) (h7 : P 7) (h8 : P 8) (h9 : P 9) (h10 : P 10) (h11 : P 11) (h12 : P 12) (h13 : P 13) (h14 : P 14) (h15 : P 15) (h16 : P 16) (h17 : P 17) (h18 : P 18) (h19 : P 19) (h20 : P 20) (h21 : P 21) (h22 : P 22) (h23 : P 23) (h24 : P 24) (h25 : P 25) (h26 : P 26) (h27 : P 27) : ∀ q, q < 28 → P q := by
  intro q hq
  match q, hq with
  | 0, _ => exact h0
  | 1, _ => exact h1
  | 2, _ => exact h2
  | 3, _ => exact h3
  | 4, _ => exact h4
  | 5, _ => exact h5
  | 6, _ => exact h6
  | 7, _ => exact h7
  | 8, _ => exact h8
  | 9, _ => exact h9
  | 10, _ => exact h10
  | 11, _ => exact h11
  | 12, _ => exact h12
  | 13, _ => exact h13
  | 14, _ => exact h14
  | 15, _ => exact h15
  | 16, _ => exact h16
  | 17, _ => exact h17
  | 18, _ => exact h18
  | 19, _ => exact h19
  | 20, _ => exact h20
  | 21, _ => exact h21
  | 22, _ => exact h22
  | 23, _ => exact h23
  | 24, _ => exact h24
  | 25, _ => exact h25
  | 26, _ => exact h26
  | 27, _ => exact h27
  | q + 28, hq => exact absurd hq (by omega)
theorem mg0 : iGet (mH b x s) x 9 0 = some (.int (s.1 0)) := mGet
theorem mg5 : iGet (mH b x s) x 9 5 = some (.int (s.1 5)) := mGet
theorem mg6 : iGet (mH b x s) x 9 6 = some (.int (s.1 6)) := mGet
theorem mg10 : iGet (mH b x s) x 9 10 = some (.int (s.1 10)) := mGet
theorem mg14 : iGet (mH b x s) x 9 14 = some (.int (s.1 14)) := mGet
theorem mg15 : iGet (mH b x s) x 9 15 = some (.int (s.1 15)) := mGet
theorem mg16 : iGet (mH b x s) x 9 16 = some (.int (s.1 16)) := mGet
theorem mg18 : iGet (mH b x s) x 9 18 = some (.int (s.1 18)) := mGet
theorem mg25 : iGet (mH b x s) x 9 25 = some (.int (s.1 25)) := mGet
theorem mg27 : iGet (mH b x s) x 9 27 = some (.int (s.1 27)) := mGet
theorem mg30 : iGet (mH b x s) x 9 30 = some (.int (s.1 30)) := mGet
theorem mg31 : iGet (mH b x s) x 9 31 = some (.int (s.1 31)) := mGet
theorem mg36 : iGet (mH b x s) x 9 36 = some (.int (s.1 36)) := mGet
theorem mg40 : iGet (mH b x s) x 9 40 = some (.int (s.1 40)) := mGet
theorem mg1 : iGet (mH b x s) x 9 1 = some (.ref (x + 1)) := mGet
theorem mg2 : iGet (mH b x s) x 9 2 = some (.ref (x + 2)) := mGet
theorem mg3 : iGet (mH b x s) x 9 3 = some (.ref (x + 3)) := mGet
theorem mg4 : iGet (mH b x s) x 9 4 = some (.ref (x + 4)) := mGet
theorem mg7 : iGet (mH b x s) x 9 7 = some (.ref (x + 5)) := mGet
theorem mg8 : iGet (mH b x s) x 9 8 = some (.ref (x + 6)) := mGet
theorem mg9 : iGet (mH b x s) x 9 9 = some (.ref (x + 7)) := mGet
theorem mg11 : iGet (mH b x s) x 9 11 = some (.ref (x + 8)) := mGet
theorem mg12 : iGet (mH b x s) x 9 12 = some (.ref (x + 9)) := mGet
theorem mg13 : iGet (mH b x s) x 9 13 = some (.ref (x + 10)) := mGet
theorem mg17 : iGet (mH b x s) x 9 17 = some (.ref (x + 11)) := mGet
theorem mg19 : iGet (mH b x s) x 9 19 = some (.ref (x + 12)) := mGet
theorem mg20 : iGet (mH b x s) x 9 20 = some (.ref (x + 13)) := mGet
theorem mg21 : iGet (mH b x s) x 9 21 = some (.ref (x + 14)) := mGet
theorem mg22 : iGet (mH b x s) x 9 22 = some (.ref (x + 15)) := mGet
theorem mg23 : iGet (mH b x s) x 9 23 = some (.ref (x + 16)) := mGet
theorem mg24 : iGet (mH b x s) x 9 24 = some (.ref (x + 17)) := mGet
theorem mg26 : iGet (mH b x s) x 9 26 = some (.ref (x + 18)) := mGet
theorem mg28 : iGet (mH b x s) x 9 28 = some (.ref (x + 19)) := mGet
theorem mg29 : iGet (mH b x s) x 9 29 = some (.ref (x + 20)) := mGet
theorem mg32 : iGet (mH b x s) x 9 32 = some (.ref (x + 21)) := mGet
theorem mg33 : iGet (mH b x s) x 9 33 = some (.ref (x + 22)) := mGet
theorem mg34 : iGet (mH b x s) x 9 34 = some (.ref (x + 23)) := mGet
theorem mg35 : iGet (mH b x s) x 9 35 = some (.ref (x + 24)) := mGet
theorem mg37 : iGet (mH b x s) x 9 37 = some (.ref (x + 25)) := mGet
theorem mg38 : iGet (mH b x s) x 9 38 = some (.ref (x + 26)) := mGet
theorem mg39 : iGet (mH b x s) x 9 39 = some (.ref (x + 27)) := mGet
theorem mPutF {k : Nat} {s' : mS} {v : Value} (hl : k < 41) (ho : (mObj x s).set k v = mObj x s') (hc : ∀ q, q < 28 → q ≠ 0 → mCell x s' q = mCell x s q) : iPut (mH b x s) x 9 k v = some (mH b x s') := by
  unfold iPut
  rw [mH_at0]
  dsimp only
  rw [if_pos ⟨rfl, hl⟩]
  exact congrArg some (mH_set (p := 0) (by decide) (by rw [ho]; rfl) hc)
theorem mp0 : iPut (mH b x s) x 9 0 (.int v) = some (mH b x (mSet s 0 v)) := mPutF (by decide) rfl (i28 (fun h => absurd rfl h) (fun _ => rfl) (fun _ => rfl) (fun _ => rfl) (fun _ => rfl) (fun _ => rfl) (fun _ => rfl) (fun _ => rfl) (fun _ => rfl) (fun _ => rfl) (fun _ => rfl) (fun _ => rfl) (fun _ => rfl) (fun _ => rfl) (fun _ => rfl) (fun _ => rfl) (fun _ => rfl) (fun _ => rfl) (fun _ => rfl) (fun _ => rfl) (fun _ => rfl) (fun _ => rfl) (fun _ => rfl) (fun _ => rfl) (fun _ => rfl) (fun _ => rfl) (fun _ => rfl) (fun _ => rfl))
theorem mp5 : iPut (mH b x s) x 9 5 (.int v) = some (mH b x (mSet s 5 v)) := mPutF (by decide) rfl (i28 (fun h => absurd rfl h) (fun _ => rfl) (fun _ => rfl) (fun _ => rfl) (fun _ => rfl) (fun _ => rfl) (fun _ => rfl) (fun _ => rfl) (fun _ => rfl) (fun _ => rfl) (fun _ => rfl) (fun _ => rfl) (fun _ => rfl) (fun _ => rfl) (fun _ => rfl) (fun _ => rfl) (fun _ => rfl) (fun _ => rfl) (fun _ => rfl) (fun _ => rfl) (fun _ => rfl) (fun _ => rfl) (fun _ => rfl) (fun _ => rfl) (fun _ => rfl) (fun _ => rfl) (fun _ => rfl) (fun _ => rfl))
theorem mp6 : iPut (mH b x s) x 9 6 (.int v) = some (mH b x (mSet s 6 v)) := mPutF (by decide) rfl (i28 (fun h => absurd rfl h) (fun _ => rfl) (fun _ => rfl) (fun _ => rfl) (fun _ => rfl) (fun _ => rfl) (fun _ => rfl) (fun _ => rfl) (fun _ => rfl) (fun _ => rfl) (fun _ => rfl) (fun _ => rfl) (fun _ => rfl) (fun _ => rfl) (fun _ => rfl) (fun _ => rfl) (fun _ => rfl) (fun _ => rfl) (fun _ => rfl) (fun _ => rfl) (fun _ => rfl) (fun _ => rfl) (fun _ => rfl) (fun _ => rfl) (fun _ => rfl) (fun _ => rfl) (fun _ => rfl) (fun _ => rfl))
theorem mp10 : iPut (mH b x s) x 9 10 (.int v) = some (mH b x (mSet s 10 v)) := mPutF (by decide) rfl (i28 (fun h => absurd rfl h) (fun _ => rfl) (fun _ => rfl) (fun _ => rfl) (fun _ => rfl) (fun _ => rfl) (fun _ => rfl) (fun _ => rfl) (fun _ => rfl) (fun _ => rfl) (fun _ => rfl) (fun _ => rfl) (fun _ => rfl) (fun _ => rfl) (fun _ => rfl) (fun _ => rfl) (fun _ => rfl) (fun _ => rfl) (fun _ => rfl) (fun _ => rfl) (fun _ => rfl) (fun _ => rfl) (fun _ => rfl) (fun _ => rfl) (fun _ => rfl) (fun _ => rfl) (fun _ => rfl) (fun _ => rfl))
theorem mp14 : iPut (mH b x s) x 9 14 (.int v) = some (mH b x (mSet s 14 v)) := mPutF (by decide) rfl (i28 (fun h => absurd rfl h) (fun _ => rfl) (fun _ => rfl) (fun _ => rfl) (fun _ => rfl) (fun _ => rfl) (fun _ => rfl) (fun _ => rfl) (fun _ => rfl) (fun _ => rfl) (fun _ => rfl) (fun _ => rfl) (fun _ => rfl) (fun _ => rfl) (fun _ => rfl) (fun _ => rfl) (fun _ => rfl) (fun _ => rfl) (fun _ => rfl) (fun _ => rfl) (fun _ => rfl) (fun _ => rfl) (fun _ => rfl) (fun _ => rfl) (fun _ => rfl) (fun _ => rfl) (fun _ => rfl) (fun _ => rfl))
theorem mp15 : iPut (mH b x s) x 9 15 (.int v) = some (mH b x (mSet s 15 v)) := mPutF (by decide) rfl (i28 (fun h => absurd rfl h) (fun _ => rfl) (fun _ => rfl) (fun _ => rfl) (fun _ => rfl) (fun _ => rfl) (fun _ => rfl) (fun _ => rfl) (fun _ => rfl) (fun _ => rfl) (fun _ => rfl) (fun _ => rfl) (fun _ => rfl) (fun _ => rfl) (fun _ => rfl) (fun _ => rfl) (fun _ => rfl) (fun _ => rfl) (fun _ => rfl) (fun _ => rfl) (fun _ => rfl) (fun _ => rfl) (fun _ => rfl) (fun _ => rfl) (fun _ => rfl) (fun _ => rfl) (fun _ => rfl) (fun _ => rfl))
theorem mp16 : iPut (mH b x s) x 9 16 (.int v) = some (mH b x (mSet s 16 v)) := mPutF (by decide) rfl (i28 (fun h => absurd rfl h) (fun _ => rfl) (fun _ => rfl) (fun _ => rfl) (fun _ => rfl) (fun _ => rfl) (fun _ => rfl) (fun _ => rfl) (fun _ => rfl) (fun _ => rfl) (fun _ => rfl) (fun _ => rfl) (fun _ => rfl) (fun _ => rfl) (fun _ => rfl) (fun _ => rfl) (fun _ => rfl) (fun _ => rfl) (fun _ => rfl) (fun _ => rfl) (fun _ => rfl) (fun _ => rfl) (fun _ => rfl) (fun _ => rfl) (fun _ => rfl) (fun _ => rfl) (fun _ => rfl) (fun _ => rfl))
theorem mp18 : iPut (mH b x s) x 9 18 (.int v) = some (mH b x (mSet s 18 v)) := mPutF (by decide) rfl (i28 (fun h => absurd rfl h) (fun _ => rfl) (fun _ => rfl) (fun _ => rfl) (fun _ => rfl) (fun _ => rfl) (fun _ => rfl) (fun _ => rfl) (fun _ => rfl) (fun _ => rfl) (fun _ => rfl) (fun _ => rfl) (fun _ => rfl) (fun _ => rfl) (fun _ => rfl) (fun _ => rfl) (fun _ => rfl) (fun _ => rfl) (fun _ => rfl) (fun _ => rfl) (fun _ => rfl) (fun _ => rfl) (fun _ => rfl) (fun _ => rfl) (fun _ => rfl) (fun _ => rfl) (fun _ => rfl) (fun _ => rfl))
theorem mp25 : iPut (mH b x s) x 9 25 (.int v) = some (mH b x (mSet s 25 v)) := mPutF (by decide) rfl (i28 (fun h => absurd rfl h) (fun _ => rfl) (fun _ => rfl) (fun _ => rfl) (fun _ => rfl) (fun _ => rfl) (fun _ => rfl) (fun _ => rfl) (fun _ => rfl) (fun _ => rfl) (fun _ => rfl) (fun _ => rfl) (fun _ => rfl) (fun _ => rfl) (fun _ => rfl) (fun _ => rfl) (fun _ => rfl) (fun _ => rfl) (fun _ => rfl) (fun _ => rfl) (fun _ => rfl) (fun _ => rfl) (fun _ => rfl) (fun _ => rfl) (fun _ => rfl) (fun _ => rfl) (fun _ => rfl) (fun _ => rfl))
theorem mp27 : iPut (mH b x s) x 9 27 (.int v) = some (mH b x (mSet s 27 v)) := mPutF (by decide) rfl (i28 (fun h => absurd rfl h) (fun _ => rfl) (fun _ => rfl) (fun _ => rfl) (fun _ => rfl) (fun _ => rfl) (fun _ => rfl) (fun _ => rfl) (fun _ => rfl) (fun _ => rfl) (fun _ => rfl) (fun _ => rfl) (fun _ => rfl) (fun _ => rfl) (fun _ => rfl) (fun _ => rfl) (fun _ => rfl) (fun _ => rfl) (fun _ => rfl) (fun _ => rfl) (fun _ => rfl) (fun _ => rfl) (fun _ => rfl) (fun _ => rfl) (fun _ => rfl) (fun _ => rfl) (fun _ => rfl) (fun _ => rfl))
theorem mp30 : iPut (mH b x s) x 9 30 (.int v) = some (mH b x (mSet s 30 v)) := mPutF (by decide) rfl (i28 (fun h => absurd rfl h) (fun _ => rfl) (fun _ => rfl) (fun _ => rfl) (fun _ => rfl) (fun _ => rfl) (fun _ => rfl) (fun _ => rfl) (fun _ => rfl) (fun _ => rfl) (fun _ => rfl) (fun _ => rfl) (fun _ => rfl) (fun _ => rfl) (fun _ => rfl) (fun _ => rfl) (fun _ => rfl) (fun _ => rfl) (fun _ => rfl) (fun _ => rfl) (fun _ => rfl) (fun _ => rfl) (fun _ => rfl) (fun _ => rfl) (fun _ => rfl) (fun _ => rfl) (fun _ => rfl) (fun _ => rfl))
theorem mp31 : iPut (mH b x s) x 9 31 (.int v) = some (mH b x (mSet s 31 v)) := mPutF (by decide) rfl (i28 (fun h => absurd rfl h) (fun _ => rfl) (fun _ => rfl) (fun _ => rfl) (fun _ => rfl) (fun _ => rfl) (fun _ => rfl) (fun _ => rfl) (fun _ => rfl) (fun _ => rfl) (fun _ => rfl) (fun _ => rfl) (fun _ => rfl) (fun _ => rfl) (fun _ => rfl) (fun _ => rfl) (fun _ => rfl) (fun _ => rfl) (fun _ => rfl) (fun _ => rfl) (fun _ => rfl) (fun _ => rfl) (fun _ => rfl) (fun _ => rfl) (fun _ => rfl) (fun _ => rfl) (fun _ => rfl) (fun _ => rfl))
theorem mp36 : iPut (mH b x s) x 9 36 (.int v) = some (mH b x (mSet s 36 v)) := mPutF (by decide) rfl (i28 (fun h => absurd rfl h) (fun _ => rfl) (fun _ => rfl) (fun _ => rfl) (fun _ => rfl) (fun _ => rfl) (fun _ => rfl) (fun _ => rfl) (fun _ => rfl) (fun _ => rfl) (fun _ => rfl) (fun _ => rfl) (fun _ => rfl) (fun _ => rfl) (fun _ => rfl) (fun _ => rfl) (fun _ => rfl) (fun _ => rfl) (fun _ => rfl) (fun _ => rfl) (fun _ => rfl) (fun _ => rfl) (fun _ => rfl) (fun _ => rfl) (fun _ => rfl) (fun _ => rfl) (fun _ => rfl) (fun _ => rfl))
theorem mp40 : iPut (mH b x s) x 9 40 (.int v) = some (mH b x (mSet s 40 v)) := mPutF (by decide) rfl (i28 (fun h => absurd rfl h) (fun _ => rfl) (fun _ => rfl) (fun _ => rfl) (fun _ => rfl) (fun _ => rfl) (fun _ => rfl) (fun _ => rfl) (fun _ => rfl) (fun _ => rfl) (fun _ => rfl) (fun _ => rfl) (fun _ => rfl) (fun _ => rfl) (fun _ => rfl) (fun _ => rfl) (fun _ => rfl) (fun _ => rfl) (fun _ => rfl) (fun _ => rfl) (fun _ => rfl) (fun _ => rfl) (fun _ => rfl) (fun _ => rfl) (fun _ => rfl) (fun _ => rfl) (fun _ => rfl) (fun _ => rfl))
theorem ml1 (hj : j < 16) : iLdI (mH b x s) (x + 1) (nI j) = some (s.2.1 1 j) := mLd (k := 1) (by decide) (fun _ => rfl) (by decide) hj
theorem ms1 (hj : j < 16) : iStI (mH b x s) (x + 1) (nI j) v = some (mH b x (mPut s 1 j v)) := mSt (k := 1) (by decide) (fun _ => rfl) (fun s g => i28 (fun _ => rfl) (fun h => absurd rfl h) (fun _ => rfl) (fun _ => rfl) (fun _ => rfl) (fun _ => rfl) (fun _ => rfl) (fun _ => rfl) (fun _ => rfl) (fun _ => rfl) (fun _ => rfl) (fun _ => rfl) (fun _ => rfl) (fun _ => rfl) (fun _ => rfl) (fun _ => rfl) (fun _ => rfl) (fun _ => rfl) (fun _ => rfl) (fun _ => rfl) (fun _ => rfl) (fun _ => rfl) (fun _ => rfl) (fun _ => rfl) (fun _ => rfl) (fun _ => rfl) (fun _ => rfl) (fun _ => rfl)) (by decide) hj
theorem ml2 (hj : j < 1024) : iLdI (mH b x s) (x + 2) (nI j) = some (s.2.1 2 j) := mLd (k := 2) (by decide) (fun _ => rfl) (by decide) hj
theorem ms2 (hj : j < 1024) : iStI (mH b x s) (x + 2) (nI j) v = some (mH b x (mPut s 2 j v)) := mSt (k := 2) (by decide) (fun _ => rfl) (fun s g => i28 (fun _ => rfl) (fun _ => rfl) (fun h => absurd rfl h) (fun _ => rfl) (fun _ => rfl) (fun _ => rfl) (fun _ => rfl) (fun _ => rfl) (fun _ => rfl) (fun _ => rfl) (fun _ => rfl) (fun _ => rfl) (fun _ => rfl) (fun _ => rfl) (fun _ => rfl) (fun _ => rfl) (fun _ => rfl) (fun _ => rfl) (fun _ => rfl) (fun _ => rfl) (fun _ => rfl) (fun _ => rfl) (fun _ => rfl) (fun _ => rfl) (fun _ => rfl) (fun _ => rfl) (fun _ => rfl) (fun _ => rfl)) (by decide) hj
theorem ml3 (hj : j < 1024) : iLdI (mH b x s) (x + 3) (nI j) = some (s.2.1 3 j) := mLd (k := 3) (by decide) (fun _ => rfl) (by decide) hj
theorem ms3 (hj : j < 1024) : iStI (mH b x s) (x + 3) (nI j) v = some (mH b x (mPut s 3 j v)) := mSt (k := 3) (by decide) (fun _ => rfl) (fun s g => i28 (fun _ => rfl) (fun _ => rfl) (fun _ => rfl) (fun h => absurd rfl h) (fun _ => rfl) (fun _ => rfl) (fun _ => rfl) (fun _ => rfl) (fun _ => rfl) (fun _ => rfl) (fun _ => rfl) (fun _ => rfl) (fun _ => rfl) (fun _ => rfl) (fun _ => rfl) (fun _ => rfl) (fun _ => rfl) (fun _ => rfl) (fun _ => rfl) (fun _ => rfl) (fun _ => rfl) (fun _ => rfl) (fun _ => rfl) (fun _ => rfl) (fun _ => rfl) (fun _ => rfl) (fun _ => rfl) (fun _ => rfl)) (by decide) hj
theorem ml4 (hj : j < 1024) : iLdI (mH b x s) (x + 4) (nI j) = some (s.2.1 4 j) := mLd (k := 4) (by decide) (fun _ => rfl) (by decide) hj
theorem ms4 (hj : j < 1024) : iStI (mH b x s) (x + 4) (nI j) v = some (mH b x (mPut s 4 j v)) := mSt (k := 4) (by decide) (fun _ => rfl) (fun s g => i28 (fun _ => rfl) (fun _ => rfl) (fun _ => rfl) (fun _ => rfl) (fun h => absurd rfl h) (fun _ => rfl) (fun _ => rfl) (fun _ => rfl) (fun _ => rfl) (fun _ => rfl) (fun _ => rfl) (fun _ => rfl) (fun _ => rfl) (fun _ => rfl) (fun _ => rfl) (fun _ => rfl) (fun _ => rfl) (fun _ => rfl) (fun _ => rfl) (fun _ => rfl) (fun _ => rfl) (fun _ => rfl) (fun _ => rfl) (fun _ => rfl) (fun _ => rfl) (fun _ => rfl) (fun _ => rfl) (fun _ => rfl)) (by decide) hj
theorem ml7 (hj : j < 80) : iLdI (mH b x s) (x + 5) (nI j) = some (s.2.1 7 j) := mLd (k := 7) (by decide) (fun _ => rfl) (by decide) hj
theorem ms7 (hj : j < 80) : iStI (mH b x s) (x + 5) (nI j) v = some (mH b x (mPut s 7 j v)) := mSt (k := 7) (by decide) (fun _ => rfl) (fun s g => i28 (fun _ => rfl) (fun _ => rfl) (fun _ => rfl) (fun _ => rfl) (fun _ => rfl) (fun h => absurd rfl h) (fun _ => rfl) (fun _ => rfl) (fun _ => rfl) (fun _ => rfl) (fun _ => rfl) (fun _ => rfl) (fun _ => rfl) (fun _ => rfl) (fun _ => rfl) (fun _ => rfl) (fun _ => rfl) (fun _ => rfl) (fun _ => rfl) (fun _ => rfl) (fun _ => rfl) (fun _ => rfl) (fun _ => rfl) (fun _ => rfl) (fun _ => rfl) (fun _ => rfl) (fun _ => rfl) (fun _ => rfl)) (by decide) hj
theorem ml8 (hj : j < 13440) : iLdI (mH b x s) (x + 6) (nI j) = some (s.2.1 8 j) := mLd (k := 8) (by decide) (fun _ => rfl) (by decide) hj
theorem ms8 (hj : j < 13440) : iStI (mH b x s) (x + 6) (nI j) v = some (mH b x (mPut s 8 j v)) := mSt (k := 8) (by decide) (fun _ => rfl) (fun s g => i28 (fun _ => rfl) (fun _ => rfl) (fun _ => rfl) (fun _ => rfl) (fun _ => rfl) (fun _ => rfl) (fun h => absurd rfl h) (fun _ => rfl) (fun _ => rfl) (fun _ => rfl) (fun _ => rfl) (fun _ => rfl) (fun _ => rfl) (fun _ => rfl) (fun _ => rfl) (fun _ => rfl) (fun _ => rfl) (fun _ => rfl) (fun _ => rfl) (fun _ => rfl) (fun _ => rfl) (fun _ => rfl) (fun _ => rfl) (fun _ => rfl) (fun _ => rfl) (fun _ => rfl) (fun _ => rfl) (fun _ => rfl)) (by decide) hj
theorem ml9 (hj : j < 3840) : iLdI (mH b x s) (x + 7) (nI j) = some (s.2.1 9 j) := mLd (k := 9) (by decide) (fun _ => rfl) (by decide) hj
theorem ms9 (hj : j < 3840) : iStI (mH b x s) (x + 7) (nI j) v = some (mH b x (mPut s 9 j v)) := mSt (k := 9) (by decide) (fun _ => rfl) (fun s g => i28 (fun _ => rfl) (fun _ => rfl) (fun _ => rfl) (fun _ => rfl) (fun _ => rfl) (fun _ => rfl) (fun _ => rfl) (fun h => absurd rfl h) (fun _ => rfl) (fun _ => rfl) (fun _ => rfl) (fun _ => rfl) (fun _ => rfl) (fun _ => rfl) (fun _ => rfl) (fun _ => rfl) (fun _ => rfl) (fun _ => rfl) (fun _ => rfl) (fun _ => rfl) (fun _ => rfl) (fun _ => rfl) (fun _ => rfl) (fun _ => rfl) (fun _ => rfl) (fun _ => rfl) (fun _ => rfl) (fun _ => rfl)) (by decide) hj
theorem ml11 (hj : j < 8) : iLdI (mH b x s) (x + 8) (nI j) = some (s.2.1 11 j) := mLd (k := 11) (by decide) (fun _ => rfl) (by decide) hj
theorem ms11 (hj : j < 8) : iStI (mH b x s) (x + 8) (nI j) v = some (mH b x (mPut s 11 j v)) := mSt (k := 11) (by decide) (fun _ => rfl) (fun s g => i28 (fun _ => rfl) (fun _ => rfl) (fun _ => rfl) (fun _ => rfl) (fun _ => rfl) (fun _ => rfl) (fun _ => rfl) (fun _ => rfl) (fun h => absurd rfl h) (fun _ => rfl) (fun _ => rfl) (fun _ => rfl) (fun _ => rfl) (fun _ => rfl) (fun _ => rfl) (fun _ => rfl) (fun _ => rfl) (fun _ => rfl) (fun _ => rfl) (fun _ => rfl) (fun _ => rfl) (fun _ => rfl) (fun _ => rfl) (fun _ => rfl) (fun _ => rfl) (fun _ => rfl) (fun _ => rfl) (fun _ => rfl)) (by decide) hj
theorem ml12 (hj : j < 8) : iLdI (mH b x s) (x + 9) (nI j) = some (s.2.1 12 j) := mLd (k := 12) (by decide) (fun _ => rfl) (by decide) hj
theorem ms12 (hj : j < 8) : iStI (mH b x s) (x + 9) (nI j) v = some (mH b x (mPut s 12 j v)) := mSt (k := 12) (by decide) (fun _ => rfl) (fun s g => i28 (fun _ => rfl) (fun _ => rfl) (fun _ => rfl) (fun _ => rfl) (fun _ => rfl) (fun _ => rfl) (fun _ => rfl) (fun _ => rfl) (fun _ => rfl) (fun h => absurd rfl h) (fun _ => rfl) (fun _ => rfl) (fun _ => rfl) (fun _ => rfl) (fun _ => rfl) (fun _ => rfl) (fun _ => rfl) (fun _ => rfl) (fun _ => rfl) (fun _ => rfl) (fun _ => rfl) (fun _ => rfl) (fun _ => rfl) (fun _ => rfl) (fun _ => rfl) (fun _ => rfl) (fun _ => rfl) (fun _ => rfl)) (by decide) hj
theorem ml17 (hj : j < 8) : iLdI (mH b x s) (x + 11) (nI j) = some (s.2.1 17 j) := mLd (k := 17) (by decide) (fun _ => rfl) (by decide) hj
theorem ms17 (hj : j < 8) : iStI (mH b x s) (x + 11) (nI j) v = some (mH b x (mPut s 17 j v)) := mSt (k := 17) (by decide) (fun _ => rfl) (fun s g => i28 (fun _ => rfl) (fun _ => rfl) (fun _ => rfl) (fun _ => rfl) (fun _ => rfl) (fun _ => rfl) (fun _ => rfl) (fun _ => rfl) (fun _ => rfl) (fun _ => rfl) (fun _ => rfl) (fun h => absurd rfl h) (fun _ => rfl) (fun _ => rfl) (fun _ => rfl) (fun _ => rfl) (fun _ => rfl) (fun _ => rfl) (fun _ => rfl) (fun _ => rfl) (fun _ => rfl) (fun _ => rfl) (fun _ => rfl) (fun _ => rfl) (fun _ => rfl) (fun _ => rfl) (fun _ => rfl) (fun _ => rfl)) (by decide) hj
theorem ml19 (hj : j < 66) : iLdI (mH b x s) (x + 12) (nI j) = some (s.2.1 19 j) := mLd (k := 19) (by decide) (fun _ => rfl) (by decide) hj
theorem ms19 (hj : j < 66) : iStI (mH b x s) (x + 12) (nI j) v = some (mH b x (mPut s 19 j v)) := mSt (k := 19) (by decide) (fun _ => rfl) (fun s g => i28 (fun _ => rfl) (fun _ => rfl) (fun _ => rfl) (fun _ => rfl) (fun _ => rfl) (fun _ => rfl) (fun _ => rfl) (fun _ => rfl) (fun _ => rfl) (fun _ => rfl) (fun _ => rfl) (fun _ => rfl) (fun h => absurd rfl h) (fun _ => rfl) (fun _ => rfl) (fun _ => rfl) (fun _ => rfl) (fun _ => rfl) (fun _ => rfl) (fun _ => rfl) (fun _ => rfl) (fun _ => rfl) (fun _ => rfl) (fun _ => rfl) (fun _ => rfl) (fun _ => rfl) (fun _ => rfl) (fun _ => rfl)) (by decide) hj
theorem ml20 (hj : j < 66) : iLdI (mH b x s) (x + 13) (nI j) = some (s.2.1 20 j) := mLd (k := 20) (by decide) (fun _ => rfl) (by decide) hj
theorem ms20 (hj : j < 66) : iStI (mH b x s) (x + 13) (nI j) v = some (mH b x (mPut s 20 j v)) := mSt (k := 20) (by decide) (fun _ => rfl) (fun s g => i28 (fun _ => rfl) (fun _ => rfl) (fun _ => rfl) (fun _ => rfl) (fun _ => rfl) (fun _ => rfl) (fun _ => rfl) (fun _ => rfl) (fun _ => rfl) (fun _ => rfl) (fun _ => rfl) (fun _ => rfl) (fun _ => rfl) (fun h => absurd rfl h) (fun _ => rfl) (fun _ => rfl) (fun _ => rfl) (fun _ => rfl) (fun _ => rfl) (fun _ => rfl) (fun _ => rfl) (fun _ => rfl) (fun _ => rfl) (fun _ => rfl) (fun _ => rfl) (fun _ => rfl) (fun _ => rfl) (fun _ => rfl)) (by decide) hj
theorem ml21 (hj : j < 66) : iLdI (mH b x s) (x + 14) (nI j) = some (s.2.1 21 j) := mLd (k := 21) (by decide) (fun _ => rfl) (by decide) hj
theorem ms21 (hj : j < 66) : iStI (mH b x s) (x + 14) (nI j) v = some (mH b x (mPut s 21 j v)) := mSt (k := 21) (by decide) (fun _ => rfl) (fun s g => i28 (fun _ => rfl) (fun _ => rfl) (fun _ => rfl) (fun _ => rfl) (fun _ => rfl) (fun _ => rfl) (fun _ => rfl) (fun _ => rfl) (fun _ => rfl) (fun _ => rfl) (fun _ => rfl) (fun _ => rfl) (fun _ => rfl) (fun _ => rfl) (fun h => absurd rfl h) (fun _ => rfl) (fun _ => rfl) (fun _ => rfl) (fun _ => rfl) (fun _ => rfl) (fun _ => rfl) (fun _ => rfl) (fun _ => rfl) (fun _ => rfl) (fun _ => rfl) (fun _ => rfl) (fun _ => rfl) (fun _ => rfl)) (by decide) hj
theorem ml22 (hj : j < 66) : iLdI (mH b x s) (x + 15) (nI j) = some (s.2.1 22 j) := mLd (k := 22) (by decide) (fun _ => rfl) (by decide) hj
theorem ms22 (hj : j < 66) : iStI (mH b x s) (x + 15) (nI j) v = some (mH b x (mPut s 22 j v)) := mSt (k := 22) (by decide) (fun _ => rfl) (fun s g => i28 (fun _ => rfl) (fun _ => rfl) (fun _ => rfl) (fun _ => rfl) (fun _ => rfl) (fun _ => rfl) (fun _ => rfl) (fun _ => rfl) (fun _ => rfl) (fun _ => rfl) (fun _ => rfl) (fun _ => rfl) (fun _ => rfl) (fun _ => rfl) (fun _ => rfl) (fun h => absurd rfl h) (fun _ => rfl) (fun _ => rfl) (fun _ => rfl) (fun _ => rfl) (fun _ => rfl) (fun _ => rfl) (fun _ => rfl) (fun _ => rfl) (fun _ => rfl) (fun _ => rfl) (fun _ => rfl) (fun _ => rfl)) (by decide) hj
theorem ml23 (hj : j < 66) : iLdI (mH b x s) (x + 16) (nI j) = some (s.2.1 23 j) := mLd (k := 23) (by decide) (fun _ => rfl) (by decide) hj
theorem ms23 (hj : j < 66) : iStI (mH b x s) (x + 16) (nI j) v = some (mH b x (mPut s 23 j v)) := mSt (k := 23) (by decide) (fun _ => rfl) (fun s g => i28 (fun _ => rfl) (fun _ => rfl) (fun _ => rfl) (fun _ => rfl) (fun _ => rfl) (fun _ => rfl) (fun _ => rfl) (fun _ => rfl) (fun _ => rfl) (fun _ => rfl) (fun _ => rfl) (fun _ => rfl) (fun _ => rfl) (fun _ => rfl) (fun _ => rfl) (fun _ => rfl) (fun h => absurd rfl h) (fun _ => rfl) (fun _ => rfl) (fun _ => rfl) (fun _ => rfl) (fun _ => rfl) (fun _ => rfl) (fun _ => rfl) (fun _ => rfl) (fun _ => rfl) (fun _ => rfl) (fun _ => rfl)) (by decide) hj
theorem ml24 (hj : j < 66) : iLdI (mH b x s) (x + 17) (nI j) = some (s.2.1 24 j) := mLd (k := 24) (by decide) (fun _ => rfl) (by decide) hj
theorem ms24 (hj : j < 66) : iStI (mH b x s) (x + 17) (nI j) v = some (mH b x (mPut s 24 j v)) := mSt (k := 24) (by decide) (fun _ => rfl) (fun s g => i28 (fun _ => rfl) (fun _ => rfl) (fun _ => rfl) (fun _ => rfl) (fun _ => rfl) (fun _ => rfl) (fun _ => rfl) (fun _ => rfl) (fun _ => rfl) (fun _ => rfl) (fun _ => rfl) (fun _ => rfl) (fun _ => rfl) (fun _ => rfl) (fun _ => rfl) (fun _ => rfl) (fun _ => rfl) (fun h => absurd rfl h) (fun _ => rfl) (fun _ => rfl) (fun _ => rfl) (fun _ => rfl) (fun _ => rfl) (fun _ => rfl) (fun _ => rfl) (fun _ => rfl) (fun _ => rfl) (fun _ => rfl)) (by decide) hj
theorem ml26 (hj : j < 1400) : iLdI (mH b x s) (x + 18) (nI j) = some (s.2.1 26 j) := mLd (k := 26) (by decide) (fun _ => rfl) (by decide) hj
theorem ms26 (hj : j < 1400) : iStI (mH b x s) (x + 18) (nI j) v = some (mH b x (mPut s 26 j v)) := mSt (k := 26) (by decide) (fun _ => rfl) (fun s g => i28 (fun _ => rfl) (fun _ => rfl) (fun _ => rfl) (fun _ => rfl) (fun _ => rfl) (fun _ => rfl) (fun _ => rfl) (fun _ => rfl) (fun _ => rfl) (fun _ => rfl) (fun _ => rfl) (fun _ => rfl) (fun _ => rfl) (fun _ => rfl) (fun _ => rfl) (fun _ => rfl) (fun _ => rfl) (fun _ => rfl) (fun h => absurd rfl h) (fun _ => rfl) (fun _ => rfl) (fun _ => rfl) (fun _ => rfl) (fun _ => rfl) (fun _ => rfl) (fun _ => rfl) (fun _ => rfl) (fun _ => rfl)) (by decide) hj
theorem ml28 (hj : j < 240) : iLdI (mH b x s) (x + 19) (nI j) = some (s.2.1 28 j) := mLd (k := 28) (by decide) (fun _ => rfl) (by decide) hj
theorem ms28 (hj : j < 240) : iStI (mH b x s) (x + 19) (nI j) v = some (mH b x (mPut s 28 j v)) := mSt (k := 28) (by decide) (fun _ => rfl) (fun s g => i28 (fun _ => rfl) (fun _ => rfl) (fun _ => rfl) (fun _ => rfl) (fun _ => rfl) (fun _ => rfl) (fun _ => rfl) (fun _ => rfl) (fun _ => rfl) (fun _ => rfl) (fun _ => rfl) (fun _ => rfl) (fun _ => rfl) (fun _ => rfl) (fun _ => rfl) (fun _ => rfl) (fun _ => rfl) (fun _ => rfl) (fun _ => rfl) (fun h => absurd rfl h) (fun _ => rfl) (fun _ => rfl) (fun _ => rfl) (fun _ => rfl) (fun _ => rfl) (fun _ => rfl) (fun _ => rfl) (fun _ => rfl)) (by decide) hj
theorem ml29 (hj : j < 66) : iLdI (mH b x s) (x + 20) (nI j) = some (s.2.1 29 j) := mLd (k := 29) (by decide) (fun _ => rfl) (by decide) hj
theorem ms29 (hj : j < 66) : iStI (mH b x s) (x + 20) (nI j) v = some (mH b x (mPut s 29 j v)) := mSt (k := 29) (by decide) (fun _ => rfl) (fun s g => i28 (fun _ => rfl) (fun _ => rfl) (fun _ => rfl) (fun _ => rfl) (fun _ => rfl) (fun _ => rfl) (fun _ => rfl) (fun _ => rfl) (fun _ => rfl) (fun _ => rfl) (fun _ => rfl) (fun _ => rfl) (fun _ => rfl) (fun _ => rfl) (fun _ => rfl) (fun _ => rfl) (fun _ => rfl) (fun _ => rfl) (fun _ => rfl) (fun _ => rfl) (fun h => absurd rfl h) (fun _ => rfl) (fun _ => rfl) (fun _ => rfl) (fun _ => rfl) (fun _ => rfl) (fun _ => rfl) (fun _ => rfl)) (by decide) hj
theorem ml32 (hj : j < 16) : iLdI (mH b x s) (x + 21) (nI j) = some (s.2.1 32 j) := mLd (k := 32) (by decide) (fun _ => rfl) (by decide) hj
theorem ms32 (hj : j < 16) : iStI (mH b x s) (x + 21) (nI j) v = some (mH b x (mPut s 32 j v)) := mSt (k := 32) (by decide) (fun _ => rfl) (fun s g => i28 (fun _ => rfl) (fun _ => rfl) (fun _ => rfl) (fun _ => rfl) (fun _ => rfl) (fun _ => rfl) (fun _ => rfl) (fun _ => rfl) (fun _ => rfl) (fun _ => rfl) (fun _ => rfl) (fun _ => rfl) (fun _ => rfl) (fun _ => rfl) (fun _ => rfl) (fun _ => rfl) (fun _ => rfl) (fun _ => rfl) (fun _ => rfl) (fun _ => rfl) (fun _ => rfl) (fun h => absurd rfl h) (fun _ => rfl) (fun _ => rfl) (fun _ => rfl) (fun _ => rfl) (fun _ => rfl) (fun _ => rfl)) (by decide) hj
theorem ml33 (hj : j < 1024) : iLdI (mH b x s) (x + 22) (nI j) = some (s.2.1 33 j) := mLd (k := 33) (by decide) (fun _ => rfl) (by decide) hj
theorem ms33 (hj : j < 1024) : iStI (mH b x s) (x + 22) (nI j) v = some (mH b x (mPut s 33 j v)) := mSt (k := 33) (by decide) (fun _ => rfl) (fun s g => i28 (fun _ => rfl) (fun _ => rfl) (fun _ => rfl) (fun _ => rfl) (fun _ => rfl) (fun _ => rfl) (fun _ => rfl) (fun _ => rfl) (fun _ => rfl) (fun _ => rfl) (fun _ => rfl) (fun _ => rfl) (fun _ => rfl) (fun _ => rfl) (fun _ => rfl) (fun _ => rfl) (fun _ => rfl) (fun _ => rfl) (fun _ => rfl) (fun _ => rfl) (fun _ => rfl) (fun _ => rfl) (fun h => absurd rfl h) (fun _ => rfl) (fun _ => rfl) (fun _ => rfl) (fun _ => rfl) (fun _ => rfl)) (by decide) hj
theorem ml34 (hj : j < 1024) : iLdI (mH b x s) (x + 23) (nI j) = some (s.2.1 34 j) := mLd (k := 34) (by decide) (fun _ => rfl) (by decide) hj
theorem ms34 (hj : j < 1024) : iStI (mH b x s) (x + 23) (nI j) v = some (mH b x (mPut s 34 j v)) := mSt (k := 34) (by decide) (fun _ => rfl) (fun s g => i28 (fun _ => rfl) (fun _ => rfl) (fun _ => rfl) (fun _ => rfl) (fun _ => rfl) (fun _ => rfl) (fun _ => rfl) (fun _ => rfl) (fun _ => rfl) (fun _ => rfl) (fun _ => rfl) (fun _ => rfl) (fun _ => rfl) (fun _ => rfl) (fun _ => rfl) (fun _ => rfl) (fun _ => rfl) (fun _ => rfl) (fun _ => rfl) (fun _ => rfl) (fun _ => rfl) (fun _ => rfl) (fun _ => rfl) (fun h => absurd rfl h) (fun _ => rfl) (fun _ => rfl) (fun _ => rfl) (fun _ => rfl)) (by decide) hj
theorem ml35 (hj : j < 1024) : iLdI (mH b x s) (x + 24) (nI j) = some (s.2.1 35 j) := mLd (k := 35) (by decide) (fun _ => rfl) (by decide) hj
theorem ms35 (hj : j < 1024) : iStI (mH b x s) (x + 24) (nI j) v = some (mH b x (mPut s 35 j v)) := mSt (k := 35) (by decide) (fun _ => rfl) (fun s g => i28 (fun _ => rfl) (fun _ => rfl) (fun _ => rfl) (fun _ => rfl) (fun _ => rfl) (fun _ => rfl) (fun _ => rfl) (fun _ => rfl) (fun _ => rfl) (fun _ => rfl) (fun _ => rfl) (fun _ => rfl) (fun _ => rfl) (fun _ => rfl) (fun _ => rfl) (fun _ => rfl) (fun _ => rfl) (fun _ => rfl) (fun _ => rfl) (fun _ => rfl) (fun _ => rfl) (fun _ => rfl) (fun _ => rfl) (fun _ => rfl) (fun h => absurd rfl h) (fun _ => rfl) (fun _ => rfl) (fun _ => rfl)) (by decide) hj
theorem ml37 (hj : j < 80) : iLdI (mH b x s) (x + 25) (nI j) = some (s.2.1 37 j) := mLd (k := 37) (by decide) (fun _ => rfl) (by decide) hj
theorem ms37 (hj : j < 80) : iStI (mH b x s) (x + 25) (nI j) v = some (mH b x (mPut s 37 j v)) := mSt (k := 37) (by decide) (fun _ => rfl) (fun s g => i28 (fun _ => rfl) (fun _ => rfl) (fun _ => rfl) (fun _ => rfl) (fun _ => rfl) (fun _ => rfl) (fun _ => rfl) (fun _ => rfl) (fun _ => rfl) (fun _ => rfl) (fun _ => rfl) (fun _ => rfl) (fun _ => rfl) (fun _ => rfl) (fun _ => rfl) (fun _ => rfl) (fun _ => rfl) (fun _ => rfl) (fun _ => rfl) (fun _ => rfl) (fun _ => rfl) (fun _ => rfl) (fun _ => rfl) (fun _ => rfl) (fun _ => rfl) (fun h => absurd rfl h) (fun _ => rfl) (fun _ => rfl)) (by decide) hj
theorem ml38 (hj : j < 13440) : iLdI (mH b x s) (x + 26) (nI j) = some (s.2.1 38 j) := mLd (k := 38) (by decide) (fun _ => rfl) (by decide) hj
theorem ms38 (hj : j < 13440) : iStI (mH b x s) (x + 26) (nI j) v = some (mH b x (mPut s 38 j v)) := mSt (k := 38) (by decide) (fun _ => rfl) (fun s g => i28 (fun _ => rfl) (fun _ => rfl) (fun _ => rfl) (fun _ => rfl) (fun _ => rfl) (fun _ => rfl) (fun _ => rfl) (fun _ => rfl) (fun _ => rfl) (fun _ => rfl) (fun _ => rfl) (fun _ => rfl) (fun _ => rfl) (fun _ => rfl) (fun _ => rfl) (fun _ => rfl) (fun _ => rfl) (fun _ => rfl) (fun _ => rfl) (fun _ => rfl) (fun _ => rfl) (fun _ => rfl) (fun _ => rfl) (fun _ => rfl) (fun _ => rfl) (fun _ => rfl) (fun h => absurd rfl h) (fun _ => rfl)) (by decide) hj
theorem ml39 (hj : j < 3840) : iLdI (mH b x s) (x + 27) (nI j) = some (s.2.1 39 j) := mLd (k := 39) (by decide) (fun _ => rfl) (by decide) hj
theorem ms39 (hj : j < 3840) : iStI (mH b x s) (x + 27) (nI j) v = some (mH b x (mPut s 39 j v)) := mSt (k := 39) (by decide) (fun _ => rfl) (fun s g => i28 (fun _ => rfl) (fun _ => rfl) (fun _ => rfl) (fun _ => rfl) (fun _ => rfl) (fun _ => rfl) (fun _ => rfl) (fun _ => rfl) (fun _ => rfl) (fun _ => rfl) (fun _ => rfl) (fun _ => rfl) (fun _ => rfl) (fun _ => rfl) (fun _ => rfl) (fun _ => rfl) (fun _ => rfl) (fun _ => rfl) (fun _ => rfl) (fun _ => rfl) (fun _ => rfl) (fun _ => rfl) (fun _ => rfl) (fun _ => rfl) (fun _ => rfl) (fun _ => rfl) (fun _ => rfl) (fun h => absurd rfl h)) (by decide) hj
theorem ml13 (hj : j < 1280) : iLdL (mH b x s) (x + 10) (nI j) = some (s.2.2 j) := by
  unfold iLdL
  rw [mH_at (p := 10) (by decide), show mCell x s 10 = .inl (1, 1280, .inr (.inl s.2.2)) from rfl]
  dsimp only
  rw [if_pos ⟨rfl, nI_in hj (by decide)⟩, nI_clamp (by omega)]
theorem ms13 (hj : j < 1280) : iStL (mH b x s) (x + 10) (nI j) u = some (mH b x (mPutL s j u)) := by
  unfold iStL
  rw [mH_at (p := 10) (by decide), show mCell x s 10 = .inl (1, 1280, .inr (.inl s.2.2)) from rfl]
  dsimp only
  rw [if_pos ⟨rfl, nI_in hj (by decide)⟩, nI_clamp (by omega)]
  exact congrArg some (mH_set (p := 10) (by decide) rfl (i28 (fun _ => rfl) (fun _ => rfl) (fun _ => rfl) (fun _ => rfl) (fun _ => rfl) (fun _ => rfl) (fun _ => rfl) (fun _ => rfl) (fun _ => rfl) (fun _ => rfl) (fun h => absurd rfl h) (fun _ => rfl) (fun _ => rfl) (fun _ => rfl) (fun _ => rfl) (fun _ => rfl) (fun _ => rfl) (fun _ => rfl) (fun _ => rfl) (fun _ => rfl) (fun _ => rfl) (fun _ => rfl) (fun _ => rfl) (fun _ => rfl) (fun _ => rfl) (fun _ => rfl) (fun _ => rfl) (fun _ => rfl)))
end MH

/-! A PURE MACHINE over the same instructions: a heap is a function (cells), the next free address, the slots made so far. iExec runs a method of this claim; part 12 shows that the real machine does the same. -/
abbrev iPC : Type := (Nat × vp_A) ⊕ (Nat × List Value)
abbrev iHp : Type := (Nat → Option iPC) × Nat × Nat
abbrev iRes : Type := Option (Option Value × iHp)
/-- a local that isn't known -/
abbrev iU : Value := .float 0
def iSet (h : iHp) (a : Nat) (c : iPC) : iHp := (fun q => if q = a then some c else h.1 q, h.2)
def iNew (h : iHp) (c : iPC) (n : Nat) : iHp := (fun q => if q = h.2.1 then some c else h.1 q, h.2.1 + 1, h.2.2 + n)
def iFit (ty : FieldType) (v : Value) : Bool := match ty, v with
  | .int, .int _ => true
  | .long, .long _ => true
  | .boolean, .int x => x == 0 || x == 1
  | .object _, .ref _ => true
  | .object _, .null => true
  | .array _, .ref _ => true
  | .array _, .null => true
  | _, _ => false
def iGet (h : iHp) (a ci k : Nat) : Option Value := match h.1 a with
  | some (.inr (c, fs)) => if c = ci then fs[k]? else none
  | _ => none
def iPut (h : iHp) (a ci k : Nat) (v : Value) : Option iHp := match h.1 a with
  | some (.inr (c, fs)) => if c = ci ∧ k < fs.length then some (iSet h a (.inr (c, fs.set k v))) else none
  | _ => none
/-- an object of a class stands there -/
def iObj (h : iHp) (a ci : Nat) : Bool := match h.1 a with
  | some (.inr (c, _)) => c == ci
  | _ => false
/-- kinds of arrays: 0 int, 1 long, 2 boolean, 7 the script, 10 + class -/
def iLdI (h : iHp) (a : Nat) (i : Int32) : Option Int32 := match h.1 a with
  | some (.inl (k, n, .inl f)) => if (k = 0 ∨ k = 7) ∧ ¬ (i < 0 ∨ n ≤ i.toNatClampNeg) then some (f i.toNatClampNeg) else none
  | _ => none
def iStI (h : iHp) (a : Nat) (i x : Int32) : Option iHp := match h.1 a with
  | some (.inl (k, n, .inl f)) => if k = 0 ∧ ¬ (i < 0 ∨ n ≤ i.toNatClampNeg) then some (iSet h a (.inl (k, n, .inl (upd f i.toNatClampNeg x)))) else none
  | _ => none
def iLdB (h : iHp) (a : Nat) (i : Int32) : Option Int32 := match h.1 a with
  | some (.inl (k, n, .inl f)) => if k = 2 ∧ ¬ (i < 0 ∨ n ≤ i.toNatClampNeg) then some (f i.toNatClampNeg) else none
  | _ => none
def iStB (h : iHp) (a : Nat) (i x : Int32) : Option iHp := match h.1 a with
  | some (.inl (k, n, .inl f)) => if k = 2 ∧ ¬ (i < 0 ∨ n ≤ i.toNatClampNeg) then some (iSet h a (.inl (k, n, .inl (upd f i.toNatClampNeg (vp_nar .boolean x))))) else none
  | _ => none
def iLdL (h : iHp) (a : Nat) (i : Int32) : Option Int64 := match h.1 a with
  | some (.inl (k, n, .inr (.inl f))) => if k = 1 ∧ ¬ (i < 0 ∨ n ≤ i.toNatClampNeg) then some (f i.toNatClampNeg) else none
  | _ => none
def iStL (h : iHp) (a : Nat) (i : Int32) (x : Int64) : Option iHp := match h.1 a with
  | some (.inl (k, n, .inr (.inl f))) => if k = 1 ∧ ¬ (i < 0 ∨ n ≤ i.toNatClampNeg) then some (iSet h a (.inl (k, n, .inr (.inl (vp_updL f i.toNatClampNeg x))))) else none
  | _ => none
def iRK (k : Nat) : Bool := k == 12 || k == 13 || k == 15 || k == 17
def iLdQ (h : iHp) (a : Nat) (i : Int32) : Option (Option Nat) := match h.1 a with
  | some (.inl (k, n, .inr (.inr (.inr (.inr f))))) => if iRK k = true ∧ ¬ (i < 0 ∨ n ≤ i.toNatClampNeg) then some (f i.toNatClampNeg) else none
  | _ => none
def iObjO (h : iHp) (v : Option Nat) (ci : Nat) : Bool := match v with
  | none => true
  | some b => iObj h b ci
def iStQ (h : iHp) (a : Nat) (i : Int32) (v : Option Nat) : Option iHp := match h.1 a with
  | some (.inl (k, n, .inr (.inr (.inr (.inr f))))) => if iRK k = true ∧ ¬ (i < 0 ∨ n ≤ i.toNatClampNeg) ∧ iObjO h v (k - 10) = true then some (iSet h a (.inl (k, n, .inr (.inr (.inr (.inr (va_up f i.toNatClampNeg v))))))) else none
  | _ => none
def iLen (h : iHp) (a : Nat) : Option Int32 := match h.1 a with
  | some (.inl (k, n, _)) => if k = 7 ∨ k = 0 ∨ k = 1 ∨ k = 2 ∨ iRK k = true then some (Int32.ofNat n) else none
  | _ => none
def iDef (ty : FieldType) : Value := defaultValue ty
def iDefs (ci : Nat) : List Value := (List.range (iN ci)).map (fun k => defaultValue (iTy ci k))
def iNewO (h : iHp) (ci : Nat) : iHp := iNew h (.inr (ci, iDefs ci)) (iN ci)
def iNewA (h : iHp) (at_ : ArrayType) (n : Int32) : Option iHp := if ¬ n < 0 ∧ n.toNatClampNeg ≤ 60000000 then (match at_ with
  | .int => some (iNew h (.inl (0, n.toNatClampNeg, .inl (fun _ => 0))) n.toNatClampNeg)
  | .long => some (iNew h (.inl (1, n.toNatClampNeg, .inr (.inl (fun _ => 0)))) n.toNatClampNeg)
  | .boolean => some (iNew h (.inl (2, n.toNatClampNeg, .inl (fun _ => 0))) n.toNatClampNeg)
  | _ => none) else none
def iNewQ (h : iHp) (ci : Nat) (n : Int32) : Option iHp := if ¬ n < 0 ∧ n.toNatClampNeg ≤ 60000000 ∧ iRK (10 + ci) = true then some (iNew h (.inl (10 + ci, n.toNatClampNeg, .inr (.inr (.inr (.inr (fun _ => none)))))) n.toNatClampNeg) else none
def iCpy (h : iHp) (src : Nat) (sp : Int32) (dst : Nat) (dp n : Int32) : Option iHp := match h.1 src, h.1 dst with
  | some (.inl (k0, n0, .inl f)), some (.inl (k1, n1, .inl g)) => if k0 = 0 ∧ k1 = 0 ∧ ¬ sp < 0 ∧ ¬ dp < 0 ∧ ¬ n < 0 ∧ sp.toNatClampNeg + n.toNatClampNeg ≤ n0 ∧ dp.toNatClampNeg + n.toNatClampNeg ≤ n1 then some (iSet h dst (.inl (k1, n1, .inl (va_cpy f g sp.toNatClampNeg dp.toNatClampNeg n.toNatClampNeg)))) else none
  | some (.inl (k0, n0, .inr (.inl f))), some (.inl (k1, n1, .inr (.inl g))) => if k0 = 1 ∧ k1 = 1 ∧ ¬ sp < 0 ∧ ¬ dp < 0 ∧ ¬ n < 0 ∧ sp.toNatClampNeg + n.toNatClampNeg ≤ n0 ∧ dp.toNatClampNeg + n.toNatClampNeg ≤ n1 then some (iSet h dst (.inl (k1, n1, .inr (.inl (va_cpy f g sp.toNatClampNeg dp.toNatClampNeg n.toNatClampNeg))))) else none
  | _, _ => none
-- locals
def iClr (v : Value) : Value := match v with
  | .long _ => iU
  | w => w
/-- storing a value of one slot: a long ahead of it is no more -/
def iStore : List Value → Nat → Value → List Value
  | [], _, _ => []
  | _ :: l, 0, v => v :: l
  | [a], _ + 1, _ => [a]
  | a :: _ :: l, 1, v => iClr a :: v :: l
  | a :: b :: l, k + 2, v => a :: iStore (b :: l) (k + 1) v
def iStore2 (l : List Value) (k : Nat) (v : Value) : List Value := iStore (iStore l k v) (k + 1) iU |>.set k v
def iInit (n : Nat) (args : List Value) : List Value := (args.flatMap (fun v => if v.category = 2 then [v, iU] else [v])) ++ List.replicate (n - (args.flatMap (fun v => if v.category = 2 then [v, iU] else [v])).length) iU
-- depth of calls
def iRank (M : iM) (args : List Value) : Nat := M.2.2.2.2.2.1 + (if M.2.2.2.2.2.2 = true then (match args with
  | _ :: .int x :: _ => 45 - x.toNatClampNeg
  | _ => 0) else 0)
def iFind {α : Type} (l : List (Nat × α)) (i : Nat) : Option α := match l with
  | [] => none
  | e :: l => if e.1 = i then some e.2 else iFind l i
def iSum (st : List Value) : Nat := (st.map fun v => v.category).sum
def iTgt (pc : Nat) (off : Int) : Option Nat := if 0 ≤ (pc : Int) + off then some ((pc : Int) + off).toNat else none
def iInt (st : List Value) : Option (Int32 × List Value) := match st with
  | .int x :: r => some (x, r)
  | _ => none
def iCmp (c : Jvm.ClassFile.Cond) (x y : Int32) : Bool := match c with
  | .eq => decide (x = y)
  | .ne => !decide (x = y)
  | .lt => decide (x < y)
  | .ge => decide (y ≤ x)
  | .gt => decide (y < x)
  | .le => decide (x ≤ y)
section
variable (k : Nat → List Value → List Value → iHp → iRes) (cal : iM → List Value → iHp → iRes) (M : iM) (d pc : Nat) (L st : List Value) (h : iHp)
def iJump (off : Int) (st' : List Value) : iRes := match iTgt pc off with
  | some t => k t L st' h
  | none => none
def iIf (b : Bool) (off : Int) (st' : List Value) : iRes := match iTgt pc off with
  | some t => if b = true then k t L st' h else k (pc + 3) L st' h
  | none => none
def iCall (e : iM × Nat × Nat) (args rest : List Value) : iRes := if iRank e.1 args < d ∧ iSum rest ≤ 8 ∧ (iInit e.1.2.2.1 args).length = e.1.2.2.1 then (match cal e.1 args h with
  | some (r, h') => k (pc + 3) L (r.toList ++ rest) h'
  | none => none) else none
def iInvV (idx : Nat) : iRes := match iFind (iK M.2.2.2.2.1) idx with
  | some (M', 0, n) => (match st.drop n with
    | .ref b :: rest => if n ≤ st.length ∧ iObj h b M'.2.2.2.2.1 = true then iCall k cal d pc L h (M', 0, n) (.ref b :: (st.take n).reverse) rest else none
    | _ => none)
  | _ => none
def iInvS (idx : Nat) : iRes := match iFind (iK M.2.2.2.2.1) idx with
  | some (M', 1, n) => if n ≤ st.length then iCall k cal d pc L h (M', 1, n) (st.take n).reverse (st.drop n) else none
  | some (M', 4, n) => if n ≤ st.length then iCall k cal d pc L h (M', 4, n) (st.take n).reverse (st.drop n) else none
  | some _ => none
  | none => if idx = 0 then none else if idx = iP M.2.2.2.2.1 then (match st with
      | .int n :: .int dp :: .ref a :: .int sp :: .ref a0 :: rest => if iSum rest ≤ 8 then (match iCpy h a0 sp a dp n with
        | some h' => k (pc + 3) L rest h'
        | none => none) else none
      | _ => none)
    else if idx = iX M.2.2.2.2.1 then (match st with
      | .int y :: .int x :: rest => if iSum rest ≤ 8 then k (pc + 3) L (.int (if x < y then y else x) :: rest) h else none
      | _ => none)
    else if idx = iI M.2.2.2.2.1 then (match st with
      | .int y :: .int x :: rest => if iSum rest ≤ 8 then k (pc + 3) L (.int (if y < x then y else x) :: rest) h else none
      | _ => none)
    else none
def iInvI (idx : Nat) : iRes := match iFind (iK M.2.2.2.2.1) idx with
  | some (M', 2, n) => (match st.drop n with
    | .ref b :: rest => if n ≤ st.length then iCall k cal d pc L h (M', 2, n) (.ref b :: (st.take n).reverse) rest else none
    | _ => none)
  | some (M', 3, n) => (match st.drop n with
    | .ref b :: rest => if n ≤ st.length then iCall k cal d pc L h (M', 3, n) (.ref b :: (st.take n).reverse) rest else none
    | _ => none)
  | some _ => none
  | none => if idx = 0 then none else if idx = iO M.2.2.2.2.1 then (match st with
      | .ref _ :: rest => if iSum rest ≤ 8 then k (pc + 3) L rest h else none
      | _ => none) else none
def iLdF (idx : Nat) : iRes := match st with
  | .ref a :: r => (match iFind (iF M.2.2.2.2.1) idx with
    | some (ci, f, _) => (match iGet h a ci f with
      | some v => k (pc + 3) L (v :: r) h
      | none => none)
    | none => none)
  | _ => none
def iStF (idx : Nat) : iRes := match st with
  | v :: .ref a :: r => (match iFind (iF M.2.2.2.2.1) idx with
    | some (ci, f, false) => if iFit (iTy ci f) v = true ∧ ((iT ci f).2.2.2 = false ∨ (M.1.name = "<init>" ∧ ci = M.2.2.2.2.1)) then (match iPut h a ci f v with
      | some h' => k (pc + 3) L r h'
      | none => none) else none
    | _ => none)
  | _ => none
def iBool (ret : Option FieldType) (x : Int32) : Bool := match ret with
  | some .int => true
  | some .boolean => x == 0 || x == 1
  | _ => false
def iPush (v : Value) (len : Nat) : iRes := k (pc + len) L (v :: st) h
def iConst32 (o idx : Nat) : Option Int32 := if (o = 6 ∧ idx = 47) ∨ (o = 9 ∧ idx = 288) then some 1103515245 else none
def iConst64 (o idx : Nat) : Option Int64 := if o = 10 ∧ idx = 18 then some 4294967295 else none
def iStp (i : Instr) : iRes := match i with
  | .iload_n n => (match L[n.val]? with
    | some (.int x) => k (pc + 1) L (.int x :: st) h
    | _ => none)
  | .iload n => (match L[n]? with
    | some (.int x) => k (pc + 2) L (.int x :: st) h
    | _ => none)
  | .lload_n n => (match L[n.val]? with
    | some (.long x) => k (pc + 1) L (.long x :: st) h
    | _ => none)
  | .lload n => (match L[n]? with
    | some (.long x) => k (pc + 2) L (.long x :: st) h
    | _ => none)
  | .aload_n n => (match L[n.val]? with
    | some (.ref x) => k (pc + 1) L (.ref x :: st) h
    | some .null => k (pc + 1) L (.null :: st) h
    | _ => none)
  | .aload n => (match L[n]? with
    | some (.ref x) => k (pc + 2) L (.ref x :: st) h
    | some .null => k (pc + 2) L (.null :: st) h
    | _ => none)
  | .istore_n n => (match st with
    | .int x :: r => if n.val < L.length then k (pc + 1) (iStore L n.val (.int x)) r h else none
    | _ => none)
  | .istore n => (match st with
    | .int x :: r => if n < L.length then k (pc + 2) (iStore L n (.int x)) r h else none
    | _ => none)
  | .astore_n n => (match st with
    | .ref x :: r => if n.val < L.length then k (pc + 1) (iStore L n.val (.ref x)) r h else none
    | .null :: r => if n.val < L.length then k (pc + 1) (iStore L n.val .null) r h else none
    | _ => none)
  | .astore n => (match st with
    | .ref x :: r => if n < L.length then k (pc + 2) (iStore L n (.ref x)) r h else none
    | .null :: r => if n < L.length then k (pc + 2) (iStore L n .null) r h else none
    | _ => none)
  | .lstore_n n => (match st with
    | .long x :: r => if n.val + 1 < L.length then k (pc + 1) (iStore2 L n.val (.long x)) r h else none
    | _ => none)
  | .lstore n => (match st with
    | .long x :: r => if n + 1 < L.length then k (pc + 2) (iStore2 L n (.long x)) r h else none
    | _ => none)
  | .iinc n c => (match L[n]? with
    | some (.int x) => if n < L.length then k (pc + 3) (iStore L n (.int (x + Int32.ofInt c))) st h else none
    | _ => none)
  | .iconst n => iPush k pc L st h (.int (Int32.ofInt n)) 1
  | .bipush n => iPush k pc L st h (.int (Int8.ofInt n).toInt32) 2
  | .sipush n => iPush k pc L st h (.int (Int16.ofInt n).toInt32) 3
  | .lconst n => iPush k pc L st h (.long (Int64.ofNat n.val)) 1
  | .aconst_null => iPush k pc L st h .null 1
  | .ldc idx => (match iConst32 M.2.2.2.2.1 idx with
    | some v => iPush k pc L st h (.int v) 2
    | none => none)
  | .ldc_w idx => (match iConst32 M.2.2.2.2.1 idx with
    | some v => iPush k pc L st h (.int v) 3
    | none => none)
  | .ldc2_w idx => (match iConst64 M.2.2.2.2.1 idx with
    | some v => iPush k pc L st h (.long v) 3
    | none => none)
  | .iadd => (match st with
    | .int y :: .int x :: r => k (pc + 1) L (.int (x + y) :: r) h
    | _ => none)
  | .isub => (match st with
    | .int y :: .int x :: r => k (pc + 1) L (.int (x - y) :: r) h
    | _ => none)
  | .imul => (match st with
    | .int y :: .int x :: r => k (pc + 1) L (.int (x * y) :: r) h
    | _ => none)
  | .idiv => (match st with
    | .int y :: .int x :: r => if y = 0 then none else k (pc + 1) L (.int (x / y) :: r) h
    | _ => none)
  | .irem => (match st with
    | .int y :: .int x :: r => if y = 0 then none else k (pc + 1) L (.int (x - x / y * y) :: r) h
    | _ => none)
  | .ineg => (match st with
    | .int x :: r => k (pc + 1) L (.int (-x) :: r) h
    | _ => none)
  | .iand => (match st with
    | .int y :: .int x :: r => k (pc + 1) L (.int (x &&& y) :: r) h
    | _ => none)
  | .ior => (match st with
    | .int y :: .int x :: r => k (pc + 1) L (.int (x ||| y) :: r) h
    | _ => none)
  | .ishl => (match st with
    | .int y :: .int x :: r => k (pc + 1) L (.int (x <<< (y &&& 31)) :: r) h
    | _ => none)
  | .iushr => (match st with
    | .int y :: .int x :: r => k (pc + 1) L (.int (x.toUInt32 >>> (y.toUInt32 &&& Int32.toUInt32 31)).toInt32 :: r) h
    | _ => none)
  | .ladd => (match st with
    | .long y :: .long x :: r => k (pc + 1) L (.long (x + y) :: r) h
    | _ => none)
  | .land => (match st with
    | .long y :: .long x :: r => k (pc + 1) L (.long (x &&& y) :: r) h
    | _ => none)
  | .lor => (match st with
    | .long y :: .long x :: r => k (pc + 1) L (.long (x ||| y) :: r) h
    | _ => none)
  | .lshl => (match st with
    | .int y :: .long x :: r => k (pc + 1) L (.long (x <<< (y.toInt64 &&& 63)) :: r) h
    | _ => none)
  | .lshr => (match st with
    | .int y :: .long x :: r => k (pc + 1) L (.long (x >>> (y.toInt64 &&& 63)) :: r) h
    | _ => none)
  | .lcmp => (match st with
    | .long y :: .long x :: r => k (pc + 1) L (.int (lg_cmp x y) :: r) h
    | _ => none)
  | .i2l => (match st with
    | .int x :: r => k (pc + 1) L (.long x.toInt64 :: r) h
    | _ => none)
  | .l2i => (match st with
    | .long x :: r => k (pc + 1) L (.int x.toInt32 :: r) h
    | _ => none)
  | .i2b => (match st with
    | .int x :: r => k (pc + 1) L (.int x.toInt8.toInt32 :: r) h
    | _ => none)
  | .i2s => (match st with
    | .int x :: r => k (pc + 1) L (.int x.toInt16.toInt32 :: r) h
    | _ => none)
  | .dup => (match st with
    | v :: r => if v.category = 1 then k (pc + 1) L (v :: v :: r) h else none
    | _ => none)
  | .dup_x1 => (match st with
    | v :: w :: r => if v.category = 1 ∧ w.category = 1 then k (pc + 1) L (v :: w :: v :: r) h else none
    | _ => none)
  | .dup2 => (match st with
    | v :: w :: r => if v.category = 1 ∧ w.category = 1 then k (pc + 1) L (v :: w :: v :: w :: r) h else none
    | _ => none)
  | .pop => (match st with
    | v :: r => if v.category = 1 then k (pc + 1) L r h else none
    | _ => none)
  | .goto off => iJump k pc L h off st
  | .if_icmp c off => (match st with
    | .int y :: .int x :: r => iIf k pc L h (iCmp c x y) off r
    | _ => none)
  | .ifCond c off => (match st with
    | .int x :: r => iIf k pc L h (iCmp c x 0) off r
    | _ => none)
  | .ifnull off => (match st with
    | .ref _ :: r => k (pc + 3) L r h
    | .null :: r => iJump k pc L h off r
    | _ => none)
  | .ifnonnull off => (match st with
    | .ref _ :: r => iJump k pc L h off r
    | .null :: r => k (pc + 3) L r h
    | _ => none)
  | .tableswitch dflt lo hi offs => (match st with
    | .int x :: r => if x.toInt < lo ∨ hi < x.toInt then iJump k pc L h dflt r else (match offs[(x.toInt - lo).toNat]? with
      | some off => iJump k pc L h off r
      | none => none)
    | _ => none)
  | .lookupswitch dflt ps => (match st with
    | .int x :: r => if (ps.toList.zip (ps.toList.drop 1)).all (fun (a, next) => a.1 < next.1) = true then iJump k pc L h (Op.lookupswitch.offset ps.toList dflt x.toInt) r else none
    | _ => none)
  | .getfield idx => iLdF k M pc L st h idx
  | .putfield idx => iStF k M pc L st h idx
  | .iaload => (match st with
    | .int i :: .ref a :: r => (match iLdI h a i with
      | some x => k (pc + 1) L (.int x :: r) h
      | none => none)
    | _ => none)
  | .baload => (match st with
    | .int i :: .ref a :: r => (match iLdB h a i with
      | some x => k (pc + 1) L (.int x :: r) h
      | none => none)
    | _ => none)
  | .laload => (match st with
    | .int i :: .ref a :: r => (match iLdL h a i with
      | some x => k (pc + 1) L (.long x :: r) h
      | none => none)
    | _ => none)
  | .aaload => (match st with
    | .int i :: .ref a :: r => (match iLdQ h a i with
      | some x => k (pc + 1) L (va_rf x :: r) h
      | none => none)
    | _ => none)
  | .iastore => (match st with
    | .int x :: .int i :: .ref a :: r => (match iStI h a i x with
      | some h' => k (pc + 1) L r h'
      | none => none)
    | _ => none)
  | .bastore => (match st with
    | .int x :: .int i :: .ref a :: r => (match iStB h a i x with
      | some h' => k (pc + 1) L r h'
      | none => none)
    | _ => none)
  | .lastore => (match st with
    | .long x :: .int i :: .ref a :: r => (match iStL h a i x with
      | some h' => k (pc + 1) L r h'
      | none => none)
    | _ => none)
  | .aastore => (match st with
    | .ref x :: .int i :: .ref a :: r => (match iStQ h a i (some x) with
      | some h' => k (pc + 1) L r h'
      | none => none)
    | .null :: .int i :: .ref a :: r => (match iStQ h a i none with
      | some h' => k (pc + 1) L r h'
      | none => none)
    | _ => none)
  | .arraylength => (match st with
    | .ref a :: r => (match iLen h a with
      | some x => k (pc + 1) L (.int x :: r) h
      | none => none)
    | _ => none)
  | .new idx => (match iFind (iC M.2.2.2.2.1) idx with
    | some ci => k (pc + 3) L (.ref h.2.1 :: st) (iNewO h ci)
    | none => none)
  | .newarray ty => (match st with
    | .int n :: r => (match iNewA h ty n with
      | some h' => k (pc + 2) L (.ref h.2.1 :: r) h'
      | none => none)
    | _ => none)
  | .anewarray idx => (match st with
    | .int n :: r => (match iFind (iC M.2.2.2.2.1) idx with
      | some ci => (match iNewQ h ci n with
        | some h' => k (pc + 3) L (.ref h.2.1 :: r) h'
        | none => none)
      | none => none)
    | _ => none)
  | .invokevirtual idx => iInvV k cal M d pc L st h idx
  | .invokestatic idx => iInvS k cal M d pc L st h idx
  | .invokespecial idx => iInvI k cal M d pc L st h idx
  | .ireturn => (match st with
    | [.int x] => if iBool M.2.2.2.1 x = true then some (some (.int x), h) else none
    | _ => none)
  | .lreturn => (match st with
    | [.long x] => if M.2.2.2.1 = some .long then some (some (.long x), h) else none
    | _ => none)
  | .areturn => (match st, M.2.2.2.1 with
    | [.ref x], some (.object _) => some (some (.ref x), h)
    | [.null], some (.object _) => some (some .null, h)
    | [.ref x], some (.array _) => some (some (.ref x), h)
    | _, _ => none)
  | .return_ => (match st, M.2.2.2.1 with
    | [], none => some (none, h)
    | _, _ => none)
  | _ => none
end
def iLenOk (i : Instr) (len : Nat) : Bool := match i with
  | .tableswitch _ _ _ _ => true
  | .lookupswitch _ _ => true
  | .iload _ | .aload _ | .lload _ | .istore _ | .astore _ | .lstore _ | .bipush _ | .ldc _ | .newarray _ => len == 2
  | .sipush _ | .ldc_w _ | .ldc2_w _ | .getfield _ | .putfield _ | .invokevirtual _ | .invokestatic _ | .invokespecial _ | .new _ | .anewarray _ | .goto _ | .if_icmp _ _ | .ifCond _ _ | .ifnull _ | .ifnonnull _ | .iinc _ _ => len == 3
  | _ => len == 1
/-- n instructions at most, one behind the other; calls d deep at most -/
def iExec : Nat → Nat → iM → Nat → List Value → List Value → iHp → iRes
  | 0, _, _, _, _, _, _ => none
  | n + 1, d, M, pc, L, st, h => match decode M.2.1 pc with
    | .ok (i, len) => if iLenOk i len = true then iStp (iExec n d M) (fun M' args h => iExec n (iRank M' args) M' 0 (iInit M'.2.2.1 args) [] h) M d pc L st h i else none
    | _ => none

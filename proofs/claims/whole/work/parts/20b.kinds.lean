section KINDS
variable {d pc idx n b a ci f : Nat} {M M' : iM} {L L' st rest args : List Value} {h h2 : iHp} {r : Option Value} {Q : Option Value → iHp → Prop} {x y : Int32} {u v : Int64} {p q : Nat} {k : Fin 4} {c : Int} {off : Int} {t : Nat}
theorem w_iload_n (hd : decode M.2.1 pc = .ok (.iload_n k, 1)) (hL : L[k.val]? = some (.int x)) : iWp d M pc L st h Q = iWp d M (pc + 1) L (.int x :: st) h Q := iWp_k hd rfl fun K CAL => by simp only [iStp, hL]
theorem w_iload (hd : decode M.2.1 pc = .ok (.iload n, 2)) (hL : L[n]? = some (.int x)) : iWp d M pc L st h Q = iWp d M (pc + 2) L (.int x :: st) h Q := iWp_k hd rfl fun K CAL => by simp only [iStp, hL]
theorem w_lload_n (hd : decode M.2.1 pc = .ok (.lload_n k, 1)) (hL : L[k.val]? = some (.long u)) : iWp d M pc L st h Q = iWp d M (pc + 1) L (.long u :: st) h Q := iWp_k hd rfl fun K CAL => by simp only [iStp, hL]
theorem w_lload (hd : decode M.2.1 pc = .ok (.lload n, 2)) (hL : L[n]? = some (.long u)) : iWp d M pc L st h Q = iWp d M (pc + 2) L (.long u :: st) h Q := iWp_k hd rfl fun K CAL => by simp only [iStp, hL]
theorem w_aload_n (hd : decode M.2.1 pc = .ok (.aload_n k, 1)) (hL : L[k.val]? = some (.ref p)) : iWp d M pc L st h Q = iWp d M (pc + 1) L (.ref p :: st) h Q := iWp_k hd rfl fun K CAL => by simp only [iStp, hL]
theorem w_aload (hd : decode M.2.1 pc = .ok (.aload n, 2)) (hL : L[n]? = some (.ref p)) : iWp d M pc L st h Q = iWp d M (pc + 2) L (.ref p :: st) h Q := iWp_k hd rfl fun K CAL => by simp only [iStp, hL]
theorem w_aload_nN (hd : decode M.2.1 pc = .ok (.aload_n k, 1)) (hL : L[k.val]? = some (.null)) : iWp d M pc L st h Q = iWp d M (pc + 1) L (.null :: st) h Q := iWp_k hd rfl fun K CAL => by simp only [iStp, hL]
theorem w_aloadN (hd : decode M.2.1 pc = .ok (.aload n, 2)) (hL : L[n]? = some (.null)) : iWp d M pc L st h Q = iWp d M (pc + 2) L (.null :: st) h Q := iWp_k hd rfl fun K CAL => by simp only [iStp, hL]
theorem w_istore_n (hd : decode M.2.1 pc = .ok (.istore_n k, 1)) (hn : k.val < L.length) (hs : iStore L k.val (.int x) = L') : iWp d M pc L (.int x :: st) h Q = iWp d M (pc + 1) L' st h Q := iWp_k hd rfl fun K CAL => by simp only [iStp, if_pos hn, hs]
theorem w_istore (hd : decode M.2.1 pc = .ok (.istore n, 2)) (hn : n < L.length) (hs : iStore L n (.int x) = L') : iWp d M pc L (.int x :: st) h Q = iWp d M (pc + 2) L' st h Q := iWp_k hd rfl fun K CAL => by simp only [iStp, if_pos hn, hs]
theorem w_astore_n (hd : decode M.2.1 pc = .ok (.astore_n k, 1)) (hn : k.val < L.length) (hs : iStore L k.val (.ref p) = L') : iWp d M pc L (.ref p :: st) h Q = iWp d M (pc + 1) L' st h Q := iWp_k hd rfl fun K CAL => by simp only [iStp, if_pos hn, hs]
theorem w_astore (hd : decode M.2.1 pc = .ok (.astore n, 2)) (hn : n < L.length) (hs : iStore L n (.ref p) = L') : iWp d M pc L (.ref p :: st) h Q = iWp d M (pc + 2) L' st h Q := iWp_k hd rfl fun K CAL => by simp only [iStp, if_pos hn, hs]
theorem w_astore_nN (hd : decode M.2.1 pc = .ok (.astore_n k, 1)) (hn : k.val < L.length) (hs : iStore L k.val (.null) = L') : iWp d M pc L (.null :: st) h Q = iWp d M (pc + 1) L' st h Q := iWp_k hd rfl fun K CAL => by simp only [iStp, if_pos hn, hs]
theorem w_astoreN (hd : decode M.2.1 pc = .ok (.astore n, 2)) (hn : n < L.length) (hs : iStore L n (.null) = L') : iWp d M pc L (.null :: st) h Q = iWp d M (pc + 2) L' st h Q := iWp_k hd rfl fun K CAL => by simp only [iStp, if_pos hn, hs]
theorem w_lstore_n (hd : decode M.2.1 pc = .ok (.lstore_n k, 1)) (hn : k.val + 1 < L.length) (hs : iStore2 L k.val (.long u) = L') : iWp d M pc L (.long u :: st) h Q = iWp d M (pc + 1) L' st h Q := iWp_k hd rfl fun K CAL => by simp only [iStp, if_pos hn, hs]
theorem w_lstore (hd : decode M.2.1 pc = .ok (.lstore n, 2)) (hn : n + 1 < L.length) (hs : iStore2 L n (.long u) = L') : iWp d M pc L (.long u :: st) h Q = iWp d M (pc + 2) L' st h Q := iWp_k hd rfl fun K CAL => by simp only [iStp, if_pos hn, hs]
theorem w_iinc (hd : decode M.2.1 pc = .ok (.iinc n c, 3)) (hL : L[n]? = some (.int x)) (hn : n < L.length) (hs : iStore L n (.int (x + Int32.ofInt c)) = L') : iWp d M pc L st h Q = iWp d M (pc + 3) L' st h Q := iWp_k hd rfl fun K CAL => by simp only [iStp, hL, if_pos hn, hs]
theorem w_iconst (hd : decode M.2.1 pc = .ok (.iconst c, 1)) (hx : Int32.ofInt c = x) : iWp d M pc L st h Q = iWp d M (pc + 1) L (.int x :: st) h Q := iWp_k hd rfl fun K CAL => by simp only [iStp, iPush, hx]
theorem w_bipush (hd : decode M.2.1 pc = .ok (.bipush c, 2)) (hx : (Int8.ofInt c).toInt32 = x) : iWp d M pc L st h Q = iWp d M (pc + 2) L (.int x :: st) h Q := iWp_k hd rfl fun K CAL => by simp only [iStp, iPush, hx]
theorem w_sipush (hd : decode M.2.1 pc = .ok (.sipush c, 3)) (hx : (Int16.ofInt c).toInt32 = x) : iWp d M pc L st h Q = iWp d M (pc + 3) L (.int x :: st) h Q := iWp_k hd rfl fun K CAL => by simp only [iStp, iPush, hx]
theorem w_lconst {k : Fin 2} (hd : decode M.2.1 pc = .ok (.lconst k, 1)) (hx : Int64.ofNat k.val = u) : iWp d M pc L st h Q = iWp d M (pc + 1) L (.long u :: st) h Q := iWp_k hd rfl fun K CAL => by simp only [iStp, iPush, hx]
theorem w_null (hd : decode M.2.1 pc = .ok (.aconst_null, 1)) : iWp d M pc L st h Q = iWp d M (pc + 1) L (.null :: st) h Q := iWp_k hd rfl fun K CAL => by simp only [iStp, iPush]
theorem w_ldc (hd : decode M.2.1 pc = .ok (.ldc idx, 2)) (hx : iConst32 M.2.2.2.2.1 idx = some x) : iWp d M pc L st h Q = iWp d M (pc + 2) L (.int x :: st) h Q := iWp_k hd rfl fun K CAL => by simp only [iStp, iPush, hx]
theorem w_ldc_w (hd : decode M.2.1 pc = .ok (.ldc_w idx, 3)) (hx : iConst32 M.2.2.2.2.1 idx = some x) : iWp d M pc L st h Q = iWp d M (pc + 3) L (.int x :: st) h Q := iWp_k hd rfl fun K CAL => by simp only [iStp, iPush, hx]
theorem w_ldc2_w (hd : decode M.2.1 pc = .ok (.ldc2_w idx, 3)) (hx : iConst64 M.2.2.2.2.1 idx = some u) : iWp d M pc L st h Q = iWp d M (pc + 3) L (.long u :: st) h Q := iWp_k hd rfl fun K CAL => by simp only [iStp, iPush, hx]
theorem w_iadd (hd : decode M.2.1 pc = .ok (.iadd, 1)) : iWp d M pc L (.int y :: .int x :: st) h Q = iWp d M (pc + 1) L (.int (x + y) :: st) h Q := iWp_k hd rfl fun K CAL => by simp only [iStp]
theorem w_isub (hd : decode M.2.1 pc = .ok (.isub, 1)) : iWp d M pc L (.int y :: .int x :: st) h Q = iWp d M (pc + 1) L (.int (x - y) :: st) h Q := iWp_k hd rfl fun K CAL => by simp only [iStp]
theorem w_imul (hd : decode M.2.1 pc = .ok (.imul, 1)) : iWp d M pc L (.int y :: .int x :: st) h Q = iWp d M (pc + 1) L (.int (x * y) :: st) h Q := iWp_k hd rfl fun K CAL => by simp only [iStp]
theorem w_iand (hd : decode M.2.1 pc = .ok (.iand, 1)) : iWp d M pc L (.int y :: .int x :: st) h Q = iWp d M (pc + 1) L (.int (x &&& y) :: st) h Q := iWp_k hd rfl fun K CAL => by simp only [iStp]
theorem w_ior (hd : decode M.2.1 pc = .ok (.ior, 1)) : iWp d M pc L (.int y :: .int x :: st) h Q = iWp d M (pc + 1) L (.int (x ||| y) :: st) h Q := iWp_k hd rfl fun K CAL => by simp only [iStp]
theorem w_ishl (hd : decode M.2.1 pc = .ok (.ishl, 1)) : iWp d M pc L (.int y :: .int x :: st) h Q = iWp d M (pc + 1) L (.int (x <<< (y &&& 31)) :: st) h Q := iWp_k hd rfl fun K CAL => by simp only [iStp]
theorem w_iushr (hd : decode M.2.1 pc = .ok (.iushr, 1)) : iWp d M pc L (.int y :: .int x :: st) h Q = iWp d M (pc + 1) L (.int ((x.toUInt32 >>> (y.toUInt32 &&& Int32.toUInt32 31)).toInt32) :: st) h Q := iWp_k hd rfl fun K CAL => by simp only [iStp]
theorem w_idiv (hd : decode M.2.1 pc = .ok (.idiv, 1)) (hz : ¬ y = 0) : iWp d M pc L (.int y :: .int x :: st) h Q = iWp d M (pc + 1) L (.int (x / y) :: st) h Q := iWp_k hd rfl fun K CAL => by simp only [iStp, if_neg hz]
theorem w_irem (hd : decode M.2.1 pc = .ok (.irem, 1)) (hz : ¬ y = 0) : iWp d M pc L (.int y :: .int x :: st) h Q = iWp d M (pc + 1) L (.int (x - x / y * y) :: st) h Q := iWp_k hd rfl fun K CAL => by simp only [iStp, if_neg hz]
theorem w_ladd (hd : decode M.2.1 pc = .ok (.ladd, 1)) : iWp d M pc L (.long v :: .long u :: st) h Q = iWp d M (pc + 1) L (.long (u + v) :: st) h Q := iWp_k hd rfl fun K CAL => by simp only [iStp]
theorem w_land (hd : decode M.2.1 pc = .ok (.land, 1)) : iWp d M pc L (.long v :: .long u :: st) h Q = iWp d M (pc + 1) L (.long (u &&& v) :: st) h Q := iWp_k hd rfl fun K CAL => by simp only [iStp]
theorem w_lor (hd : decode M.2.1 pc = .ok (.lor, 1)) : iWp d M pc L (.long v :: .long u :: st) h Q = iWp d M (pc + 1) L (.long (u ||| v) :: st) h Q := iWp_k hd rfl fun K CAL => by simp only [iStp]
theorem w_lshl (hd : decode M.2.1 pc = .ok (.lshl, 1)) : iWp d M pc L (.int y :: .long u :: st) h Q = iWp d M (pc + 1) L (.long (u <<< (y.toInt64 &&& 63)) :: st) h Q := iWp_k hd rfl fun K CAL => by simp only [iStp]
theorem w_lshr (hd : decode M.2.1 pc = .ok (.lshr, 1)) : iWp d M pc L (.int y :: .long u :: st) h Q = iWp d M (pc + 1) L (.long (u >>> (y.toInt64 &&& 63)) :: st) h Q := iWp_k hd rfl fun K CAL => by simp only [iStp]
theorem w_lcmp (hd : decode M.2.1 pc = .ok (.lcmp, 1)) : iWp d M pc L (.long v :: .long u :: st) h Q = iWp d M (pc + 1) L (.int (lg_cmp u v) :: st) h Q := iWp_k hd rfl fun K CAL => by simp only [iStp]
theorem w_ineg (hd : decode M.2.1 pc = .ok (.ineg, 1)) : iWp d M pc L (.int x :: st) h Q = iWp d M (pc + 1) L (.int (-x) :: st) h Q := iWp_k hd rfl fun K CAL => by simp only [iStp]
theorem w_i2l (hd : decode M.2.1 pc = .ok (.i2l, 1)) : iWp d M pc L (.int x :: st) h Q = iWp d M (pc + 1) L (.long x.toInt64 :: st) h Q := iWp_k hd rfl fun K CAL => by simp only [iStp]
theorem w_i2b (hd : decode M.2.1 pc = .ok (.i2b, 1)) : iWp d M pc L (.int x :: st) h Q = iWp d M (pc + 1) L (.int x.toInt8.toInt32 :: st) h Q := iWp_k hd rfl fun K CAL => by simp only [iStp]
theorem w_i2s (hd : decode M.2.1 pc = .ok (.i2s, 1)) : iWp d M pc L (.int x :: st) h Q = iWp d M (pc + 1) L (.int x.toInt16.toInt32 :: st) h Q := iWp_k hd rfl fun K CAL => by simp only [iStp]
theorem w_l2i (hd : decode M.2.1 pc = .ok (.l2i, 1)) : iWp d M pc L (.long u :: st) h Q = iWp d M (pc + 1) L (.int u.toInt32 :: st) h Q := iWp_k hd rfl fun K CAL => by simp only [iStp]
variable {va vb : Value}
theorem w_dup (hd : decode M.2.1 pc = .ok (.dup, 1)) (hc : va.category = 1) : iWp d M pc L (va :: st) h Q = iWp d M (pc + 1) L (va :: va :: st) h Q := iWp_k hd rfl fun K CAL => by simp only [iStp, if_pos hc]
theorem w_pop (hd : decode M.2.1 pc = .ok (.pop, 1)) (hc : va.category = 1) : iWp d M pc L (va :: st) h Q = iWp d M (pc + 1) L st h Q := iWp_k hd rfl fun K CAL => by simp only [iStp, if_pos hc]
theorem w_dup_x1 (hd : decode M.2.1 pc = .ok (.dup_x1, 1)) (hc : va.category = 1 ∧ vb.category = 1) : iWp d M pc L (va :: vb :: st) h Q = iWp d M (pc + 1) L (va :: vb :: va :: st) h Q := iWp_k hd rfl fun K CAL => by simp only [iStp, if_pos hc]
theorem w_dup2 (hd : decode M.2.1 pc = .ok (.dup2, 1)) (hc : va.category = 1 ∧ vb.category = 1) : iWp d M pc L (va :: vb :: st) h Q = iWp d M (pc + 1) L (va :: vb :: va :: vb :: st) h Q := iWp_k hd rfl fun K CAL => by simp only [iStp, if_pos hc]
theorem w_goto (hd : decode M.2.1 pc = .ok (.goto off, 3)) (ht : iTgt pc off = some t) : iWp d M pc L st h Q = iWp d M t L st h Q := iWp_k hd rfl fun K CAL => by simp only [iStp, iJump, ht]
theorem w_ifnull (hd : decode M.2.1 pc = .ok (.ifnull off, 3)) : iWp d M pc L (.ref p :: st) h Q = iWp d M (pc + 3) L st h Q := iWp_k hd rfl fun K CAL => by simp only [iStp]
theorem w_ifnullN (hd : decode M.2.1 pc = .ok (.ifnull off, 3)) (ht : iTgt pc off = some t) : iWp d M pc L (.null :: st) h Q = iWp d M t L st h Q := iWp_k hd rfl fun K CAL => by simp only [iStp, iJump, ht]
theorem w_ifnonnull (hd : decode M.2.1 pc = .ok (.ifnonnull off, 3)) (ht : iTgt pc off = some t) : iWp d M pc L (.ref p :: st) h Q = iWp d M t L st h Q := iWp_k hd rfl fun K CAL => by simp only [iStp, iJump, ht]
theorem w_ifnonnullN (hd : decode M.2.1 pc = .ok (.ifnonnull off, 3)) : iWp d M pc L (.null :: st) h Q = iWp d M (pc + 3) L st h Q := iWp_k hd rfl fun K CAL => by simp only [iStp]
theorem w_icmp_eq (hd : decode M.2.1 pc = .ok (.if_icmp .eq off, 3)) (ht : iTgt pc off = some t) : iWp d M pc L (.int y :: .int x :: st) h Q = if x = y then iWp d M t L st h Q else iWp d M (pc + 3) L st h Q := iWp_if hd rfl fun K CAL => by simp only [iStp, iIf, ht, iCmp]; first | rfl | congr
theorem w_icmp_ne (hd : decode M.2.1 pc = .ok (.if_icmp .ne off, 3)) (ht : iTgt pc off = some t) : iWp d M pc L (.int y :: .int x :: st) h Q = if x = y then iWp d M (pc + 3) L st h Q else iWp d M t L st h Q := iWp_ifn hd rfl fun K CAL => by simp only [iStp, iIf, ht, iCmp]; first | rfl | congr
theorem w_icmp_lt (hd : decode M.2.1 pc = .ok (.if_icmp .lt off, 3)) (ht : iTgt pc off = some t) : iWp d M pc L (.int y :: .int x :: st) h Q = if x < y then iWp d M t L st h Q else iWp d M (pc + 3) L st h Q := iWp_if hd rfl fun K CAL => by simp only [iStp, iIf, ht, iCmp]; first | rfl | congr
theorem w_icmp_ge (hd : decode M.2.1 pc = .ok (.if_icmp .ge off, 3)) (ht : iTgt pc off = some t) : iWp d M pc L (.int y :: .int x :: st) h Q = if y ≤ x then iWp d M t L st h Q else iWp d M (pc + 3) L st h Q := iWp_if hd rfl fun K CAL => by simp only [iStp, iIf, ht, iCmp]; first | rfl | congr
theorem w_icmp_gt (hd : decode M.2.1 pc = .ok (.if_icmp .gt off, 3)) (ht : iTgt pc off = some t) : iWp d M pc L (.int y :: .int x :: st) h Q = if y < x then iWp d M t L st h Q else iWp d M (pc + 3) L st h Q := iWp_if hd rfl fun K CAL => by simp only [iStp, iIf, ht, iCmp]; first | rfl | congr
theorem w_icmp_le (hd : decode M.2.1 pc = .ok (.if_icmp .le off, 3)) (ht : iTgt pc off = some t) : iWp d M pc L (.int y :: .int x :: st) h Q = if x ≤ y then iWp d M t L st h Q else iWp d M (pc + 3) L st h Q := iWp_if hd rfl fun K CAL => by simp only [iStp, iIf, ht, iCmp]; first | rfl | congr
theorem w_ifc_eq (hd : decode M.2.1 pc = .ok (.ifCond .eq off, 3)) (ht : iTgt pc off = some t) : iWp d M pc L (.int x :: st) h Q = if x = 0 then iWp d M t L st h Q else iWp d M (pc + 3) L st h Q := iWp_if hd rfl fun K CAL => by simp only [iStp, iIf, ht, iCmp]; first | rfl | congr
theorem w_ifc_ne (hd : decode M.2.1 pc = .ok (.ifCond .ne off, 3)) (ht : iTgt pc off = some t) : iWp d M pc L (.int x :: st) h Q = if x = 0 then iWp d M (pc + 3) L st h Q else iWp d M t L st h Q := iWp_ifn hd rfl fun K CAL => by simp only [iStp, iIf, ht, iCmp]; first | rfl | congr
theorem w_ifc_lt (hd : decode M.2.1 pc = .ok (.ifCond .lt off, 3)) (ht : iTgt pc off = some t) : iWp d M pc L (.int x :: st) h Q = if x < 0 then iWp d M t L st h Q else iWp d M (pc + 3) L st h Q := iWp_if hd rfl fun K CAL => by simp only [iStp, iIf, ht, iCmp]; first | rfl | congr
theorem w_ifc_ge (hd : decode M.2.1 pc = .ok (.ifCond .ge off, 3)) (ht : iTgt pc off = some t) : iWp d M pc L (.int x :: st) h Q = if 0 ≤ x then iWp d M t L st h Q else iWp d M (pc + 3) L st h Q := iWp_if hd rfl fun K CAL => by simp only [iStp, iIf, ht, iCmp]; first | rfl | congr
theorem w_ifc_gt (hd : decode M.2.1 pc = .ok (.ifCond .gt off, 3)) (ht : iTgt pc off = some t) : iWp d M pc L (.int x :: st) h Q = if 0 < x then iWp d M t L st h Q else iWp d M (pc + 3) L st h Q := iWp_if hd rfl fun K CAL => by simp only [iStp, iIf, ht, iCmp]; first | rfl | congr
theorem w_ifc_le (hd : decode M.2.1 pc = .ok (.ifCond .le off, 3)) (ht : iTgt pc off = some t) : iWp d M pc L (.int x :: st) h Q = if x ≤ 0 then iWp d M t L st h Q else iWp d M (pc + 3) L st h Q := iWp_if hd rfl fun K CAL => by simp only [iStp, iIf, ht, iCmp]; first | rfl | congr
theorem w_switch {dflt lo hi o : Int} {offs : Array Int} {len : Nat} (hd : decode M.2.1 pc = .ok (.tableswitch dflt lo hi offs, len)) (h1 : decide (x.toInt < lo ∨ hi < x.toInt) = false) (ho : offs[(x.toInt - lo).toNat]? = some o) (ht : iTgt pc o = some t) : iWp d M pc L (.int x :: st) h Q = iWp d M t L st h Q := iWp_k hd rfl fun K CAL => by simp only [iStp, if_neg (of_decide_eq_false h1), ho, iJump, ht]
theorem w_switchD {dflt lo hi : Int} {offs : Array Int} {len : Nat} (hd : decode M.2.1 pc = .ok (.tableswitch dflt lo hi offs, len)) (h1 : x.toInt < lo ∨ hi < x.toInt) (ht : iTgt pc dflt = some t) : iWp d M pc L (.int x :: st) h Q = iWp d M t L st h Q := iWp_k hd rfl fun K CAL => by simp only [iStp, if_pos h1, iJump, ht]
theorem w_lookup {dflt o : Int} {ps : Array (Int × Int)} {len : Nat} (hd : decode M.2.1 pc = .ok (.lookupswitch dflt ps, len)) (h1 : (ps.toList.zip (ps.toList.drop 1)).all (fun (a, next) => a.1 < next.1) = true) (ho : Op.lookupswitch.offset ps.toList dflt x.toInt = o) (ht : iTgt pc o = some t) : iWp d M pc L (.int x :: st) h Q = iWp d M t L st h Q := iWp_k hd rfl fun K CAL => by simp only [iStp, if_pos h1, ho, iJump, ht]
theorem w_getf {bb : Bool} (hd : decode M.2.1 pc = .ok (.getfield idx, 3)) (hf : iFind (iF M.2.2.2.2.1) idx = some (ci, f, bb)) : iWp d M pc L (.ref a :: st) h Q = iOb (iGet h a ci f) (fun v => iWp d M (pc + 3) L (v :: st) h Q) := iWp_o (F := fun v => v :: st) (G := fun _ => h) hd rfl fun K CAL => by
  simp only [iStp, iLdF, hf]
  cases iGet h a ci f <;> rfl
theorem w_putf (hd : decode M.2.1 pc = .ok (.putfield idx, 3)) (hf : iFind (iF M.2.2.2.2.1) idx = some (ci, f, false)) (h1 : iFit (iTy ci f) va = true ∧ ((iT ci f).2.2.2 = false ∨ (M.1.name = "<init>" ∧ ci = M.2.2.2.2.1))) : iWp d M pc L (va :: .ref a :: st) h Q = iOb (iPut h a ci f va) (fun g => iWp d M (pc + 3) L st g Q) := iWp_o (F := fun _ => st) (G := fun g => g) hd rfl fun K CAL => by
  simp only [iStp, iStF, hf, if_pos h1]
  cases iPut h a ci f va <;> rfl
theorem w_iaload (hd : decode M.2.1 pc = .ok (.iaload, 1)) : iWp d M pc L (.int x :: .ref a :: st) h Q = iOb (iLdI h a x) (fun v => iWp d M (pc + 1) L (.int v :: st) h Q) := iWp_o (F := fun v => .int v :: st) (G := fun _ => h) hd rfl fun K CAL => by
  simp only [iStp]
  cases iLdI h a x <;> rfl
theorem w_baload (hd : decode M.2.1 pc = .ok (.baload, 1)) : iWp d M pc L (.int x :: .ref a :: st) h Q = iOb (iLdB h a x) (fun v => iWp d M (pc + 1) L (.int v :: st) h Q) := iWp_o (F := fun v => .int v :: st) (G := fun _ => h) hd rfl fun K CAL => by
  simp only [iStp]
  cases iLdB h a x <;> rfl
theorem w_laload (hd : decode M.2.1 pc = .ok (.laload, 1)) : iWp d M pc L (.int x :: .ref a :: st) h Q = iOb (iLdL h a x) (fun v => iWp d M (pc + 1) L (.long v :: st) h Q) := iWp_o (F := fun v => .long v :: st) (G := fun _ => h) hd rfl fun K CAL => by
  simp only [iStp]
  cases iLdL h a x <;> rfl
theorem w_aaload (hd : decode M.2.1 pc = .ok (.aaload, 1)) : iWp d M pc L (.int x :: .ref a :: st) h Q = iOb (iLdQ h a x) (fun v => iWp d M (pc + 1) L (va_rf v :: st) h Q) := iWp_o (F := fun v => va_rf v :: st) (G := fun _ => h) hd rfl fun K CAL => by
  simp only [iStp]
  cases iLdQ h a x <;> rfl
theorem w_iastore (hd : decode M.2.1 pc = .ok (.iastore, 1)) : iWp d M pc L (.int y :: .int x :: .ref a :: st) h Q = iOb (iStI h a x y) (fun g => iWp d M (pc + 1) L st g Q) := iWp_o (F := fun _ => st) (G := fun g => g) hd rfl fun K CAL => by
  simp only [iStp]
  cases iStI h a x y <;> rfl
theorem w_bastore (hd : decode M.2.1 pc = .ok (.bastore, 1)) : iWp d M pc L (.int y :: .int x :: .ref a :: st) h Q = iOb (iStB h a x y) (fun g => iWp d M (pc + 1) L st g Q) := iWp_o (F := fun _ => st) (G := fun g => g) hd rfl fun K CAL => by
  simp only [iStp]
  cases iStB h a x y <;> rfl
theorem w_lastore (hd : decode M.2.1 pc = .ok (.lastore, 1)) : iWp d M pc L (.long u :: .int x :: .ref a :: st) h Q = iOb (iStL h a x u) (fun g => iWp d M (pc + 1) L st g Q) := iWp_o (F := fun _ => st) (G := fun g => g) hd rfl fun K CAL => by
  simp only [iStp]
  cases iStL h a x u <;> rfl
theorem w_aastore (hd : decode M.2.1 pc = .ok (.aastore, 1)) : iWp d M pc L (.ref q :: .int x :: .ref a :: st) h Q = iOb (iStQ h a x (some q)) (fun g => iWp d M (pc + 1) L st g Q) := iWp_o (F := fun _ => st) (G := fun g => g) hd rfl fun K CAL => by
  simp only [iStp]
  cases iStQ h a x (some q) <;> rfl
theorem w_aastoreN (hd : decode M.2.1 pc = .ok (.aastore, 1)) : iWp d M pc L (.null :: .int x :: .ref a :: st) h Q = iOb (iStQ h a x none) (fun g => iWp d M (pc + 1) L st g Q) := iWp_o (F := fun _ => st) (G := fun g => g) hd rfl fun K CAL => by
  simp only [iStp]
  cases iStQ h a x none <;> rfl
theorem w_alen (hd : decode M.2.1 pc = .ok (.arraylength, 1)) : iWp d M pc L (.ref a :: st) h Q = iOb (iLen h a) (fun v => iWp d M (pc + 1) L (.int v :: st) h Q) := iWp_o (F := fun v => .int v :: st) (G := fun _ => h) hd rfl fun K CAL => by
  simp only [iStp]
  cases iLen h a <;> rfl
theorem w_new (hd : decode M.2.1 pc = .ok (.new idx, 3)) (hf : iFind (iC M.2.2.2.2.1) idx = some ci) : iWp d M pc L st h Q = iWp d M (pc + 3) L (.ref h.2.1 :: st) (iNewO h ci) Q := iWp_k hd rfl fun K CAL => by simp only [iStp, hf]
theorem w_newa {at_ : ArrayType} (hd : decode M.2.1 pc = .ok (.newarray at_, 2)) : iWp d M pc L (.int x :: st) h Q = iOb (iNewA h at_ x) (fun g => iWp d M (pc + 2) L (.ref h.2.1 :: st) g Q) := iWp_o (F := fun _ => .ref h.2.1 :: st) (G := fun g => g) hd rfl fun K CAL => by
  simp only [iStp]
  cases iNewA h at_ x <;> rfl
theorem w_newq (hd : decode M.2.1 pc = .ok (.anewarray idx, 3)) (hf : iFind (iC M.2.2.2.2.1) idx = some ci) : iWp d M pc L (.int x :: st) h Q = iOb (iNewQ h ci x) (fun g => iWp d M (pc + 3) L (.ref h.2.1 :: st) g Q) := iWp_o (F := fun _ => .ref h.2.1 :: st) (G := fun g => g) hd rfl fun K CAL => by
  simp only [iStp, hf]
  cases iNewQ h ci x <;> rfl
theorem w_ireti (hd : decode M.2.1 pc = .ok (.ireturn, 1)) (hr : M.2.2.2.1 = some .int) : iWp d M pc L [.int x] h Q = Q (some (.int x)) h := iWp_r hd rfl fun K CAL => by simp only [iStp, hr, iBool, if_pos]
theorem w_iretb {bb : Bool} (hd : decode M.2.1 pc = .ok (.ireturn, 1)) (hr : M.2.2.2.1 = some .boolean) : iWp d M pc L [.int (iB bb)] h Q = Q (some (.int (iB bb))) h := iWp_r hd rfl fun K CAL => by cases bb <;> simp only [iStp, hr] <;> rfl
theorem w_lret (hd : decode M.2.1 pc = .ok (.lreturn, 1)) (hr : M.2.2.2.1 = some .long) : iWp d M pc L [.long u] h Q = Q (some (.long u)) h := iWp_r hd rfl fun K CAL => by simp only [iStp, if_pos hr]
theorem w_aret {C : String} (hd : decode M.2.1 pc = .ok (.areturn, 1)) (hr : M.2.2.2.1 = some (.object C)) : iWp d M pc L [.ref p] h Q = Q (some (.ref p)) h := iWp_r hd rfl fun K CAL => by simp only [iStp, hr]
theorem w_aretN {C : String} (hd : decode M.2.1 pc = .ok (.areturn, 1)) (hr : M.2.2.2.1 = some (.object C)) : iWp d M pc L [.null] h Q = Q (some .null) h := iWp_r hd rfl fun K CAL => by simp only [iStp, hr]
theorem w_areta {C : FieldType} (hd : decode M.2.1 pc = .ok (.areturn, 1)) (hr : M.2.2.2.1 = some (.array C)) : iWp d M pc L [.ref p] h Q = Q (some (.ref p)) h := iWp_r hd rfl fun K CAL => by simp only [iStp, hr]
theorem w_ret (hd : decode M.2.1 pc = .ok (.return_, 1)) (hr : M.2.2.2.1 = none) : iWp d M pc L [] h Q = Q none h := iWp_r hd rfl fun K CAL => by simp only [iStp, hr]
end KINDS
theorem fF_0_9 : iFind (iF 0) 9 = some (0, 4, false) := rfl
theorem fF_0_15 : iFind (iF 0) 15 = some (0, 5, false) := rfl
theorem fF_0_18 : iFind (iF 0) 18 = some (0, 6, false) := rfl
theorem fF_0_22 : iFind (iF 0) 22 = some (0, 3, false) := rfl
theorem fF_0_26 : iFind (iF 0) 26 = some (0, 0, false) := rfl
theorem fF_0_30 : iFind (iF 0) 30 = some (0, 1, false) := rfl
theorem fF_0_38 : iFind (iF 0) 38 = some (0, 2, false) := rfl
theorem fF_0_56 : iFind (iF 0) 56 = some (7, 3, false) := rfl
theorem fF_1_11 : iFind (iF 1) 11 = some (1, 0, false) := rfl
theorem fF_1_17 : iFind (iF 1) 17 = some (1, 1, false) := rfl
theorem fF_1_21 : iFind (iF 1) 21 = some (1, 2, false) := rfl
theorem fF_1_25 : iFind (iF 1) 25 = some (1, 3, false) := rfl
theorem fF_1_69 : iFind (iF 1) 69 = some (2, 0, false) := rfl
theorem fF_2_9 : iFind (iF 2) 9 = some (2, 0, false) := rfl
theorem fF_2_15 : iFind (iF 2) 15 = some (2, 1, false) := rfl
theorem fF_2_18 : iFind (iF 2) 18 = some (2, 2, false) := rfl
theorem fF_2_21 : iFind (iF 2) 21 = some (2, 3, false) := rfl
theorem fF_2_24 : iFind (iF 2) 24 = some (2, 4, false) := rfl
theorem fF_2_27 : iFind (iF 2) 27 = some (2, 5, false) := rfl
theorem fF_2_30 : iFind (iF 2) 30 = some (2, 6, false) := rfl
theorem fF_2_79 : iFind (iF 2) 79 = some (7, 3, false) := rfl
theorem fF_3_15 : iFind (iF 3) 15 = some (3, 1, false) := rfl
theorem fF_3_25 : iFind (iF 3) 25 = some (3, 2, false) := rfl
theorem fF_3_29 : iFind (iF 3) 29 = some (3, 3, false) := rfl
theorem fF_3_33 : iFind (iF 3) 33 = some (3, 4, false) := rfl
theorem fF_3_36 : iFind (iF 3) 36 = some (3, 0, false) := rfl
theorem fF_3_43 : iFind (iF 3) 43 = some (2, 0, false) := rfl
theorem fF_3_48 : iFind (iF 3) 48 = some (2, 1, true) := rfl
theorem fF_4_12 : iFind (iF 4) 12 = some (4, 0, false) := rfl
theorem fF_4_18 : iFind (iF 4) 18 = some (4, 2, false) := rfl
theorem fF_4_22 : iFind (iF 4) 22 = some (4, 3, false) := rfl
theorem fF_4_25 : iFind (iF 4) 25 = some (4, 1, false) := rfl
theorem fF_4_49 : iFind (iF 4) 49 = some (7, 3, false) := rfl
theorem fF_5_9 : iFind (iF 5) 9 = some (5, 0, false) := rfl
theorem fF_5_15 : iFind (iF 5) 15 = some (5, 1, false) := rfl
theorem fF_6_11 : iFind (iF 6) 11 = some (6, 0, false) := rfl
theorem fF_6_19 : iFind (iF 6) 19 = some (6, 1, false) := rfl
theorem fF_6_23 : iFind (iF 6) 23 = some (6, 2, false) := rfl
theorem fF_6_27 : iFind (iF 6) 27 = some (6, 3, false) := rfl
theorem fF_6_30 : iFind (iF 6) 30 = some (6, 4, false) := rfl
theorem fF_6_37 : iFind (iF 6) 37 = some (7, 3, false) := rfl
theorem fF_7_9 : iFind (iF 7) 9 = some (7, 0, false) := rfl
theorem fF_7_15 : iFind (iF 7) 15 = some (7, 1, false) := rfl
theorem fF_7_18 : iFind (iF 7) 18 = some (7, 2, false) := rfl
theorem fF_7_21 : iFind (iF 7) 21 = some (7, 3, false) := rfl
theorem fF_8_11 : iFind (iF 8) 11 = some (8, 0, false) := rfl
theorem fF_8_15 : iFind (iF 8) 15 = some (8, 1, false) := rfl
theorem fF_8_19 : iFind (iF 8) 19 = some (8, 2, false) := rfl
theorem fF_8_25 : iFind (iF 8) 25 = some (8, 3, false) := rfl
theorem fF_8_32 : iFind (iF 8) 32 = some (8, 4, false) := rfl
theorem fF_8_36 : iFind (iF 8) 36 = some (8, 5, false) := rfl
theorem fF_8_39 : iFind (iF 8) 39 = some (8, 6, false) := rfl
theorem fF_8_43 : iFind (iF 8) 43 = some (8, 7, false) := rfl
theorem fF_8_71 : iFind (iF 8) 71 = some (5, 0, false) := rfl
theorem fF_8_78 : iFind (iF 8) 78 = some (5, 1, false) := rfl
theorem fF_8_113 : iFind (iF 8) 113 = some (4, 0, false) := rfl
theorem fF_8_125 : iFind (iF 8) 125 = some (7, 3, false) := rfl
theorem fF_8_169 : iFind (iF 8) 169 = some (6, 2, false) := rfl
theorem fF_8_184 : iFind (iF 8) 184 = some (1, 2, false) := rfl
theorem fF_8_190 : iFind (iF 8) 190 = some (3, 0, false) := rfl
theorem fF_8_259 : iFind (iF 8) 259 = some (6, 3, false) := rfl
theorem fF_8_278 : iFind (iF 8) 278 = some (6, 4, false) := rfl
theorem fF_9_7 : iFind (iF 9) 7 = some (9, 1, false) := rfl
theorem fF_9_13 : iFind (iF 9) 13 = some (9, 2, false) := rfl
theorem fF_9_16 : iFind (iF 9) 16 = some (9, 3, false) := rfl
theorem fF_9_19 : iFind (iF 9) 19 = some (9, 4, false) := rfl
theorem fF_9_22 : iFind (iF 9) 22 = some (9, 7, false) := rfl
theorem fF_9_25 : iFind (iF 9) 25 = some (9, 8, false) := rfl
theorem fF_9_28 : iFind (iF 9) 28 = some (9, 9, false) := rfl
theorem fF_9_31 : iFind (iF 9) 31 = some (9, 11, false) := rfl
theorem fF_9_34 : iFind (iF 9) 34 = some (9, 12, false) := rfl
theorem fF_9_37 : iFind (iF 9) 37 = some (9, 13, false) := rfl
theorem fF_9_41 : iFind (iF 9) 41 = some (9, 17, false) := rfl
theorem fF_9_44 : iFind (iF 9) 44 = some (9, 19, false) := rfl
theorem fF_9_47 : iFind (iF 9) 47 = some (9, 20, false) := rfl
theorem fF_9_50 : iFind (iF 9) 50 = some (9, 21, false) := rfl
theorem fF_9_53 : iFind (iF 9) 53 = some (9, 22, false) := rfl
theorem fF_9_56 : iFind (iF 9) 56 = some (9, 23, false) := rfl
theorem fF_9_59 : iFind (iF 9) 59 = some (9, 24, false) := rfl
theorem fF_9_62 : iFind (iF 9) 62 = some (9, 26, false) := rfl
theorem fF_9_65 : iFind (iF 9) 65 = some (9, 28, false) := rfl
theorem fF_9_68 : iFind (iF 9) 68 = some (9, 29, false) := rfl
theorem fF_9_71 : iFind (iF 9) 71 = some (9, 32, false) := rfl
theorem fF_9_74 : iFind (iF 9) 74 = some (9, 33, false) := rfl
theorem fF_9_77 : iFind (iF 9) 77 = some (9, 34, false) := rfl
theorem fF_9_80 : iFind (iF 9) 80 = some (9, 35, false) := rfl
theorem fF_9_83 : iFind (iF 9) 83 = some (9, 37, false) := rfl
theorem fF_9_86 : iFind (iF 9) 86 = some (9, 38, false) := rfl
theorem fF_9_89 : iFind (iF 9) 89 = some (9, 39, false) := rfl
theorem fF_9_92 : iFind (iF 9) 92 = some (9, 10, false) := rfl
theorem fF_9_96 : iFind (iF 9) 96 = some (9, 14, false) := rfl
theorem fF_9_103 : iFind (iF 9) 103 = some (9, 0, false) := rfl
theorem fF_9_110 : iFind (iF 9) 110 = some (9, 5, false) := rfl
theorem fF_9_127 : iFind (iF 9) 127 = some (9, 18, false) := rfl
theorem fF_9_139 : iFind (iF 9) 139 = some (9, 16, false) := rfl
theorem fF_9_142 : iFind (iF 9) 142 = some (9, 15, false) := rfl
theorem fF_9_200 : iFind (iF 9) 200 = some (9, 25, false) := rfl
theorem fF_9_239 : iFind (iF 9) 239 = some (9, 6, false) := rfl
theorem fF_9_242 : iFind (iF 9) 242 = some (9, 27, false) := rfl
theorem fF_9_295 : iFind (iF 9) 295 = some (9, 30, false) := rfl
theorem fF_9_299 : iFind (iF 9) 299 = some (9, 31, false) := rfl
theorem fF_9_302 : iFind (iF 9) 302 = some (9, 36, false) := rfl
theorem fF_9_305 : iFind (iF 9) 305 = some (9, 40, false) := rfl
theorem fC_0_10 : iFind (iC 0) 10 = some 0 := rfl
theorem fC_0_33 : iFind (iC 0) 33 = some 7 := rfl
theorem fC_1_9 : iFind (iC 1) 9 = some 2 := rfl
theorem fC_2_10 : iFind (iC 2) 10 = some 2 := rfl
theorem fC_4_9 : iFind (iC 4) 9 = some 7 := rfl
theorem fC_6_9 : iFind (iC 6) 9 = some 7 := rfl
theorem fC_6_17 : iFind (iC 6) 17 = some 3 := rfl
theorem fC_8_9 : iFind (iC 8) 9 = some 5 := rfl
theorem fC_8_22 : iFind (iC 8) 22 = some 1 := rfl
theorem fC_8_29 : iFind (iC 8) 29 = some 6 := rfl
theorem fC_8_97 : iFind (iC 8) 97 = some 3 := rfl
theorem fC_8_104 : iFind (iC 8) 104 = some 4 := rfl
theorem fC_8_126 : iFind (iC 8) 126 = some 7 := rfl
theorem fC_10_7 : iFind (iC 10) 7 = some 8 := rfl
theorem fC_10_10 : iFind (iC 10) 10 = some 9 := rfl
theorem fK_0_3 : iFind (iK 0) 3 = none := rfl
theorem fK_0_35 : iFind (iK 0) 35 = some (mX7_init_, 2, 1) := rfl
theorem fK_0_41 : iFind (iK 0) 41 = some (mX7_keyAt, 0, 1) := rfl
theorem fK_0_45 : iFind (iK 0) 45 = some (mX1_clear, 0, 0) := rfl
theorem fK_0_50 : iFind (iK 0) 50 = some (mX0_init, 2, 3) := rfl
theorem fK_0_53 : iFind (iK 0) 53 = some (mX0_nameOthers, 0, 0) := rfl
theorem fK_0_60 : iFind (iK 0) 60 = some (mX0_markStaying, 0, 1) := rfl
theorem fK_0_64 : iFind (iK 0) 64 = some (mX0_bringOthers, 0, 1) := rfl
theorem fK_0_67 : iFind (iK 0) 67 = some (mX0_takeOthers, 0, 0) := rfl
theorem fK_0_70 : iFind (iK 0) 70 = some (mX7_whereOf, 0, 1) := rfl
theorem fK_0_73 : iFind (iK 0) 73 = some (mX7_labelAt, 0, 1) := rfl
theorem fK_0_76 : iFind (iK 0) 76 = some (mX2_name, 1, 3) := rfl
theorem fK_0_82 : iFind (iK 0) 82 = some (mX0_change, 0, 1) := rfl
theorem fK_0_86 : iFind (iK 0) 86 = some (mX7_parentKeyAt, 0, 1) := rfl
theorem fK_0_89 : iFind (iK 0) 89 = some (mX7_placeAt, 0, 1) := rfl
theorem fK_0_92 : iFind (iK 0) 92 = some (mX2_take, 1, 4) := rfl
theorem fK_0_96 : iFind (iK 0) 96 = some (mX1_add, 0, 1) := rfl
theorem fK_0_99 : iFind (iK 0) 99 = some (mX2_perform, 0, 1) := rfl
theorem fK_0_102 : iFind (iK 0) 102 = some (mX0_rankChildren, 0, 1) := rfl
theorem fK_0_105 : iFind (iK 0) 105 = some (mX0_measureRisingRows, 0, 1) := rfl
theorem fK_0_108 : iFind (iK 0) 108 = some (mX7_endOf, 0, 1) := rfl
theorem fK_0_111 : iFind (iK 0) 111 = some (mX7_depthAt, 0, 1) := rfl
theorem fK_0_114 : iFind (iK 0) 114 = some (mX7_parentAt, 0, 1) := rfl
theorem fK_0_117 : iFind (iK 0) 117 = none := rfl
theorem fK_0_123 : iFind (iK 0) 123 = some (mX0_brought, 0, 3) := rfl
theorem fK_0_126 : iFind (iK 0) 126 = some (mX2_give, 1, 4) := rfl
theorem fK_0_129 : iFind (iK 0) 129 = some (mX2_move, 1, 5) := rfl
theorem fK_1_3 : iFind (iK 1) 3 = none := rfl
theorem fK_1_28 : iFind (iK 1) 28 = some (mX3_size, 0, 0) := rfl
theorem fK_1_33 : iFind (iK 1) 33 = some (mX3_editAt, 0, 1) := rfl
theorem fK_1_37 : iFind (iK 1) 37 = some (mX1_add, 0, 1) := rfl
theorem fK_1_41 : iFind (iK 1) 41 = some (mX1_editAt, 0, 1) := rfl
theorem fK_1_42 : iFind (iK 1) 42 = some (mX2_namesAsWell, 0, 1) := rfl
theorem fK_1_46 : iFind (iK 1) 46 = some (mX2_joinedWith, 0, 1) := rfl
theorem fK_1_50 : iFind (iK 1) 50 = some (mX2_turned, 0, 0) := rfl
theorem fK_1_54 : iFind (iK 1) 54 = some (mX2_isLike, 0, 1) := rfl
theorem fK_1_57 : iFind (iK 1) 57 = some (mX2_over, 0, 1) := rfl
theorem fK_1_61 : iFind (iK 1) 61 = some (mX2_fitted, 0, 1) := rfl
theorem fK_1_65 : iFind (iK 1) 65 = some (mX2_perform, 0, 1) := rfl
theorem fK_1_72 : iFind (iK 1) 72 = none := rfl
theorem fK_1_78 : iFind (iK 1) 78 = none := rfl
theorem fK_1_81 : iFind (iK 1) 81 = none := rfl
theorem fK_2_3 : iFind (iK 2) 3 = none := rfl
theorem fK_2_33 : iFind (iK 2) 33 = some (mX2_init, 2, 7) := rfl
theorem fK_2_36 : iFind (iK 2) 36 = some (mX2_name, 1, 3) := rfl
theorem fK_2_40 : iFind (iK 2) 40 = some (mX2_give, 1, 4) := rfl
theorem fK_2_44 : iFind (iK 2) 44 = some (mX2_take, 1, 4) := rfl
theorem fK_2_47 : iFind (iK 2) 47 = some (mX2_move, 1, 5) := rfl
theorem fK_2_51 : iFind (iK 2) 51 = some (mX7_whereOf, 0, 1) := rfl
theorem fK_2_57 : iFind (iK 2) 57 = some (mX7_labelAt, 0, 1) := rfl
theorem fK_2_60 : iFind (iK 2) 60 = some (mX2_fitsAsTake, 0, 2) := rfl
theorem fK_2_64 : iFind (iK 2) 64 = some (mX2_fitsAsGive, 0, 2) := rfl
theorem fK_2_67 : iFind (iK 2) 67 = some (mX2_fitsAsMove, 0, 2) := rfl
theorem fK_2_70 : iFind (iK 2) 70 = some (mX7_childCount, 0, 1) := rfl
theorem fK_2_73 : iFind (iK 2) 73 = some (mX7_parentKeyAt, 0, 1) := rfl
theorem fK_2_76 : iFind (iK 2) 76 = some (mX7_placeAt, 0, 1) := rfl
theorem fK_2_82 : iFind (iK 2) 82 = some (mX7_isWithin, 0, 2) := rfl
theorem fK_2_86 : iFind (iK 2) 86 = some (mX2_lastPlaceOfMove, 0, 3) := rfl
theorem fK_2_90 : iFind (iK 2) 90 = some (mX7_parentAt, 0, 1) := rfl
theorem fK_2_93 : iFind (iK 2) 93 = some (mX7_rename, 0, 2) := rfl
theorem fK_2_97 : iFind (iK 2) 97 = some (mX7_remove, 0, 1) := rfl
theorem fK_2_101 : iFind (iK 2) 101 = some (mX7_spot, 0, 3) := rfl
theorem fK_2_105 : iFind (iK 2) 105 = some (mX7_depthAt, 0, 1) := rfl
theorem fK_2_108 : iFind (iK 2) 108 = some (mX7_insert, 0, 4) := rfl
theorem fK_2_112 : iFind (iK 2) 112 = some (mX7_carry, 0, 3) := rfl
theorem fK_2_116 : iFind (iK 2) 116 = some (mX2_nameOver, 0, 2) := rfl
theorem fK_2_120 : iFind (iK 2) 120 = some (mX2_takeOver, 0, 2) := rfl
theorem fK_2_123 : iFind (iK 2) 123 = some (mX2_giveOver, 0, 2) := rfl
theorem fK_2_126 : iFind (iK 2) 126 = some (mX2_moveOver, 0, 2) := rfl
theorem fK_2_129 : iFind (iK 2) 129 = none := rfl
theorem fK_3_3 : iFind (iK 3) 3 = none := rfl
theorem fK_3_9 : iFind (iK 3) 9 = some (mX1_takeEdits, 0, 0) := rfl
theorem fK_3_21 : iFind (iK 3) 21 = some (mX1_takeConflicts, 0, 0) := rfl
theorem fK_3_39 : iFind (iK 3) 39 = some (mX3_conflictCount, 0, 0) := rfl
theorem fK_3_51 : iFind (iK 3) 51 = some (mX2_fits, 0, 1) := rfl
theorem fK_3_55 : iFind (iK 3) 55 = some (mX2_perform, 0, 1) := rfl
theorem fK_4_3 : iFind (iK 4) 3 = none := rfl
theorem fK_4_11 : iFind (iK 4) 11 = some (mX7_init, 2, 0) := rfl
theorem fK_4_29 : iFind (iK 4) 29 = some (mX5_length, 0, 0) := rfl
theorem fK_4_35 : iFind (iK 4) 35 = some (mX4_readNode, 0, 0) := rfl
theorem fK_4_38 : iFind (iK 4) 38 = some (mX4_readSign, 0, 1) := rfl
theorem fK_4_42 : iFind (iK 4) 42 = some (mX5_intAt, 0, 1) := rfl
theorem fK_4_45 : iFind (iK 4) 45 = some (mX8_isLabel, 4, 1) := rfl
theorem fK_4_52 : iFind (iK 4) 52 = some (mX4_isDigit, 0, 1) := rfl
theorem fK_4_55 : iFind (iK 4) 55 = some (mX7_whereOf, 0, 1) := rfl
theorem fK_4_58 : iFind (iK 4) 58 = some (mX7_insert, 0, 4) := rfl
theorem fK_5_3 : iFind (iK 5) 3 = none := rfl
theorem fK_5_19 : iFind (iK 5) 19 = some (mX5_has, 0, 1) := rfl
theorem fK_5_23 : iFind (iK 5) 23 = some (mX5_longAt, 0, 1) := rfl
theorem fK_5_27 : iFind (iK 5) 27 = some (mX5_cutToSort, 0, 1) := rfl
theorem fK_6_3 : iFind (iK 6) 3 = none := rfl
theorem fK_6_33 : iFind (iK 6) 33 = some (mX6_treeAt, 0, 1) := rfl
theorem fK_6_40 : iFind (iK 6) 40 = some (mX6_patchAt, 0, 1) := rfl
theorem fK_6_44 : iFind (iK 6) 44 = some (mX3_size, 0, 0) := rfl
theorem fK_7_3 : iFind (iK 7) 3 = none := rfl
theorem fK_7_25 : iFind (iK 7) 25 = none := rfl
theorem fK_7_31 : iFind (iK 7) 31 = some (mX7_has, 0, 1) := rfl
theorem fK_7_35 : iFind (iK 7) 35 = some (mX7_parentAt, 0, 1) := rfl
theorem fK_7_39 : iFind (iK 7) 39 = some (mX7_keyAt, 0, 1) := rfl
theorem fK_7_42 : iFind (iK 7) 42 = some (mX7_endOf, 0, 1) := rfl
theorem fK_7_45 : iFind (iK 7) 45 = some (mX7_depthAt, 0, 1) := rfl
theorem fK_7_48 : iFind (iK 7) 48 = some (mX7_isWithin, 0, 2) := rfl
theorem fK_7_52 : iFind (iK 7) 52 = none := rfl
theorem fK_7_58 : iFind (iK 7) 58 = some (mX5_intAt, 0, 1) := rfl
theorem fK_7_63 : iFind (iK 7) 63 = some (mX7_turnRound, 0, 2) := rfl
theorem fK_8_1 : iFind (iK 8) 1 = none := rfl
theorem fK_8_24 : iFind (iK 8) 24 = some (mX1_init, 3, 0) := rfl
theorem fK_8_31 : iFind (iK 8) 31 = some (mX6_init, 2, 0) := rfl
theorem fK_8_46 : iFind (iK 8) 46 = some (mX8_isShelf, 1, 1) := rfl
theorem fK_8_50 : iFind (iK 8) 50 = some (mX8_refuse, 0, 1) := rfl
theorem fK_8_54 : iFind (iK 8) 54 = some (mX5_init, 2, 2) := rfl
theorem fK_8_57 : iFind (iK 8) 57 = some (mX8_rowAt, 0, 1) := rfl
theorem fK_8_61 : iFind (iK 8) 61 = some (mX8_whyNoRow, 0, 1) := rfl
theorem fK_8_64 : iFind (iK 8) 64 = some (mX5_has, 0, 1) := rfl
theorem fK_8_67 : iFind (iK 8) 67 = some (mX5_keep, 0, 2) := rfl
theorem fK_8_74 : iFind (iK 8) 74 = some (mX5_hasRun, 0, 2) := rfl
theorem fK_8_82 : iFind (iK 8) 82 = none := rfl
theorem fK_8_88 : iFind (iK 8) 88 = some (mX5_longAt, 0, 1) := rfl
theorem fK_8_92 : iFind (iK 8) 92 = some (mX8_patchAt, 0, 1) := rfl
theorem fK_8_96 : iFind (iK 8) 96 = some (mX3_isOf, 0, 1) := rfl
theorem fK_8_101 : iFind (iK 8) 101 = some (mX3_saysAs, 0, 1) := rfl
theorem fK_8_106 : iFind (iK 8) 106 = some (mX4_init, 2, 1) := rfl
theorem fK_8_109 : iFind (iK 8) 109 = some (mX4_read, 0, 0) := rfl
theorem fK_8_117 : iFind (iK 8) 117 = some (mX6_addTree, 0, 1) := rfl
theorem fK_8_121 : iFind (iK 8) 121 = some (mX8_treeAt, 0, 1) := rfl
theorem fK_8_130 : iFind (iK 8) 130 = some (mX7_has, 0, 1) := rfl
theorem fK_8_131 : iFind (iK 8) 131 = some (mX7_keyAt, 0, 1) := rfl
theorem fK_8_134 : iFind (iK 8) 134 = some (mX7_labelAt, 0, 1) := rfl
theorem fK_8_137 : iFind (iK 8) 137 = some (mX7_parentKeyAt, 0, 1) := rfl
theorem fK_8_140 : iFind (iK 8) 140 = some (mX7_placeAt, 0, 1) := rfl
theorem fK_8_143 : iFind (iK 8) 143 = some (mX7_childCount, 0, 1) := rfl
theorem fK_8_146 : iFind (iK 8) 146 = some (mX7_depthAt, 0, 1) := rfl
theorem fK_8_149 : iFind (iK 8) 149 = some (mX7_endOf, 0, 1) := rfl
theorem fK_8_152 : iFind (iK 8) 152 = some (mX8_refuseLower, 0, 1) := rfl
theorem fK_8_155 : iFind (iK 8) 155 = some (mX7_whereOf, 0, 1) := rfl
theorem fK_8_158 : iFind (iK 8) 158 = some (mX7_spot, 0, 3) := rfl
theorem fK_8_162 : iFind (iK 8) 162 = some (mX7_lowestOver, 0, 2) := rfl
theorem fK_8_166 : iFind (iK 8) 166 = some (mX7_firstUnlike, 0, 1) := rfl
theorem fK_8_172 : iFind (iK 8) 172 = some (mX6_dropTree, 0, 0) := rfl
theorem fK_8_175 : iFind (iK 8) 175 = some (mX0_draftInto, 1, 3) := rfl
theorem fK_8_181 : iFind (iK 8) 181 = some (mX8_keepDraft, 0, 2) := rfl
theorem fK_8_185 : iFind (iK 8) 185 = some (mX1_countOf, 0, 1) := rfl
theorem fK_8_188 : iFind (iK 8) 188 = some (mX3_size, 0, 0) := rfl
theorem fK_8_193 : iFind (iK 8) 193 = some (mX3_countOf, 0, 1) := rfl
theorem fK_8_194 : iFind (iK 8) 194 = some (mX3_editAt, 0, 1) := rfl
theorem fK_8_198 : iFind (iK 8) 198 = some (mX2_told, 0, 1) := rfl
theorem fK_8_203 : iFind (iK 8) 203 = some (mX3_keyBits, 0, 1) := rfl
theorem fK_8_206 : iFind (iK 8) 206 = some (mX7_init_, 2, 1) := rfl
theorem fK_8_209 : iFind (iK 8) 209 = some (mX3_changeUntilMisfit, 0, 1) := rfl
theorem fK_8_212 : iFind (iK 8) 212 = some (mX6_replaceTree, 0, 2) := rfl
theorem fK_8_216 : iFind (iK 8) 216 = some (mX3_conflictCount, 0, 0) := rfl
theorem fK_8_219 : iFind (iK 8) 219 = some (mX3_conflictAt, 0, 2) := rfl
theorem fK_8_222 : iFind (iK 8) 222 = some (mX1_clear, 0, 0) := rfl
theorem fK_8_225 : iFind (iK 8) 225 = some (mX2_turned, 0, 0) := rfl
theorem fK_8_229 : iFind (iK 8) 229 = some (mX1_add, 0, 1) := rfl
theorem fK_8_233 : iFind (iK 8) 233 = some (mX1_addAll, 0, 1) := rfl
theorem fK_8_237 : iFind (iK 8) 237 = some (mX1_addSqueezed, 0, 1) := rfl
theorem fK_8_240 : iFind (iK 8) 240 = some (mX1_addRebased, 0, 3) := rfl
theorem fK_8_244 : iFind (iK 8) 244 = some (mX8_isLabel, 1, 1) := rfl
theorem fK_8_247 : iFind (iK 8) 247 = some (mX2_name, 1, 3) := rfl
theorem fK_8_251 : iFind (iK 8) 251 = some (mX2_move, 1, 5) := rfl
theorem fK_8_255 : iFind (iK 8) 255 = some (mX2_fits, 0, 1) := rfl
theorem fK_8_262 : iFind (iK 8) 262 = some (mX6_forgetPatch, 0, 0) := rfl
theorem fK_8_265 : iFind (iK 8) 265 = some (mX8_emptyVainShelves, 0, 0) := rfl
theorem fK_8_268 : iFind (iK 8) 268 = some (mX5_length, 0, 0) := rfl
theorem fK_8_271 : iFind (iK 8) 271 = some (mX7_firstWrong, 0, 2) := rfl
theorem fK_8_275 : iFind (iK 8) 275 = some (mX8_passDay, 0, 1) := rfl
theorem fK_8_281 : iFind (iK 8) 281 = some (mX6_init_, 2, 1) := rfl
theorem fK_8_284 : iFind (iK 8) 284 = some (mX6_nodeCount, 0, 0) := rfl
theorem fK_8_287 : iFind (iK 8) 287 = some (mX6_editCount, 0, 0) := rfl
theorem fK_8_290 : iFind (iK 8) 290 = some (mX8_fullShelves, 0, 0) := rfl
theorem fK_8_293 : iFind (iK 8) 293 = some (mX6_treeAt, 0, 1) := rfl
theorem fK_8_294 : iFind (iK 8) 294 = some (mX6_patchAt, 0, 1) := rfl
theorem fK_8_295 : iFind (iK 8) 295 = some (mX3_init, 2, 4) := rfl
theorem fK_8_298 : iFind (iK 8) 298 = some (mX6_addPatch, 0, 1) := rfl
theorem fK_8_302 : iFind (iK 8) 302 = some (mX6_draw, 0, 1) := rfl
theorem fK_8_305 : iFind (iK 8) 305 = some (mX7_insert, 0, 4) := rfl
theorem fK_8_309 : iFind (iK 8) 309 = some (mX7_remove, 0, 1) := rfl
theorem fK_8_313 : iFind (iK 8) 313 = some (mX7_rename, 0, 2) := rfl
theorem fK_9_1 : iFind (iK 9) 1 = none := rfl
theorem fK_9_99 : iFind (iK 9) 99 = some (mX9_no, 0, 1) := rfl
theorem fK_9_106 : iFind (iK 9) 106 = some (mX9_within, 1, 3) := rfl
theorem fK_9_113 : iFind (iK 9) 113 = some (mX9_isRow, 0, 1) := rfl
theorem fK_9_117 : iFind (iK 9) 117 = some (mX9_noRow, 0, 1) := rfl
theorem fK_9_120 : iFind (iK 9) 120 = some (mX9_isPatch, 0, 1) := rfl
theorem fK_9_123 : iFind (iK 9) 123 = some (mX9_of, 0, 2) := rfl
theorem fK_9_130 : iFind (iK 9) 130 = some (mX9_parent, 0, 1) := rfl
theorem fK_9_133 : iFind (iK 9) 133 = some (mX9_end, 0, 1) := rfl
theorem fK_9_136 : iFind (iK 9) 136 = some (mX9_child, 0, 2) := rfl
theorem fK_9_145 : iFind (iK 9) 145 = some (mX9_sign, 0, 0) := rfl
theorem fK_9_149 : iFind (iK 9) 149 = some (mX9_isDigit, 0, 0) := rfl
theorem fK_9_153 : iFind (iK 9) 153 = some (mX9_find, 0, 1) := rfl
theorem fK_9_156 : iFind (iK 9) 156 = some (mX9_is, 0, 1) := rfl
theorem fK_9_159 : iFind (iK 9) 159 = some (mX9_node, 0, 1) := rfl
theorem fK_9_162 : iFind (iK 9) 162 = some (mX9_lays, 0, 1) := rfl
theorem fK_9_166 : iFind (iK 9) 166 = some (mX9_isTree, 0, 1) := rfl
theorem fK_9_169 : iFind (iK 9) 169 = some (mX9_loads, 0, 1) := rfl
theorem fK_9_172 : iFind (iK 9) 172 = some (mX9_parentKey, 0, 1) := rfl
theorem fK_9_175 : iFind (iK 9) 175 = some (mX9_place, 0, 1) := rfl
theorem fK_9_178 : iFind (iK 9) 178 = some (mX9_children, 0, 1) := rfl
theorem fK_9_181 : iFind (iK 9) 181 = some (mX9_no10, 0, 1) := rfl
theorem fK_9_184 : iFind (iK 9) 184 = some (mX9_isBelow, 0, 2) := rfl
theorem fK_9_188 : iFind (iK 9) 188 = some (mX9_cuts, 0, 2) := rfl
theorem fK_9_192 : iFind (iK 9) 192 = some (mX9_puts, 0, 3) := rfl
theorem fK_9_196 : iFind (iK 9) 196 = some (mX9_moves, 0, 3) := rfl
theorem fK_9_203 : iFind (iK 9) 203 = some (mX9_makes, 0, 7) := rfl
theorem fK_9_207 : iFind (iK 9) 207 = some (mX9_does, 0, 2) := rfl
theorem fK_9_211 : iFind (iK 9) 211 = some (mX9_keyOf, 0, 2) := rfl
theorem fK_9_214 : iFind (iK 9) 214 = some (mX9_next, 0, 3) := rfl
theorem fK_9_218 : iFind (iK 9) 218 = some (mX9_placeIn, 0, 2) := rfl
theorem fK_9_221 : iFind (iK 9) 221 = none := rfl
theorem fK_9_226 : iFind (iK 9) 226 = some (mX9_staying, 0, 2) := rfl
theorem fK_9_230 : iFind (iK 9) 230 = some (mX9_indexOf, 0, 2) := rfl
theorem fK_9_233 : iFind (iK 9) 233 = some (mX9_goes, 0, 7) := rfl
theorem fK_9_236 : iFind (iK 9) 236 = some (mX9_ordered, 0, 3) := rfl
theorem fK_9_245 : iFind (iK 9) 245 = some (mX9_isUnlike, 0, 2) := rfl
theorem fK_9_248 : iFind (iK 9) 248 = some (mX9_differs, 0, 2) := rfl
theorem fK_9_251 : iFind (iK 9) 251 = some (mX9_newPatch, 0, 2) := rfl
theorem fK_9_254 : iFind (iK 9) 254 = some (mX9_edit, 0, 2) := rfl
theorem fK_9_257 : iFind (iK 9) 257 = some (mX9_stuck, 0, 1) := rfl
theorem fK_9_260 : iFind (iK 9) 260 = some (mX9_turns, 0, 2) := rfl
theorem fK_9_264 : iFind (iK 9) 264 = some (mX9_all, 0, 1) := rfl
theorem fK_9_267 : iFind (iK 9) 267 = some (mX9_undoes, 0, 1) := rfl
theorem fK_9_270 : iFind (iK 9) 270 = some (mX9_vanish, 0, 2) := rfl
theorem fK_9_273 : iFind (iK 9) 273 = some (mX9_squeezes, 0, 0) := rfl
theorem fK_9_276 : iFind (iK 9) 276 = some (mX9_gives, 0, 3) := rfl
theorem fK_9_279 : iFind (iK 9) 279 = some (mX9_keepsMove, 0, 3) := rfl
theorem fK_9_282 : iFind (iK 9) 282 = none := rfl
theorem fK_9_285 : iFind (iK 9) 285 = some (mX9_keeps, 0, 1) := rfl
theorem fK_9_289 : iFind (iK 9) 289 = some (mX9_draw, 0, 1) := rfl
theorem fK_9_292 : iFind (iK 9) 292 = some (mX9_day, 0, 0) := rfl
theorem fK_10_9 : iFind (iK 10) 9 = some (mX8_init, 2, 0) := rfl
theorem fK_10_12 : iFind (iK 10) 12 = some (mX9_init, 2, 0) := rfl
theorem fK_10_13 : iFind (iK 10) 13 = some (mX8_row, 0, 3) := rfl
theorem fK_10_17 : iFind (iK 10) 17 = some (mX9_row, 0, 3) := rfl
theorem fK_10_20 : iFind (iK 10) 20 = some (mX8_set, 0, 3) := rfl
theorem fK_10_24 : iFind (iK 10) 24 = some (mX9_set, 0, 3) := rfl
theorem fK_10_25 : iFind (iK 10) 25 = some (mX8_copy, 0, 5) := rfl
theorem fK_10_29 : iFind (iK 10) 29 = some (mX9_copy, 0, 5) := rfl
theorem fK_10_30 : iFind (iK 10) 30 = some (mX8_element, 0, 2) := rfl
theorem fK_10_34 : iFind (iK 10) 34 = some (mX9_element, 0, 2) := rfl
theorem fK_10_35 : iFind (iK 10) 35 = some (mX8_show, 0, 2) := rfl
theorem fK_10_39 : iFind (iK 10) 39 = some (mX9_show, 0, 2) := rfl
theorem fK_10_40 : iFind (iK 10) 40 = some (mX8_holds, 0, 1) := rfl
theorem fK_10_44 : iFind (iK 10) 44 = some (mX9_holds, 0, 1) := rfl
theorem fK_10_45 : iFind (iK 10) 45 = some (mX8_says, 0, 2) := rfl
theorem fK_10_48 : iFind (iK 10) 48 = some (mX9_says, 0, 2) := rfl
theorem fK_10_49 : iFind (iK 10) 49 = some (mX8_tree, 0, 1) := rfl
theorem fK_10_52 : iFind (iK 10) 52 = some (mX9_tree, 0, 1) := rfl
theorem fK_10_53 : iFind (iK 10) 53 = some (mX8_fault, 0, 0) := rfl
theorem fK_10_57 : iFind (iK 10) 57 = some (mX9_fault, 0, 0) := rfl
theorem fK_10_58 : iFind (iK 10) 58 = some (mX8_nodes, 0, 1) := rfl
theorem fK_10_61 : iFind (iK 10) 61 = some (mX9_nodes, 0, 1) := rfl
theorem fK_10_62 : iFind (iK 10) 62 = some (mX8_node, 0, 3) := rfl
theorem fK_10_65 : iFind (iK 10) 65 = some (mX9_node_, 0, 3) := rfl
theorem fK_10_66 : iFind (iK 10) 66 = some (mX8_find, 0, 2) := rfl
theorem fK_10_69 : iFind (iK 10) 69 = some (mX9_find_, 0, 2) := rfl
theorem fK_10_70 : iFind (iK 10) 70 = some (mX8_child, 0, 3) := rfl
theorem fK_10_73 : iFind (iK 10) 73 = some (mX9_child_, 0, 3) := rfl
theorem fK_10_74 : iFind (iK 10) 74 = some (mX8_above, 0, 3) := rfl
theorem fK_10_77 : iFind (iK 10) 77 = some (mX9_above, 0, 3) := rfl
theorem fK_10_78 : iFind (iK 10) 78 = some (mX8_same, 0, 2) := rfl
theorem fK_10_81 : iFind (iK 10) 81 = some (mX9_same, 0, 2) := rfl
theorem fK_10_82 : iFind (iK 10) 82 = some (mX8_drop, 0, 1) := rfl
theorem fK_10_85 : iFind (iK 10) 85 = some (mX9_drop, 0, 1) := rfl
theorem fK_10_86 : iFind (iK 10) 86 = some (mX8_difference, 0, 2) := rfl
theorem fK_10_89 : iFind (iK 10) 89 = some (mX9_difference, 0, 2) := rfl
theorem fK_10_90 : iFind (iK 10) 90 = some (mX8_far, 0, 2) := rfl
theorem fK_10_93 : iFind (iK 10) 93 = some (mX9_far, 0, 2) := rfl
theorem fK_10_94 : iFind (iK 10) 94 = some (mX8_moves, 0, 2) := rfl
theorem fK_10_97 : iFind (iK 10) 97 = some (mX9_moves_, 0, 2) := rfl
theorem fK_10_98 : iFind (iK 10) 98 = some (mX8_patchOf, 0, 2) := rfl
theorem fK_10_101 : iFind (iK 10) 101 = some (mX9_patchOf, 0, 2) := rfl
theorem fK_10_102 : iFind (iK 10) 102 = some (mX8_edit, 0, 3) := rfl
theorem fK_10_105 : iFind (iK 10) 105 = some (mX9_edit_, 0, 3) := rfl
theorem fK_10_106 : iFind (iK 10) 106 = some (mX8_touched, 0, 2) := rfl
theorem fK_10_109 : iFind (iK 10) 109 = some (mX9_touched, 0, 2) := rfl
theorem fK_10_110 : iFind (iK 10) 110 = some (mX8_apply, 0, 2) := rfl
theorem fK_10_113 : iFind (iK 10) 113 = some (mX9_apply, 0, 2) := rfl
theorem fK_10_114 : iFind (iK 10) 114 = some (mX8_sticks, 0, 2) := rfl
theorem fK_10_117 : iFind (iK 10) 117 = some (mX9_sticks, 0, 2) := rfl
theorem fK_10_118 : iFind (iK 10) 118 = some (mX8_invert, 0, 1) := rfl
theorem fK_10_121 : iFind (iK 10) 121 = some (mX9_invert, 0, 1) := rfl
theorem fK_10_122 : iFind (iK 10) 122 = some (mX8_behind, 0, 2) := rfl
theorem fK_10_125 : iFind (iK 10) 125 = some (mX9_behind, 0, 2) := rfl
theorem fK_10_126 : iFind (iK 10) 126 = some (mX8_squeeze, 0, 1) := rfl
theorem fK_10_129 : iFind (iK 10) 129 = some (mX9_squeeze, 0, 1) := rfl
theorem fK_10_130 : iFind (iK 10) 130 = some (mX8_rebase, 0, 2) := rfl
theorem fK_10_133 : iFind (iK 10) 133 = some (mX9_rebase, 0, 2) := rfl
theorem fK_10_134 : iFind (iK 10) 134 = some (mX8_conflict, 0, 3) := rfl
theorem fK_10_137 : iFind (iK 10) 137 = some (mX9_conflict, 0, 3) := rfl
theorem fK_10_138 : iFind (iK 10) 138 = some (mX8_hand, 0, 3) := rfl
theorem fK_10_141 : iFind (iK 10) 141 = some (mX9_hand, 0, 3) := rfl
theorem fK_10_142 : iFind (iK 10) 142 = some (mX8_put, 0, 4) := rfl
theorem fK_10_146 : iFind (iK 10) 146 = some (mX9_put, 0, 4) := rfl
theorem fK_10_147 : iFind (iK 10) 147 = some (mX8_forget, 0, 0) := rfl
theorem fK_10_150 : iFind (iK 10) 150 = some (mX9_forget, 0, 0) := rfl
theorem fK_10_151 : iFind (iK 10) 151 = some (mX8_judge, 0, 3) := rfl
theorem fK_10_154 : iFind (iK 10) 154 = some (mX9_judge, 0, 3) := rfl
theorem fK_10_155 : iFind (iK 10) 155 = some (mX8_days, 0, 2) := rfl
theorem fK_10_158 : iFind (iK 10) 158 = some (mX9_days, 0, 2) := rfl
theorem fK_10_159 : iFind (iK 10) 159 = some (mX8_seed, 0, 1) := rfl
theorem fK_10_162 : iFind (iK 10) 162 = some (mX9_seed, 0, 1) := rfl
theorem fK_10_163 : iFind (iK 10) 163 = some (mX8_image, 0, 0) := rfl
theorem fK_10_166 : iFind (iK 10) 166 = some (mX9_image, 0, 0) := rfl
theorem fK_10_167 : iFind (iK 10) 167 = some (mX8_restore, 0, 0) := rfl
theorem fK_10_170 : iFind (iK 10) 170 = some (mX9_restore, 0, 0) := rfl
theorem fK_10_171 : iFind (iK 10) 171 = some (mX8_status, 0, 1) := rfl
theorem fK_10_174 : iFind (iK 10) 174 = some (mX9_status, 0, 1) := rfl

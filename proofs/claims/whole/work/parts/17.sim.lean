/-! one instruction, whichever; then the whole run -/
section MAIN
variable {g : iG} {l : Launch} {M : iM} {d : Nat} {r : Option Value} {h1 : iHp} {pc : Nat} {L st : List Value} {h : iHp}
theorem iJump_inv {K : Nat → List Value → List Value → iHp → iRes} {off : Int} {st' : List Value} (hex : iJump K pc L h off st' = some (r, h1)) : ∃ t : Nat, (pc : Int) + off = (t : Int) ∧ K t L st' h = some (r, h1) := by
  unfold iJump iTgt at hex
  split at hex
  · rename_i t ht
    split at ht
    · rename_i h0
      cases ht
      exact ⟨_, by omega, hex⟩
    · cases ht
  · cases hex
theorem iIf_inv {K : Nat → List Value → List Value → iHp → iRes} {b : Bool} {off : Int} {st' : List Value} (hex : iIf K pc L h b off st' = some (r, h1)) : ∃ t : Nat, (pc : Int) + off = (t : Int) ∧ (if b = true then K t L st' h else K (pc + 3) L st' h) = some (r, h1) := by
  unfold iIf iTgt at hex
  split at hex
  · rename_i t ht
    split at ht
    · rename_i h0
      cases ht
      exact ⟨_, by omega, hex⟩
    · cases ht
  · cases hex
set_option maxHeartbeats 4000000 in
set_option maxRecDepth 20000 in
theorem iStep {K : Nat → List Value → List Value → iHp → iRes} {CAL : iM → List Value → iHp → iRes} (hk : ∀ (pc : Nat) (L st : List Value) (h : iHp), K pc L st h = some (r, h1) → L.length = M.2.2.1 → iWd g l M d r h1 pc L st h)
    (hc : ∀ (M' : iM) (args : List Value) (h : iHp) (r' : Option Value) (h2 : iHp), CAL M' args h = some (r', h2) → M'.2.2.2.2.1 < 11 → (iInit M'.2.2.1 args).length = M'.2.2.1 → iWd g l M' (iRank M' args) r' h2 0 (iInit M'.2.2.1 args) [] h)
    (hr1 : ∀ (o idx : Nat) (x : iM × Nat × Nat), o < 11 → iFind (iK o) idx = some x → 1 ≤ x.1.2.2.2.2.2.1)
    {i : Instr} {len : Nat} (ho : M.2.2.2.2.1 < 11) (hlen : L.length = M.2.2.1) (hl : iLenOk i len = true) (hd : decode M.2.1 pc = .ok (i, len)) (hex : iStp K CAL M d pc L st h i = some (r, h1)) : iWd g l M d r h1 pc L st h := by
  cases i with
  | iload_n n =>
    have hq : len = 1 := by simpa [iLenOk] using hl
    subst hq
    simp only [iStp] at hex
    split at hex
    · rename_i x e
      exact (hk _ _ _ _ hex hlen).go fun C hI hL _ _ kk => lv_iload_n C.1 C.2.1 hd rfl (hL.2.2 _ _ e rfl) kk
    · cases hex
  | iload n =>
    have hq : len = 2 := by simpa [iLenOk] using hl
    subst hq
    simp only [iStp] at hex
    split at hex
    · rename_i x e
      exact (hk _ _ _ _ hex hlen).go fun C hI hL _ _ kk => lv_iload C.1 C.2.1 hd (hL.2.2 _ _ e rfl) kk
    · cases hex
  | lload_n n =>
    have hq : len = 1 := by simpa [iLenOk] using hl
    subst hq
    simp only [iStp] at hex
    split at hex
    · rename_i x e
      exact (hk _ _ _ _ hex hlen).go fun C hI hL _ _ kk => lv_lload_n C.1 C.2.1 hd rfl (hL.2.2 _ _ e rfl) kk
    · cases hex
  | lload n =>
    have hq : len = 2 := by simpa [iLenOk] using hl
    subst hq
    simp only [iStp] at hex
    split at hex
    · rename_i x e
      exact (hk _ _ _ _ hex hlen).go fun C hI hL _ _ kk => lv_lload C.1 C.2.1 hd (hL.2.2 _ _ e rfl) kk
    · cases hex
  | aload_n n =>
    have hq : len = 1 := by simpa [iLenOk] using hl
    subst hq
    simp only [iStp] at hex
    split at hex
    · rename_i x e
      exact (hk _ _ _ _ hex hlen).go fun C hI hL _ _ kk => lv_aload_n C.1 C.2.1 hd rfl (hL.2.2 _ _ e rfl) kk
    · rename_i e
      exact (hk _ _ _ _ hex hlen).go fun C hI hL _ _ kk => lv_aload_nN C.1 C.2.1 hd rfl (hL.2.2 _ _ e rfl) kk
    · cases hex
  | aload n =>
    have hq : len = 2 := by simpa [iLenOk] using hl
    subst hq
    simp only [iStp] at hex
    split at hex
    · rename_i x e
      exact (hk _ _ _ _ hex hlen).go fun C hI hL _ _ kk => lv_aload C.1 C.2.1 hd (hL.2.2 _ _ e rfl) kk
    · rename_i e
      exact (hk _ _ _ _ hex hlen).go fun C hI hL _ _ kk => lv_aloadN C.1 C.2.1 hd (hL.2.2 _ _ e rfl) kk
    · cases hex
  | istore_n n =>
    have hq : len = 1 := by simpa [iLenOk] using hl
    subst hq
    simp only [iStp] at hex
    split at hex
    · split at hex
      · rename_i hn
        exact (hk _ _ _ _ hex (by rw [iStore_len]; exact hlen)).loc fun C hL kk => lv_istore_n C.1 C.2.1 hd rfl hL.has hn rfl (fun ls' hl' => kk ls' (iLs.store hn hl'))
      · cases hex
    · cases hex
  | istore n =>
    have hq : len = 2 := by simpa [iLenOk] using hl
    subst hq
    simp only [iStp] at hex
    split at hex
    · split at hex
      · rename_i hn
        exact (hk _ _ _ _ hex (by rw [iStore_len]; exact hlen)).loc fun C hL kk => lv_istore C.1 C.2.1 hd hL.has hn rfl (fun ls' hl' => kk ls' (iLs.store hn hl'))
      · cases hex
    · cases hex
  | astore_n n =>
    have hq : len = 1 := by simpa [iLenOk] using hl
    subst hq
    simp only [iStp] at hex
    split at hex
    · split at hex
      · rename_i hn
        exact (hk _ _ _ _ hex (by rw [iStore_len]; exact hlen)).loc fun C hL kk => lv_astore_n C.1 C.2.1 hd rfl hL.has hn rfl (fun ls' hl' => kk ls' (iLs.store hn hl'))
      · cases hex
    · split at hex
      · rename_i hn
        exact (hk _ _ _ _ hex (by rw [iStore_len]; exact hlen)).loc fun C hL kk => lv_astore_nN C.1 C.2.1 hd rfl hL.has hn rfl (fun ls' hl' => kk ls' (iLs.store hn hl'))
      · cases hex
    · cases hex
  | astore n =>
    have hq : len = 2 := by simpa [iLenOk] using hl
    subst hq
    simp only [iStp] at hex
    split at hex
    · split at hex
      · rename_i hn
        exact (hk _ _ _ _ hex (by rw [iStore_len]; exact hlen)).loc fun C hL kk => lv_astore C.1 C.2.1 hd hL.has hn rfl (fun ls' hl' => kk ls' (iLs.store hn hl'))
      · cases hex
    · split at hex
      · rename_i hn
        exact (hk _ _ _ _ hex (by rw [iStore_len]; exact hlen)).loc fun C hL kk => lv_astoreN C.1 C.2.1 hd hL.has hn rfl (fun ls' hl' => kk ls' (iLs.store hn hl'))
      · cases hex
    · cases hex
  | lstore_n n =>
    have hq : len = 1 := by simpa [iLenOk] using hl
    subst hq
    simp only [iStp] at hex
    split at hex
    · split at hex
      · rename_i hn
        exact (hk _ _ _ _ hex (by rw [iStore2_len]; exact hlen)).loc fun C hL kk => lv_lstore_n C.1 C.2.1 hd rfl hL.has hn rfl (fun ls' hl' => kk ls' (iLs.store2 hn hl'))
      · cases hex
    · cases hex
  | lstore n =>
    have hq : len = 2 := by simpa [iLenOk] using hl
    subst hq
    simp only [iStp] at hex
    split at hex
    · split at hex
      · rename_i hn
        exact (hk _ _ _ _ hex (by rw [iStore2_len]; exact hlen)).loc fun C hL kk => lv_lstore C.1 C.2.1 hd hL.has hn rfl (fun ls' hl' => kk ls' (iLs.store2 hn hl'))
      · cases hex
    · cases hex
  | iinc n c =>
    have hq : len = 3 := by simpa [iLenOk] using hl
    subst hq
    simp only [iStp] at hex
    split at hex
    · rename_i x e
      split at hex
      · rename_i hn
        refine (hk _ _ _ _ hex (by rw [iStore_len]; exact hlen)).loc fun C hL kk => ?_
        obtain ⟨j, hj⟩ := List.getElem?_of_mem (iAs_mem.mpr ⟨e, rfl⟩ : (n, Value.int x) ∈ iAs L)
        exact lv_iinc C.1 C.2.1 hd hL.has hj rfl hn rfl (fun ls' hl' => kk ls' (iLs.store hn hl'))
      · cases hex
    · cases hex
  | iconst n =>
    have hq : len = 1 := by simpa [iLenOk] using hl
    subst hq
    simp only [iStp] at hex
    unfold iPush at hex
    exact (hk _ _ _ _ hex hlen).go fun C hI hL _ _ kk => lv_iconst C.1 C.2.1 hd rfl kk
  | bipush n =>
    have hq : len = 2 := by simpa [iLenOk] using hl
    subst hq
    simp only [iStp] at hex
    unfold iPush at hex
    exact (hk _ _ _ _ hex hlen).go fun C hI hL _ _ kk => lv_bipush C.1 C.2.1 hd rfl kk
  | sipush n =>
    have hq : len = 3 := by simpa [iLenOk] using hl
    subst hq
    simp only [iStp] at hex
    unfold iPush at hex
    exact (hk _ _ _ _ hex hlen).go fun C hI hL _ _ kk => lv_sipush C.1 C.2.1 hd rfl kk
  | lconst n =>
    have hq : len = 1 := by simpa [iLenOk] using hl
    subst hq
    simp only [iStp] at hex
    unfold iPush at hex
    exact (hk _ _ _ _ hex hlen).go fun C hI hL _ _ kk => lv_lconst C.1 C.2.1 hd rfl kk
  | aconst_null =>
    have hq : len = 1 := by simpa [iLenOk] using hl
    subst hq
    simp only [iStp] at hex
    unfold iPush at hex
    exact (hk _ _ _ _ hex hlen).go fun C hI hL _ _ kk => lv_null C.1 C.2.1 hd kk
  | ldc idx =>
    have hq : len = 2 := by simpa [iLenOk] using hl
    subst hq
    simp only [iStp] at hex
    split at hex
    · rename_i v e
      unfold iPush at hex
      exact (hk _ _ _ _ hex hlen).go fun C hI hL _ _ kk => lv_ldc C.1 C.2.1 C.2.2.2.2.1 (C.2.2.2.2.2.1 _ (iok (i_k32 e) rfl)) hd kk
    · cases hex
  | ldc_w idx =>
    have hq : len = 3 := by simpa [iLenOk] using hl
    subst hq
    simp only [iStp] at hex
    split at hex
    · rename_i v e
      unfold iPush at hex
      exact (hk _ _ _ _ hex hlen).go fun C hI hL _ _ kk => lv_ldcw C.1 C.2.1 C.2.2.2.2.1 (C.2.2.2.2.2.1 _ (iok (i_k32 e) rfl)) hd kk
    · cases hex
  | ldc2_w idx =>
    have hq : len = 3 := by simpa [iLenOk] using hl
    subst hq
    simp only [iStp] at hex
    split at hex
    · rename_i v e
      unfold iPush at hex
      exact (hk _ _ _ _ hex hlen).go fun C hI hL _ _ kk => lv_ldc2 C.1 C.2.1 C.2.2.2.2.1 (C.2.2.2.2.2.1 _ (iok (i_k64 e) rfl)) hd kk
    · cases hex
  | iadd =>
    have hq : len = 1 := by simpa [iLenOk] using hl
    subst hq
    simp only [iStp] at hex
    split at hex
    · exact (hk _ _ _ _ hex hlen).go fun C hI hL _ _ kk => lv_iadd C.1 C.2.1 hd kk
    · cases hex
  | isub =>
    have hq : len = 1 := by simpa [iLenOk] using hl
    subst hq
    simp only [iStp] at hex
    split at hex
    · exact (hk _ _ _ _ hex hlen).go fun C hI hL _ _ kk => lv_isub C.1 C.2.1 hd kk
    · cases hex
  | imul =>
    have hq : len = 1 := by simpa [iLenOk] using hl
    subst hq
    simp only [iStp] at hex
    split at hex
    · exact (hk _ _ _ _ hex hlen).go fun C hI hL _ _ kk => lv_imul C.1 C.2.1 hd kk
    · cases hex
  | ineg =>
    have hq : len = 1 := by simpa [iLenOk] using hl
    subst hq
    simp only [iStp] at hex
    split at hex
    · exact (hk _ _ _ _ hex hlen).go fun C hI hL _ _ kk => lv_ineg C.1 C.2.1 hd kk
    · cases hex
  | iand =>
    have hq : len = 1 := by simpa [iLenOk] using hl
    subst hq
    simp only [iStp] at hex
    split at hex
    · exact (hk _ _ _ _ hex hlen).go fun C hI hL _ _ kk => lv_iand C.1 C.2.1 hd kk
    · cases hex
  | ior =>
    have hq : len = 1 := by simpa [iLenOk] using hl
    subst hq
    simp only [iStp] at hex
    split at hex
    · exact (hk _ _ _ _ hex hlen).go fun C hI hL _ _ kk => lv_ior C.1 C.2.1 hd kk
    · cases hex
  | ishl =>
    have hq : len = 1 := by simpa [iLenOk] using hl
    subst hq
    simp only [iStp] at hex
    split at hex
    · exact (hk _ _ _ _ hex hlen).go fun C hI hL _ _ kk => lv_ishl C.1 C.2.1 hd kk
    · cases hex
  | iushr =>
    have hq : len = 1 := by simpa [iLenOk] using hl
    subst hq
    simp only [iStp] at hex
    split at hex
    · exact (hk _ _ _ _ hex hlen).go fun C hI hL _ _ kk => lv_iushr C.1 C.2.1 hd rfl kk
    · cases hex
  | ladd =>
    have hq : len = 1 := by simpa [iLenOk] using hl
    subst hq
    simp only [iStp] at hex
    split at hex
    · exact (hk _ _ _ _ hex hlen).go fun C hI hL _ _ kk => lv_ladd C.1 C.2.1 hd kk
    · cases hex
  | land =>
    have hq : len = 1 := by simpa [iLenOk] using hl
    subst hq
    simp only [iStp] at hex
    split at hex
    · exact (hk _ _ _ _ hex hlen).go fun C hI hL _ _ kk => lv_land C.1 C.2.1 hd kk
    · cases hex
  | lor =>
    have hq : len = 1 := by simpa [iLenOk] using hl
    subst hq
    simp only [iStp] at hex
    split at hex
    · exact (hk _ _ _ _ hex hlen).go fun C hI hL _ _ kk => lv_lor C.1 C.2.1 hd kk
    · cases hex
  | lshl =>
    have hq : len = 1 := by simpa [iLenOk] using hl
    subst hq
    simp only [iStp] at hex
    split at hex
    · exact (hk _ _ _ _ hex hlen).go fun C hI hL _ _ kk => lv_lshl C.1 C.2.1 hd rfl kk
    · cases hex
  | lshr =>
    have hq : len = 1 := by simpa [iLenOk] using hl
    subst hq
    simp only [iStp] at hex
    split at hex
    · exact (hk _ _ _ _ hex hlen).go fun C hI hL _ _ kk => lv_lshr C.1 C.2.1 hd rfl kk
    · cases hex
  | lcmp =>
    have hq : len = 1 := by simpa [iLenOk] using hl
    subst hq
    simp only [iStp] at hex
    split at hex
    · exact (hk _ _ _ _ hex hlen).go fun C hI hL _ _ kk => W.lcmp C.1 C.2.1 hd kk
    · cases hex
  | i2l =>
    have hq : len = 1 := by simpa [iLenOk] using hl
    subst hq
    simp only [iStp] at hex
    split at hex
    · exact (hk _ _ _ _ hex hlen).go fun C hI hL _ _ kk => lv_i2l C.1 C.2.1 hd rfl kk
    · cases hex
  | l2i =>
    have hq : len = 1 := by simpa [iLenOk] using hl
    subst hq
    simp only [iStp] at hex
    split at hex
    · exact (hk _ _ _ _ hex hlen).go fun C hI hL _ _ kk => lv_l2i C.1 C.2.1 hd rfl kk
    · cases hex
  | i2b =>
    have hq : len = 1 := by simpa [iLenOk] using hl
    subst hq
    simp only [iStp] at hex
    split at hex
    · exact (hk _ _ _ _ hex hlen).go fun C hI hL _ _ kk => lv_i2b C.1 C.2.1 hd rfl kk
    · cases hex
  | i2s =>
    have hq : len = 1 := by simpa [iLenOk] using hl
    subst hq
    simp only [iStp] at hex
    split at hex
    · exact (hk _ _ _ _ hex hlen).go fun C hI hL _ _ kk => lv_i2s C.1 C.2.1 hd rfl kk
    · cases hex
  | idiv =>
    have hq : len = 1 := by simpa [iLenOk] using hl
    subst hq
    simp only [iStp] at hex
    split at hex
    · split at hex
      · cases hex
      · rename_i hz
        exact (hk _ _ _ _ hex hlen).go fun C hI hL _ _ kk => lv_idiv C.1 C.2.1 hd hz kk
    · cases hex
  | irem =>
    have hq : len = 1 := by simpa [iLenOk] using hl
    subst hq
    simp only [iStp] at hex
    split at hex
    · split at hex
      · cases hex
      · rename_i hz
        exact (hk _ _ _ _ hex hlen).go fun C hI hL _ _ kk => lv_irem C.1 C.2.1 hd hz kk
    · cases hex
  | dup =>
    have hq : len = 1 := by simpa [iLenOk] using hl
    subst hq
    simp only [iStp] at hex
    split at hex
    · split at hex
      · rename_i hz
        exact (hk _ _ _ _ hex hlen).go fun C hI hL _ _ kk => lv_dup C.1 C.2.1 hd hz kk
      · cases hex
    · cases hex
  | pop =>
    have hq : len = 1 := by simpa [iLenOk] using hl
    subst hq
    simp only [iStp] at hex
    split at hex
    · split at hex
      · rename_i hz
        exact (hk _ _ _ _ hex hlen).go fun C hI hL _ _ kk => lv_pop C.1 C.2.1 hd hz kk
      · cases hex
    · cases hex
  | dup_x1 =>
    have hq : len = 1 := by simpa [iLenOk] using hl
    subst hq
    simp only [iStp] at hex
    split at hex
    · split at hex
      · rename_i hz
        exact (hk _ _ _ _ hex hlen).go fun C hI hL _ _ kk => lv_dup_x1 C.1 C.2.1 hd hz.1 hz.2 kk
      · cases hex
    · cases hex
  | dup2 =>
    have hq : len = 1 := by simpa [iLenOk] using hl
    subst hq
    simp only [iStp] at hex
    split at hex
    · split at hex
      · rename_i hz
        exact (hk _ _ _ _ hex hlen).go fun C hI hL _ _ kk => lv_dup2_11 C.1 C.2.1 hd hz.1 hz.2 kk
      · cases hex
    · cases hex
  | goto off =>
    have hq : len = 3 := by simpa [iLenOk] using hl
    subst hq
    simp only [iStp] at hex
    obtain ⟨t, ht, hex⟩ := iJump_inv hex
    exact (hk _ _ _ _ hex hlen).go fun C hI hL _ _ kk => lv_goto C.1 C.2.1 hd ht kk
  | if_icmp c off =>
    have hq : len = 3 := by simpa [iLenOk] using hl
    subst hq
    simp only [iStp] at hex
    split at hex
    · rename_i y x rest
      obtain ⟨t, ht, hex⟩ := iIf_inv hex
      cases c with
      | eq =>
        by_cases hz : x = y
        · rw [if_pos (by simp [iCmp, hz])] at hex
          exact (hk _ _ _ _ hex hlen).go fun C hI hL _ _ kk => lv_icmp_eq C.1 C.2.1 hd ht (fun _ => kk) (fun q => absurd hz q)
        · rw [if_neg (by simpa [iCmp] using hz)] at hex
          exact (hk _ _ _ _ hex hlen).go fun C hI hL _ _ kk => lv_icmp_eq C.1 C.2.1 hd ht (fun q => absurd q hz) (fun _ => kk)
      | ne =>
        by_cases hz : x = y
        · rw [if_neg (by simp [iCmp, hz])] at hex
          exact (hk _ _ _ _ hex hlen).go fun C hI hL _ _ kk => lv_icmp_ne C.1 C.2.1 hd ht (fun q => absurd hz q) (fun _ => kk)
        · rw [if_pos (by simp [iCmp, hz])] at hex
          exact (hk _ _ _ _ hex hlen).go fun C hI hL _ _ kk => lv_icmp_ne C.1 C.2.1 hd ht (fun _ => kk) (fun q => absurd q hz)
      | lt =>
        by_cases hz : x < y
        · rw [if_pos (by simp [iCmp, hz])] at hex
          exact (hk _ _ _ _ hex hlen).go fun C hI hL _ _ kk => lv_icmp_lt C.1 C.2.1 hd ht (fun _ => kk) (fun q => absurd hz q)
        · rw [if_neg (by simpa [iCmp] using hz)] at hex
          exact (hk _ _ _ _ hex hlen).go fun C hI hL _ _ kk => lv_icmp_lt C.1 C.2.1 hd ht (fun q => absurd q hz) (fun _ => kk)
      | ge =>
        by_cases hz : y ≤ x
        · rw [if_pos (by simp [iCmp, hz])] at hex
          exact (hk _ _ _ _ hex hlen).go fun C hI hL _ _ kk => lv_icmp_ge C.1 C.2.1 hd ht (fun _ => kk) (fun q => absurd hz q)
        · rw [if_neg (by simpa [iCmp] using hz)] at hex
          exact (hk _ _ _ _ hex hlen).go fun C hI hL _ _ kk => lv_icmp_ge C.1 C.2.1 hd ht (fun q => absurd q hz) (fun _ => kk)
      | gt =>
        by_cases hz : y < x
        · rw [if_pos (by simp [iCmp, hz])] at hex
          exact (hk _ _ _ _ hex hlen).go fun C hI hL _ _ kk => lv_icmp_gt C.1 C.2.1 hd ht (fun _ => kk) (fun q => absurd hz q)
        · rw [if_neg (by simpa [iCmp] using hz)] at hex
          exact (hk _ _ _ _ hex hlen).go fun C hI hL _ _ kk => lv_icmp_gt C.1 C.2.1 hd ht (fun q => absurd q hz) (fun _ => kk)
      | le =>
        by_cases hz : x ≤ y
        · rw [if_pos (by simp [iCmp, hz])] at hex
          exact (hk _ _ _ _ hex hlen).go fun C hI hL _ _ kk => lv_icmp_le C.1 C.2.1 hd ht (fun _ => kk) (fun q => absurd hz q)
        · rw [if_neg (by simpa [iCmp] using hz)] at hex
          exact (hk _ _ _ _ hex hlen).go fun C hI hL _ _ kk => lv_icmp_le C.1 C.2.1 hd ht (fun q => absurd q hz) (fun _ => kk)
    · cases hex
  | ifCond c off =>
    have hq : len = 3 := by simpa [iLenOk] using hl
    subst hq
    simp only [iStp] at hex
    split at hex
    · rename_i x rest
      obtain ⟨t, ht, hex⟩ := iIf_inv hex
      cases c with
      | eq =>
        by_cases hz : x = 0
        · rw [if_pos (by simp [iCmp, hz])] at hex
          exact (hk _ _ _ _ hex hlen).go fun C hI hL _ _ kk => lv_if_eq C.1 C.2.1 hd ht (fun _ => kk) (fun q => absurd hz q)
        · rw [if_neg (by simpa [iCmp] using hz)] at hex
          exact (hk _ _ _ _ hex hlen).go fun C hI hL _ _ kk => lv_if_eq C.1 C.2.1 hd ht (fun q => absurd q hz) (fun _ => kk)
      | ne =>
        by_cases hz : x = 0
        · rw [if_neg (by simp [iCmp, hz])] at hex
          exact (hk _ _ _ _ hex hlen).go fun C hI hL _ _ kk => lv_if_ne C.1 C.2.1 hd ht (fun q => absurd hz q) (fun _ => kk)
        · rw [if_pos (by simp [iCmp, hz])] at hex
          exact (hk _ _ _ _ hex hlen).go fun C hI hL _ _ kk => lv_if_ne C.1 C.2.1 hd ht (fun _ => kk) (fun q => absurd q hz)
      | lt =>
        by_cases hz : x < 0
        · rw [if_pos (by simp [iCmp, hz])] at hex
          exact (hk _ _ _ _ hex hlen).go fun C hI hL _ _ kk => lv_if_lt C.1 C.2.1 hd ht (fun _ => kk) (fun q => absurd hz q)
        · rw [if_neg (by simpa [iCmp] using hz)] at hex
          exact (hk _ _ _ _ hex hlen).go fun C hI hL _ _ kk => lv_if_lt C.1 C.2.1 hd ht (fun q => absurd q hz) (fun _ => kk)
      | ge =>
        by_cases hz : 0 ≤ x
        · rw [if_pos (by simp [iCmp, hz])] at hex
          exact (hk _ _ _ _ hex hlen).go fun C hI hL _ _ kk => lv_if_ge C.1 C.2.1 hd ht (fun _ => kk) (fun q => absurd hz q)
        · rw [if_neg (by simpa [iCmp] using hz)] at hex
          exact (hk _ _ _ _ hex hlen).go fun C hI hL _ _ kk => lv_if_ge C.1 C.2.1 hd ht (fun q => absurd q hz) (fun _ => kk)
      | gt =>
        by_cases hz : 0 < x
        · rw [if_pos (by simp [iCmp, hz])] at hex
          exact (hk _ _ _ _ hex hlen).go fun C hI hL _ _ kk => lv_if_gt C.1 C.2.1 hd ht (fun _ => kk) (fun q => absurd hz q)
        · rw [if_neg (by simpa [iCmp] using hz)] at hex
          exact (hk _ _ _ _ hex hlen).go fun C hI hL _ _ kk => lv_if_gt C.1 C.2.1 hd ht (fun q => absurd q hz) (fun _ => kk)
      | le =>
        by_cases hz : x ≤ 0
        · rw [if_pos (by simp [iCmp, hz])] at hex
          exact (hk _ _ _ _ hex hlen).go fun C hI hL _ _ kk => lv_if_le C.1 C.2.1 hd ht (fun _ => kk) (fun q => absurd hz q)
        · rw [if_neg (by simpa [iCmp] using hz)] at hex
          exact (hk _ _ _ _ hex hlen).go fun C hI hL _ _ kk => lv_if_le C.1 C.2.1 hd ht (fun q => absurd q hz) (fun _ => kk)
    · cases hex
  | ifnull off =>
    have hq : len = 3 := by simpa [iLenOk] using hl
    subst hq
    simp only [iStp] at hex
    split at hex
    · exact (hk _ _ _ _ hex hlen).go fun C hI hL _ _ kk => lv_ifnull C.1 C.2.1 hd kk
    · obtain ⟨t, ht, hex⟩ := iJump_inv hex
      exact (hk _ _ _ _ hex hlen).go fun C hI hL _ _ kk => lv_ifnullN C.1 C.2.1 hd ht kk
    · cases hex
  | ifnonnull off =>
    have hq : len = 3 := by simpa [iLenOk] using hl
    subst hq
    simp only [iStp] at hex
    split at hex
    · obtain ⟨t, ht, hex⟩ := iJump_inv hex
      exact (hk _ _ _ _ hex hlen).go fun C hI hL _ _ kk => lv_ifnonnull C.1 C.2.1 hd ht kk
    · exact (hk _ _ _ _ hex hlen).go fun C hI hL _ _ kk => lv_ifnonnullN C.1 C.2.1 hd kk
    · cases hex
  | tableswitch dflt lo hi offs =>
    simp only [iStp] at hex
    split at hex
    · split at hex
      · rename_i hz
        obtain ⟨t, ht, hex⟩ := iJump_inv hex
        exact (hk _ _ _ _ hex hlen).go fun C hI hL _ _ kk => lv_tableOut C.1 C.2.1 hd hz ht kk
      · rename_i hz
        split at hex
        · rename_i off e
          obtain ⟨t, ht, hex⟩ := iJump_inv hex
          exact (hk _ _ _ _ hex hlen).go fun C hI hL _ _ kk => lv_tableIn C.1 C.2.1 hd (fun q => hz (Or.inl q)) (fun q => hz (Or.inr q)) e ht kk
        · cases hex
    · cases hex
  | lookupswitch dflt ps =>
    simp only [iStp] at hex
    split at hex
    · split at hex
      · rename_i hz
        obtain ⟨t, ht, hex⟩ := iJump_inv hex
        exact (hk _ _ _ _ hex hlen).go fun C hI hL _ _ kk => lv_lookup C.1 C.2.1 hd hz rfl ht kk
      · cases hex
    · cases hex
  | getfield idx =>
    have hq : len = 3 := by simpa [iLenOk] using hl
    subst hq
    simp only [iStp] at hex
    unfold iLdF at hex
    split at hex
    · split at hex
      · rename_i e
        split at hex
        · rename_i e2
          exact st_getf ho hd e e2 (hk _ _ _ _ hex hlen)
        · cases hex
      · cases hex
    · cases hex
  | putfield idx =>
    have hq : len = 3 := by simpa [iLenOk] using hl
    subst hq
    simp only [iStp] at hex
    unfold iStF at hex
    split at hex
    · split at hex
      · rename_i e
        split at hex
        · rename_i hz
          split at hex
          · rename_i e2
            exact st_putf ho hd e hz.1 hz.2 e2 (hk _ _ _ _ hex hlen)
          · cases hex
        · cases hex
      · cases hex
    · cases hex
  | iaload =>
    have hq : len = 1 := by simpa [iLenOk] using hl
    subst hq
    simp only [iStp] at hex
    split at hex
    · split at hex
      · rename_i e
        exact st_iald hd e (hk _ _ _ _ hex hlen)
      · cases hex
    · cases hex
  | baload =>
    have hq : len = 1 := by simpa [iLenOk] using hl
    subst hq
    simp only [iStp] at hex
    split at hex
    · split at hex
      · rename_i e
        exact st_bald hd e (hk _ _ _ _ hex hlen)
      · cases hex
    · cases hex
  | laload =>
    have hq : len = 1 := by simpa [iLenOk] using hl
    subst hq
    simp only [iStp] at hex
    split at hex
    · split at hex
      · rename_i e
        exact st_lald hd e (hk _ _ _ _ hex hlen)
      · cases hex
    · cases hex
  | aaload =>
    have hq : len = 1 := by simpa [iLenOk] using hl
    subst hq
    simp only [iStp] at hex
    split at hex
    · split at hex
      · rename_i e
        exact st_aald hd e (hk _ _ _ _ hex hlen)
      · cases hex
    · cases hex
  | iastore =>
    have hq : len = 1 := by simpa [iLenOk] using hl
    subst hq
    simp only [iStp] at hex
    split at hex
    · split at hex
      · rename_i e
        exact st_iast hd e (hk _ _ _ _ hex hlen)
      · cases hex
    · cases hex
  | bastore =>
    have hq : len = 1 := by simpa [iLenOk] using hl
    subst hq
    simp only [iStp] at hex
    split at hex
    · split at hex
      · rename_i e
        exact st_bast hd e (hk _ _ _ _ hex hlen)
      · cases hex
    · cases hex
  | lastore =>
    have hq : len = 1 := by simpa [iLenOk] using hl
    subst hq
    simp only [iStp] at hex
    split at hex
    · split at hex
      · rename_i e
        exact st_last hd e (hk _ _ _ _ hex hlen)
      · cases hex
    · cases hex
  | arraylength =>
    have hq : len = 1 := by simpa [iLenOk] using hl
    subst hq
    simp only [iStp] at hex
    split at hex
    · split at hex
      · rename_i e
        exact st_alen hd e (hk _ _ _ _ hex hlen)
      · cases hex
    · cases hex
  | aastore =>
    have hq : len = 1 := by simpa [iLenOk] using hl
    subst hq
    simp only [iStp] at hex
    split at hex
    · split at hex
      · rename_i e
        exact st_aast hd e (hk _ _ _ _ hex hlen)
      · cases hex
    · split at hex
      · rename_i e
        exact st_aastN hd e (hk _ _ _ _ hex hlen)
      · cases hex
    · cases hex
  | new idx =>
    have hq : len = 3 := by simpa [iLenOk] using hl
    subst hq
    simp only [iStp] at hex
    split at hex
    · rename_i e
      exact st_new ho hd e (hk _ _ _ _ hex hlen)
    · cases hex
  | newarray ty =>
    have hq : len = 2 := by simpa [iLenOk] using hl
    subst hq
    simp only [iStp] at hex
    split at hex
    · split at hex
      · rename_i e
        exact st_newa hd e (hk _ _ _ _ hex hlen)
      · cases hex
    · cases hex
  | anewarray idx =>
    have hq : len = 3 := by simpa [iLenOk] using hl
    subst hq
    simp only [iStp] at hex
    split at hex
    · split at hex
      · rename_i e
        split at hex
        · rename_i e2
          exact st_newq ho hd e e2 (hk _ _ _ _ hex hlen)
        · cases hex
      · cases hex
    · cases hex
  | invokevirtual idx =>
    have hq : len = 3 := by simpa [iLenOk] using hl
    subst hq
    simp only [iStp] at hex
    unfold iInvV at hex
    split at hex
    · rename_i M' n hf
      split at hex
      · rename_i b rest hdr
        split at hex
        · rename_i hz0
          unfold iCall at hex
          split at hex
          · rename_i hz
            split at hex
            · rename_i r' h2 ec
              exact st_callV ho hlen hd hf hdr hz0.1 hz0.2 hz.1 (iRank1 (hr1 _ _ _ ho hf) _) hz.2.1 hz.2.2 (hc _ _ _ _ _ ec (by have := (i_kl ho hf).1.2.2.2.2.2.2; dsimp only at this; omega) hz.2.2) (hk _ _ _ _ hex hlen)
            · cases hex
          · cases hex
        · cases hex
      · cases hex
    · cases hex
  | invokestatic idx =>
    have hq : len = 3 := by simpa [iLenOk] using hl
    subst hq
    simp only [iStp] at hex
    unfold iInvS at hex
    split at hex
    · rename_i M' n hf
      split at hex
      · rename_i hz0
        · unfold iCall at hex
          split at hex
          · rename_i hz
            split at hex
            · rename_i r' h2 ec
              exact st_callS ho hlen hd hf rfl hz0 hz.1 (iRank1 (hr1 _ _ _ ho hf) _) hz.2.1 hz.2.2 (hc _ _ _ _ _ ec (by have := (i_kl ho hf).1.2.2.2.2.2.2; dsimp only at this; omega) hz.2.2) (hk _ _ _ _ hex hlen)
            · cases hex
          · cases hex
      · cases hex
    · rename_i M' n hf
      split at hex
      · rename_i hz0
        · unfold iCall at hex
          split at hex
          · rename_i hz
            split at hex
            · rename_i r' h2 ec
              exact st_callSN ho hlen hd hf rfl hz0 hz.1 (iRank1 (hr1 _ _ _ ho hf) _) hz.2.1 hz.2.2 (hc _ _ _ _ _ ec (by have := (i_kl ho hf).1.2.2.2.2.2.2; dsimp only at this; omega) hz.2.2) (hk _ _ _ _ hex hlen)
            · cases hex
          · cases hex
      · cases hex
    · cases hex
    · split at hex
      · cases hex
      · rename_i h0
        split at hex
        · rename_i hi
          split at hex
          · split at hex
            · rename_i hs
              split at hex
              · rename_i e
                exact st_cpy ho hlen hs h0 hi hd e (hk _ _ _ _ hex hlen)
              · cases hex
            · cases hex
          · cases hex
        · split at hex
          · rename_i hi
            split at hex
            · split at hex
              · rename_i hs
                exact st_max ho hlen hs h0 hi hd (hk _ _ _ _ hex hlen)
              · cases hex
            · cases hex
          · split at hex
            · rename_i hi
              split at hex
              · split at hex
                · rename_i hs
                  exact st_min ho hlen hs h0 hi hd (hk _ _ _ _ hex hlen)
                · cases hex
              · cases hex
            · cases hex
  | invokespecial idx =>
    have hq : len = 3 := by simpa [iLenOk] using hl
    subst hq
    simp only [iStp] at hex
    unfold iInvI at hex
    split at hex
    · rename_i M' n hf
      split at hex
      · rename_i b rest hdr
        split at hex
        · rename_i hz0
          unfold iCall at hex
          split at hex
          · rename_i hz
            split at hex
            · rename_i r' h2 ec
              exact st_callI ho hlen hd hf hdr hz0 hz.1 (iRank1 (hr1 _ _ _ ho hf) _) hz.2.1 hz.2.2 (hc _ _ _ _ _ ec (by have := (i_kl ho hf).1.2.2.2.2.2.2; dsimp only at this; omega) hz.2.2) (hk _ _ _ _ hex hlen)
            · cases hex
          · cases hex
        · cases hex
      · cases hex
    · rename_i M' n hf
      split at hex
      · rename_i b rest hdr
        split at hex
        · rename_i hz0
          unfold iCall at hex
          split at hex
          · rename_i hz
            split at hex
            · rename_i r' h2 ec
              exact st_callIN ho hlen hd hf hdr hz0 hz.1 (iRank1 (hr1 _ _ _ ho hf) _) hz.2.1 hz.2.2 (hc _ _ _ _ _ ec (by have := (i_kl ho hf).1.2.2.2.2.2.2; dsimp only at this; omega) hz.2.2) (hk _ _ _ _ hex hlen)
            · cases hex
          · cases hex
        · cases hex
      · cases hex
    · cases hex
    · split at hex
      · cases hex
      · rename_i h0
        split at hex
        · rename_i hi
          split at hex
          · split at hex
            · rename_i hs
              exact st_obj ho hlen hs h0 hi hd (hk _ _ _ _ hex hlen)
            · cases hex
          · cases hex
        · cases hex
  | ireturn =>
    have hq : len = 1 := by simpa [iLenOk] using hl
    subst hq
    simp only [iStp] at hex
    split at hex
    · rename_i x
      split at hex
      · rename_i hz
        cases hex
        refine iWd.ret fun C hq hf => ?_
        unfold iBool at hz
        split at hz
        · rename_i e
          exact W.iret C.1 C.2.1 (C.2.2.2.1.trans e) hq hf hd C.2.2.2.2.2.2.1
        · rename_i e
          refine W.zret (ty := .boolean) C.1 C.2.1 (C.2.2.2.1.trans e) ?_ hq hf hd C.2.2.2.2.2.2.1
          simp only [Bool.or_eq_true, beq_iff_eq] at hz
          rcases hz with rfl | rfl <;> rfl
        · cases hz
      · cases hex
    · cases hex
  | lreturn =>
    have hq : len = 1 := by simpa [iLenOk] using hl
    subst hq
    simp only [iStp] at hex
    split at hex
    · split at hex
      · rename_i hz
        cases hex
        exact iWd.ret fun C hq hf => W.lret C.1 C.2.1 (C.2.2.2.1.trans hz) hq hf hd C.2.2.2.2.2.2.1
      · cases hex
    · cases hex
  | areturn =>
    have hq : len = 1 := by simpa [iLenOk] using hl
    subst hq
    simp only [iStp] at hex
    split at hex
    · rename_i e
      cases hex
      exact iWd.ret fun C hq hf => W.aret C.1 C.2.1 (C.2.2.2.1.trans e) (Or.inl ⟨_, rfl⟩) (Or.inr ⟨_, rfl⟩) hq hf hd C.2.2.2.2.2.2.1
    · rename_i e
      cases hex
      exact iWd.ret fun C hq hf => W.aret C.1 C.2.1 (C.2.2.2.1.trans e) (Or.inl ⟨_, rfl⟩) (Or.inl rfl) hq hf hd C.2.2.2.2.2.2.1
    · rename_i e
      cases hex
      exact iWd.ret fun C hq hf => W.aret C.1 C.2.1 (C.2.2.2.1.trans e) (Or.inr ⟨_, rfl⟩) (Or.inr ⟨_, rfl⟩) hq hf hd C.2.2.2.2.2.2.1
    · cases hex
  | return_ =>
    have hq : len = 1 := by simpa [iLenOk] using hl
    subst hq
    simp only [iStp] at hex
    split at hex
    · rename_i e
      cases hex
      exact iWd.ret fun C hq hf => W.vret C.1 C.2.1 (C.2.2.2.1.trans e) hq hf hd C.2.2.2.2.2.2.1
    · cases hex
  | _ => exact nomatch (show (none : iRes) = some (r, h1) from hex)
theorem i_rank1 : ∀ (o idx : Nat) (x : iM × Nat × Nat), o < 11 → iFind (iK o) idx = some x → 1 ≤ x.1.2.2.2.2.2.1 := by
  intro o idx x ho hf
  have h : ∀ o, o < 11 → ∀ e ∈ iK o, 1 ≤ e.2.1.2.2.2.2.2.1 := i_lt11 (P := fun o => ∀ e ∈ iK o, 1 ≤ e.2.1.2.2.2.2.2.1) (i_lt10 (by decide) (by decide) (by decide) (by decide) (by decide) (by decide) (by decide) (by decide) (by decide) (by decide)) (by decide)
  exact h o ho _ (iFind_mem hf)
/-- THE WHOLE RUN: what iExec says, the machine does -/
theorem iSim (g : iG) (l : Launch) : ∀ (n d : Nat) (M : iM) (pc : Nat) (L st : List Value) (h : iHp) (r : Option Value) (h1 : iHp), iExec n d M pc L st h = some (r, h1) → M.2.2.2.2.1 < 11 → L.length = M.2.2.1 → iWd g l M d r h1 pc L st h := by
  intro n
  induction n with
  | zero => intro d M pc L st h r h1 hex; cases hex
  | succ n ih =>
    intro d M pc L st h r h1 hex ho hlen
    unfold iExec at hex
    split at hex
    · rename_i i len hd
      split at hex
      · rename_i hl
        exact iStep (fun pc L st h hx hl => ih d M pc L st h r h1 hx ho hl) (fun M' args h r' h2 hx ho' hl' => ih _ M' 0 _ [] h r' h2 hx ho' hl') i_rank1 ho hlen hl hd hex
      · cases hex
    · cases hex
end MAIN

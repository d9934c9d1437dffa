section XS
variable {d : Nat} {a0 a1 a2 a3 a4 a5 a6 a7 a8 a9 a10 a11 a12 a13 b0 b1 b2 b3 rw : Value} {x y z x0 x1 x2 x3 x4 x5 x6 r0 r1 r2 r3 r4 r5 r6 rv : Int32} {u v u0 u1 u2 s0 s1 rl : Int64} {p q t0 t1 t2 t3 t4 t5 t6 : Nat} {b : Bool} {st : List Value} {h h2 : iHp} {Q : Option Value → iHp → Prop}

theorem X3_changeUntilMisfit_0 : iWp d mX3_changeUntilMisfit 0 [a0, a1, a2, a3] st h Q = iWp d mX3_changeUntilMisfit 1 [a0, a1, a2, a3] (.int 0 :: st) h Q := w_iconst dX3_changeUntilMisfit_0 rfl
theorem X3_changeUntilMisfit_1 : iWp d mX3_changeUntilMisfit 1 [a0, a1, a2, a3] (.int x :: st) h Q = iWp d mX3_changeUntilMisfit 2 [a0, iClr a1, .int x, a3] st h Q := w_istore_n dX3_changeUntilMisfit_1 (Nat.le_of_ble_eq_true rfl) rfl
theorem X3_changeUntilMisfit_2 : iWp d mX3_changeUntilMisfit 2 [a0, a1, .int x, a3] st h Q = iWp d mX3_changeUntilMisfit 3 [a0, a1, .int x, a3] (.int x :: st) h Q := w_iload_n dX3_changeUntilMisfit_2 rfl
theorem X3_changeUntilMisfit_3 : iWp d mX3_changeUntilMisfit 3 [.ref p, a1, a2, a3] st h Q = iWp d mX3_changeUntilMisfit 4 [.ref p, a1, a2, a3] (.ref p :: st) h Q := w_aload_n dX3_changeUntilMisfit_3 rfl
theorem X3_changeUntilMisfit_4 : iWp d mX3_changeUntilMisfit 4 [a0, a1, a2, a3] (.ref p :: st) h Q = iOb (iGet h p 3 1) (fun v => iWp d mX3_changeUntilMisfit 7 [a0, a1, a2, a3] (v :: st) h Q) := w_getf dX3_changeUntilMisfit_4 fF_3_15
theorem X3_changeUntilMisfit_7 : iWp d mX3_changeUntilMisfit 7 [a0, a1, a2, a3] (.ref p :: st) h Q = iOb (iLen h p) (fun v => iWp d mX3_changeUntilMisfit 8 [a0, a1, a2, a3] (.int v :: st) h Q) := w_alen dX3_changeUntilMisfit_7
theorem X3_changeUntilMisfit_8 : iWp d mX3_changeUntilMisfit 8 [a0, a1, a2, a3] (.int y :: .int x :: st) h Q = if y ≤ x then iWp d mX3_changeUntilMisfit 43 [a0, a1, a2, a3] st h Q else iWp d mX3_changeUntilMisfit 11 [a0, a1, a2, a3] st h Q := w_icmp_ge dX3_changeUntilMisfit_8 rfl
theorem X3_changeUntilMisfit_11 : iWp d mX3_changeUntilMisfit 11 [.ref p, a1, a2, a3] st h Q = iWp d mX3_changeUntilMisfit 12 [.ref p, a1, a2, a3] (.ref p :: st) h Q := w_aload_n dX3_changeUntilMisfit_11 rfl
theorem X3_changeUntilMisfit_12 : iWp d mX3_changeUntilMisfit 12 [a0, a1, a2, a3] (.ref p :: st) h Q = iOb (iGet h p 3 1) (fun v => iWp d mX3_changeUntilMisfit 15 [a0, a1, a2, a3] (v :: st) h Q) := w_getf dX3_changeUntilMisfit_12 fF_3_15
theorem X3_changeUntilMisfit_15 : iWp d mX3_changeUntilMisfit 15 [a0, a1, .int x, a3] st h Q = iWp d mX3_changeUntilMisfit 16 [a0, a1, .int x, a3] (.int x :: st) h Q := w_iload_n dX3_changeUntilMisfit_15 rfl
theorem X3_changeUntilMisfit_16 : iWp d mX3_changeUntilMisfit 16 [a0, a1, a2, a3] (.int x :: .ref p :: st) h Q = iOb (iLdQ h p x) (fun v => iWp d mX3_changeUntilMisfit 17 [a0, a1, a2, a3] (va_rf v :: st) h Q) := w_aaload dX3_changeUntilMisfit_16
theorem X3_changeUntilMisfit_17 : iWp d mX3_changeUntilMisfit 17 [a0, a1, a2, a3] (.ref p :: st) h Q = iWp d mX3_changeUntilMisfit 18 [a0, a1, iClr a2, .ref p] st h Q := w_astore_n dX3_changeUntilMisfit_17 (Nat.le_of_ble_eq_true rfl) rfl
theorem X3_changeUntilMisfit_17n : iWp d mX3_changeUntilMisfit 17 [a0, a1, a2, a3] (.null :: st) h Q = iWp d mX3_changeUntilMisfit 18 [a0, a1, iClr a2, .null] st h Q := w_astore_nN dX3_changeUntilMisfit_17 (Nat.le_of_ble_eq_true rfl) rfl
theorem X3_changeUntilMisfit_18 : iWp d mX3_changeUntilMisfit 18 [a0, a1, a2, .ref p] st h Q = iWp d mX3_changeUntilMisfit 19 [a0, a1, a2, .ref p] (.ref p :: st) h Q := w_aload_n dX3_changeUntilMisfit_18 rfl
theorem X3_changeUntilMisfit_18n : iWp d mX3_changeUntilMisfit 18 [a0, a1, a2, .null] st h Q = iWp d mX3_changeUntilMisfit 19 [a0, a1, a2, .null] (.null :: st) h Q := w_aload_nN dX3_changeUntilMisfit_18 rfl
theorem X3_changeUntilMisfit_19 : iWp d mX3_changeUntilMisfit 19 [a0, a1, a2, a3] (.ref p :: st) h Q = iWp d mX3_changeUntilMisfit 22 [a0, a1, a2, a3] st h Q := w_ifnull dX3_changeUntilMisfit_19
theorem X3_changeUntilMisfit_19n : iWp d mX3_changeUntilMisfit 19 [a0, a1, a2, a3] (.null :: st) h Q = iWp d mX3_changeUntilMisfit 30 [a0, a1, a2, a3] st h Q := w_ifnullN dX3_changeUntilMisfit_19 rfl
theorem X3_changeUntilMisfit_22 : iWp d mX3_changeUntilMisfit 22 [a0, a1, a2, .ref p] st h Q = iWp d mX3_changeUntilMisfit 23 [a0, a1, a2, .ref p] (.ref p :: st) h Q := w_aload_n dX3_changeUntilMisfit_22 rfl
theorem X3_changeUntilMisfit_22n : iWp d mX3_changeUntilMisfit 22 [a0, a1, a2, .null] st h Q = iWp d mX3_changeUntilMisfit 23 [a0, a1, a2, .null] (.null :: st) h Q := w_aload_nN dX3_changeUntilMisfit_22 rfl
theorem X3_changeUntilMisfit_23 : iWp d mX3_changeUntilMisfit 23 [a0, .ref p, a2, a3] st h Q = iWp d mX3_changeUntilMisfit 24 [a0, .ref p, a2, a3] (.ref p :: st) h Q := w_aload_n dX3_changeUntilMisfit_23 rfl
theorem X3_changeUntilMisfit_23n : iWp d mX3_changeUntilMisfit 23 [a0, .null, a2, a3] st h Q = iWp d mX3_changeUntilMisfit 24 [a0, .null, a2, a3] (.null :: st) h Q := w_aload_nN dX3_changeUntilMisfit_23 rfl
theorem X3_changeUntilMisfit_24 (he : iEv mX2_fits [.ref p, b0] h (some (.int rv)) h2) (ho : iObj h p 2 = true) (c0 : b0.category = 1) : iWp 6 mX3_changeUntilMisfit 24 [a0, a1, a2, a3] [b0, .ref p] h Q = iWp 6 mX3_changeUntilMisfit 27 [a0, a1, a2, a3] [.int rv] h2 Q := iWp_cV dX3_changeUntilMisfit_24 fK_3_51 rfl rfl ho (Nat.le_of_ble_eq_true rfl) (Nat.le_of_ble_eq_true rfl) (by simp [iInit, cat_i, cat_r, cat_l, mX2_fits, c0]) (Nat.le_of_ble_eq_true rfl) he rfl
theorem X3_changeUntilMisfit_27 : iWp d mX3_changeUntilMisfit 27 [a0, a1, a2, a3] (.int x :: st) h Q = if x = 0 then iWp d mX3_changeUntilMisfit 30 [a0, a1, a2, a3] st h Q else iWp d mX3_changeUntilMisfit 32 [a0, a1, a2, a3] st h Q := w_ifc_ne dX3_changeUntilMisfit_27 rfl
theorem X3_changeUntilMisfit_30 : iWp d mX3_changeUntilMisfit 30 [a0, a1, .int x, a3] st h Q = iWp d mX3_changeUntilMisfit 31 [a0, a1, .int x, a3] (.int x :: st) h Q := w_iload_n dX3_changeUntilMisfit_30 rfl
theorem X3_changeUntilMisfit_31 : iWp d mX3_changeUntilMisfit 31 [a0, a1, a2, a3] [.int x] h Q = Q (some (.int x)) h := w_ireti dX3_changeUntilMisfit_31 rfl
theorem X3_changeUntilMisfit_32 : iWp d mX3_changeUntilMisfit 32 [a0, a1, a2, .ref p] st h Q = iWp d mX3_changeUntilMisfit 33 [a0, a1, a2, .ref p] (.ref p :: st) h Q := w_aload_n dX3_changeUntilMisfit_32 rfl
theorem X3_changeUntilMisfit_32n : iWp d mX3_changeUntilMisfit 32 [a0, a1, a2, .null] st h Q = iWp d mX3_changeUntilMisfit 33 [a0, a1, a2, .null] (.null :: st) h Q := w_aload_nN dX3_changeUntilMisfit_32 rfl
theorem X3_changeUntilMisfit_33 : iWp d mX3_changeUntilMisfit 33 [a0, .ref p, a2, a3] st h Q = iWp d mX3_changeUntilMisfit 34 [a0, .ref p, a2, a3] (.ref p :: st) h Q := w_aload_n dX3_changeUntilMisfit_33 rfl
theorem X3_changeUntilMisfit_33n : iWp d mX3_changeUntilMisfit 33 [a0, .null, a2, a3] st h Q = iWp d mX3_changeUntilMisfit 34 [a0, .null, a2, a3] (.null :: st) h Q := w_aload_nN dX3_changeUntilMisfit_33 rfl
theorem X3_changeUntilMisfit_34 (he : iEv mX2_perform [.ref p, b0] h none h2) (ho : iObj h p 2 = true) (c0 : b0.category = 1) : iWp 6 mX3_changeUntilMisfit 34 [a0, a1, a2, a3] [b0, .ref p] h Q = iWp 6 mX3_changeUntilMisfit 37 [a0, a1, a2, a3] [] h2 Q := iWp_cV dX3_changeUntilMisfit_34 fK_3_55 rfl rfl ho (Nat.le_of_ble_eq_true rfl) (Nat.le_of_ble_eq_true rfl) (by simp [iInit, cat_i, cat_r, cat_l, mX2_perform, c0]) (Nat.le_of_ble_eq_true rfl) he rfl
theorem X3_changeUntilMisfit_37 : iWp d mX3_changeUntilMisfit 37 [a0, a1, .int x, a3] st h Q = iWp d mX3_changeUntilMisfit 40 [a0, iClr a1, .int (x + 1), a3] st h Q := w_iinc dX3_changeUntilMisfit_37 rfl (Nat.le_of_ble_eq_true rfl) rfl
theorem X3_changeUntilMisfit_40 : iWp d mX3_changeUntilMisfit 40 [a0, a1, a2, a3] st h Q = iWp d mX3_changeUntilMisfit 2 [a0, a1, a2, a3] st h Q := w_goto dX3_changeUntilMisfit_40 rfl
theorem X3_changeUntilMisfit_43 : iWp d mX3_changeUntilMisfit 43 [a0, a1, a2, a3] st h Q = iWp d mX3_changeUntilMisfit 44 [a0, a1, a2, a3] (.int (-1) :: st) h Q := w_iconst dX3_changeUntilMisfit_43 rfl
theorem X3_changeUntilMisfit_44 : iWp d mX3_changeUntilMisfit 44 [a0, a1, a2, a3] [.int x] h Q = Q (some (.int x)) h := w_ireti dX3_changeUntilMisfit_44 rfl
theorem I3_changeUntilMisfit {Q : Option Value → iHp → Prop} (c0 : b0.category = 1) (hw : iWp 6 mX3_changeUntilMisfit 0 [.ref p, b0, iU, iU] [] h Q) : ∃ r h1, iEv mX3_changeUntilMisfit [.ref p, b0] h r h1 ∧ Q r h1 := iEv_of (by rfl) (by simp [iInit, cat_i, cat_r, cat_l, mX3_changeUntilMisfit, c0]) hw
theorem J3_changeUntilMisfit {r : Option Value} {h1 : iHp} (c0 : b0.category = 1) (hw : iWp 6 mX3_changeUntilMisfit 0 [.ref p, b0, iU, iU] [] h (fun r' h' => r' = r ∧ h' = h1)) : iEv mX3_changeUntilMisfit [.ref p, b0] h r h1 := iEv_ev (by rfl) (by simp [iInit, cat_i, cat_r, cat_l, mX3_changeUntilMisfit, c0]) hw
theorem X3_conflictAt_0 : iWp d mX3_conflictAt 0 [a0, a1, a2, a3] st h Q = iWp d mX3_conflictAt 1 [a0, a1, a2, a3] (.int 2 :: st) h Q := w_iconst dX3_conflictAt_0 rfl
theorem X3_conflictAt_1 : iWp d mX3_conflictAt 1 [a0, .int x, a2, a3] st h Q = iWp d mX3_conflictAt 2 [a0, .int x, a2, a3] (.int x :: st) h Q := w_iload_n dX3_conflictAt_1 rfl
theorem X3_conflictAt_2 : iWp d mX3_conflictAt 2 [a0, a1, a2, a3] (.int y :: .int x :: st) h Q = iWp d mX3_conflictAt 3 [a0, a1, a2, a3] (.int (x * y) :: st) h Q := w_imul dX3_conflictAt_2
theorem X3_conflictAt_3 : iWp d mX3_conflictAt 3 [a0, a1, .int x, a3] st h Q = iWp d mX3_conflictAt 4 [a0, a1, .int x, a3] (.int x :: st) h Q := w_iload_n dX3_conflictAt_3 rfl
theorem X3_conflictAt_4 : iWp d mX3_conflictAt 4 [a0, a1, a2, a3] (.int y :: .int x :: st) h Q = iWp d mX3_conflictAt 5 [a0, a1, a2, a3] (.int (x + y) :: st) h Q := w_iadd dX3_conflictAt_4
theorem X3_conflictAt_5 : iWp d mX3_conflictAt 5 [a0, a1, a2, a3] (.int x :: st) h Q = iWp d mX3_conflictAt 6 [a0, a1, iClr a2, .int x] st h Q := w_istore_n dX3_conflictAt_5 (Nat.le_of_ble_eq_true rfl) rfl
theorem X3_conflictAt_6 : iWp d mX3_conflictAt 6 [a0, a1, a2, .int x] st h Q = iWp d mX3_conflictAt 7 [a0, a1, a2, .int x] (.int x :: st) h Q := w_iload_n dX3_conflictAt_6 rfl
theorem X3_conflictAt_7 : iWp d mX3_conflictAt 7 [a0, a1, a2, a3] (.int x :: st) h Q = if x < 0 then iWp d mX3_conflictAt 28 [a0, a1, a2, a3] st h Q else iWp d mX3_conflictAt 10 [a0, a1, a2, a3] st h Q := w_ifc_lt dX3_conflictAt_7 rfl
theorem X3_conflictAt_10 : iWp d mX3_conflictAt 10 [a0, a1, a2, .int x] st h Q = iWp d mX3_conflictAt 11 [a0, a1, a2, .int x] (.int x :: st) h Q := w_iload_n dX3_conflictAt_10 rfl
theorem X3_conflictAt_11 : iWp d mX3_conflictAt 11 [.ref p, a1, a2, a3] st h Q = iWp d mX3_conflictAt 12 [.ref p, a1, a2, a3] (.ref p :: st) h Q := w_aload_n dX3_conflictAt_11 rfl
theorem X3_conflictAt_12 : iWp d mX3_conflictAt 12 [a0, a1, a2, a3] (.ref p :: st) h Q = iOb (iGet h p 3 2) (fun v => iWp d mX3_conflictAt 15 [a0, a1, a2, a3] (v :: st) h Q) := w_getf dX3_conflictAt_12 fF_3_25
theorem X3_conflictAt_15 : iWp d mX3_conflictAt 15 [a0, a1, a2, a3] (.ref p :: st) h Q = iOb (iLen h p) (fun v => iWp d mX3_conflictAt 16 [a0, a1, a2, a3] (.int v :: st) h Q) := w_alen dX3_conflictAt_15
theorem X3_conflictAt_16 : iWp d mX3_conflictAt 16 [a0, a1, a2, a3] (.int y :: .int x :: st) h Q = if y ≤ x then iWp d mX3_conflictAt 28 [a0, a1, a2, a3] st h Q else iWp d mX3_conflictAt 19 [a0, a1, a2, a3] st h Q := w_icmp_ge dX3_conflictAt_16 rfl
theorem X3_conflictAt_19 : iWp d mX3_conflictAt 19 [.ref p, a1, a2, a3] st h Q = iWp d mX3_conflictAt 20 [.ref p, a1, a2, a3] (.ref p :: st) h Q := w_aload_n dX3_conflictAt_19 rfl
theorem X3_conflictAt_20 : iWp d mX3_conflictAt 20 [a0, a1, a2, a3] (.ref p :: st) h Q = iOb (iGet h p 3 2) (fun v => iWp d mX3_conflictAt 23 [a0, a1, a2, a3] (v :: st) h Q) := w_getf dX3_conflictAt_20 fF_3_25
theorem X3_conflictAt_23 : iWp d mX3_conflictAt 23 [a0, a1, a2, .int x] st h Q = iWp d mX3_conflictAt 24 [a0, a1, a2, .int x] (.int x :: st) h Q := w_iload_n dX3_conflictAt_23 rfl
theorem X3_conflictAt_24 : iWp d mX3_conflictAt 24 [a0, a1, a2, a3] (.int x :: .ref p :: st) h Q = iOb (iLdI h p x) (fun v => iWp d mX3_conflictAt 25 [a0, a1, a2, a3] (.int v :: st) h Q) := w_iaload dX3_conflictAt_24
theorem X3_conflictAt_25 : iWp d mX3_conflictAt 25 [a0, a1, a2, a3] st h Q = iWp d mX3_conflictAt 29 [a0, a1, a2, a3] st h Q := w_goto dX3_conflictAt_25 rfl
theorem X3_conflictAt_28 : iWp d mX3_conflictAt 28 [a0, a1, a2, a3] st h Q = iWp d mX3_conflictAt 29 [a0, a1, a2, a3] (.int 0 :: st) h Q := w_iconst dX3_conflictAt_28 rfl
theorem X3_conflictAt_29 : iWp d mX3_conflictAt 29 [a0, a1, a2, a3] [.int x] h Q = Q (some (.int x)) h := w_ireti dX3_conflictAt_29 rfl
theorem I3_conflictAt {Q : Option Value → iHp → Prop} (hw : iWp 1 mX3_conflictAt 0 [.ref p, .int x0, .int x1, iU] [] h Q) : ∃ r h1, iEv mX3_conflictAt [.ref p, .int x0, .int x1] h r h1 ∧ Q r h1 := iEv_of (by rfl) rfl hw
theorem J3_conflictAt {r : Option Value} {h1 : iHp} (hw : iWp 1 mX3_conflictAt 0 [.ref p, .int x0, .int x1, iU] [] h (fun r' h' => r' = r ∧ h' = h1)) : iEv mX3_conflictAt [.ref p, .int x0, .int x1] h r h1 := iEv_ev (by rfl) rfl hw
theorem X3_conflictCount_0 : iWp d mX3_conflictCount 0 [.ref p] st h Q = iWp d mX3_conflictCount 1 [.ref p] (.ref p :: st) h Q := w_aload_n dX3_conflictCount_0 rfl
theorem X3_conflictCount_1 : iWp d mX3_conflictCount 1 [a0] (.ref p :: st) h Q = iOb (iGet h p 3 2) (fun v => iWp d mX3_conflictCount 4 [a0] (v :: st) h Q) := w_getf dX3_conflictCount_1 fF_3_25
theorem X3_conflictCount_4 : iWp d mX3_conflictCount 4 [a0] (.ref p :: st) h Q = iOb (iLen h p) (fun v => iWp d mX3_conflictCount 5 [a0] (.int v :: st) h Q) := w_alen dX3_conflictCount_4
theorem X3_conflictCount_5 : iWp d mX3_conflictCount 5 [a0] st h Q = iWp d mX3_conflictCount 6 [a0] (.int 2 :: st) h Q := w_iconst dX3_conflictCount_5 rfl
theorem X3_conflictCount_6 (hz : ¬ y = 0) : iWp d mX3_conflictCount 6 [a0] (.int y :: .int x :: st) h Q = iWp d mX3_conflictCount 7 [a0] (.int (x / y) :: st) h Q := w_idiv dX3_conflictCount_6 hz
theorem X3_conflictCount_7 : iWp d mX3_conflictCount 7 [a0] [.int x] h Q = Q (some (.int x)) h := w_ireti dX3_conflictCount_7 rfl
theorem I3_conflictCount {Q : Option Value → iHp → Prop} (hw : iWp 1 mX3_conflictCount 0 [.ref p] [] h Q) : ∃ r h1, iEv mX3_conflictCount [.ref p] h r h1 ∧ Q r h1 := iEv_of (by rfl) rfl hw
theorem J3_conflictCount {r : Option Value} {h1 : iHp} (hw : iWp 1 mX3_conflictCount 0 [.ref p] [] h (fun r' h' => r' = r ∧ h' = h1)) : iEv mX3_conflictCount [.ref p] h r h1 := iEv_ev (by rfl) rfl hw
theorem X3_countOf_0 : iWp d mX3_countOf 0 [a0, a1, a2, a3, a4] st h Q = iWp d mX3_countOf 1 [a0, a1, a2, a3, a4] (.int 0 :: st) h Q := w_iconst dX3_countOf_0 rfl
theorem X3_countOf_1 : iWp d mX3_countOf 1 [a0, a1, a2, a3, a4] (.int x :: st) h Q = iWp d mX3_countOf 2 [a0, iClr a1, .int x, a3, a4] st h Q := w_istore_n dX3_countOf_1 (Nat.le_of_ble_eq_true rfl) rfl
theorem X3_countOf_2 : iWp d mX3_countOf 2 [a0, a1, a2, a3, a4] st h Q = iWp d mX3_countOf 3 [a0, a1, a2, a3, a4] (.int 0 :: st) h Q := w_iconst dX3_countOf_2 rfl
theorem X3_countOf_3 : iWp d mX3_countOf 3 [a0, a1, a2, a3, a4] (.int x :: st) h Q = iWp d mX3_countOf 4 [a0, a1, iClr a2, .int x, a4] st h Q := w_istore_n dX3_countOf_3 (Nat.le_of_ble_eq_true rfl) rfl
theorem X3_countOf_4 : iWp d mX3_countOf 4 [a0, a1, a2, .int x, a4] st h Q = iWp d mX3_countOf 5 [a0, a1, a2, .int x, a4] (.int x :: st) h Q := w_iload_n dX3_countOf_4 rfl
theorem X3_countOf_5 : iWp d mX3_countOf 5 [.ref p, a1, a2, a3, a4] st h Q = iWp d mX3_countOf 6 [.ref p, a1, a2, a3, a4] (.ref p :: st) h Q := w_aload_n dX3_countOf_5 rfl
theorem X3_countOf_6 : iWp d mX3_countOf 6 [a0, a1, a2, a3, a4] (.ref p :: st) h Q = iOb (iGet h p 3 1) (fun v => iWp d mX3_countOf 9 [a0, a1, a2, a3, a4] (v :: st) h Q) := w_getf dX3_countOf_6 fF_3_15
theorem X3_countOf_9 : iWp d mX3_countOf 9 [a0, a1, a2, a3, a4] (.ref p :: st) h Q = iOb (iLen h p) (fun v => iWp d mX3_countOf 10 [a0, a1, a2, a3, a4] (.int v :: st) h Q) := w_alen dX3_countOf_9
theorem X3_countOf_10 : iWp d mX3_countOf 10 [a0, a1, a2, a3, a4] (.int y :: .int x :: st) h Q = if y ≤ x then iWp d mX3_countOf 44 [a0, a1, a2, a3, a4] st h Q else iWp d mX3_countOf 13 [a0, a1, a2, a3, a4] st h Q := w_icmp_ge dX3_countOf_10 rfl
theorem X3_countOf_13 : iWp d mX3_countOf 13 [.ref p, a1, a2, a3, a4] st h Q = iWp d mX3_countOf 14 [.ref p, a1, a2, a3, a4] (.ref p :: st) h Q := w_aload_n dX3_countOf_13 rfl
theorem X3_countOf_14 : iWp d mX3_countOf 14 [a0, a1, a2, a3, a4] (.ref p :: st) h Q = iOb (iGet h p 3 1) (fun v => iWp d mX3_countOf 17 [a0, a1, a2, a3, a4] (v :: st) h Q) := w_getf dX3_countOf_14 fF_3_15
theorem X3_countOf_17 : iWp d mX3_countOf 17 [a0, a1, a2, .int x, a4] st h Q = iWp d mX3_countOf 18 [a0, a1, a2, .int x, a4] (.int x :: st) h Q := w_iload_n dX3_countOf_17 rfl
theorem X3_countOf_18 : iWp d mX3_countOf 18 [a0, a1, a2, a3, a4] (.int x :: .ref p :: st) h Q = iOb (iLdQ h p x) (fun v => iWp d mX3_countOf 19 [a0, a1, a2, a3, a4] (va_rf v :: st) h Q) := w_aaload dX3_countOf_18
theorem X3_countOf_19 : iWp d mX3_countOf 19 [a0, a1, a2, a3, a4] (.ref p :: st) h Q = iWp d mX3_countOf 21 [a0, a1, a2, iClr a3, .ref p] st h Q := w_astore dX3_countOf_19 (Nat.le_of_ble_eq_true rfl) rfl
theorem X3_countOf_19n : iWp d mX3_countOf 19 [a0, a1, a2, a3, a4] (.null :: st) h Q = iWp d mX3_countOf 21 [a0, a1, a2, iClr a3, .null] st h Q := w_astoreN dX3_countOf_19 (Nat.le_of_ble_eq_true rfl) rfl
theorem X3_countOf_21 : iWp d mX3_countOf 21 [a0, a1, a2, a3, .ref p] st h Q = iWp d mX3_countOf 23 [a0, a1, a2, a3, .ref p] (.ref p :: st) h Q := w_aload dX3_countOf_21 rfl
theorem X3_countOf_21n : iWp d mX3_countOf 21 [a0, a1, a2, a3, .null] st h Q = iWp d mX3_countOf 23 [a0, a1, a2, a3, .null] (.null :: st) h Q := w_aloadN dX3_countOf_21 rfl
theorem X3_countOf_23 : iWp d mX3_countOf 23 [a0, a1, a2, a3, a4] (.ref p :: st) h Q = iWp d mX3_countOf 26 [a0, a1, a2, a3, a4] st h Q := w_ifnull dX3_countOf_23
theorem X3_countOf_23n : iWp d mX3_countOf 23 [a0, a1, a2, a3, a4] (.null :: st) h Q = iWp d mX3_countOf 38 [a0, a1, a2, a3, a4] st h Q := w_ifnullN dX3_countOf_23 rfl
theorem X3_countOf_26 : iWp d mX3_countOf 26 [a0, a1, a2, a3, .ref p] st h Q = iWp d mX3_countOf 28 [a0, a1, a2, a3, .ref p] (.ref p :: st) h Q := w_aload dX3_countOf_26 rfl
theorem X3_countOf_26n : iWp d mX3_countOf 26 [a0, a1, a2, a3, .null] st h Q = iWp d mX3_countOf 28 [a0, a1, a2, a3, .null] (.null :: st) h Q := w_aloadN dX3_countOf_26 rfl
theorem X3_countOf_28 : iWp d mX3_countOf 28 [a0, a1, a2, a3, a4] (.ref p :: st) h Q = iOb (iGet h p 2 0) (fun v => iWp d mX3_countOf 31 [a0, a1, a2, a3, a4] (v :: st) h Q) := w_getf dX3_countOf_28 fF_3_43
theorem X3_countOf_31 : iWp d mX3_countOf 31 [a0, .int x, a2, a3, a4] st h Q = iWp d mX3_countOf 32 [a0, .int x, a2, a3, a4] (.int x :: st) h Q := w_iload_n dX3_countOf_31 rfl
theorem X3_countOf_32 : iWp d mX3_countOf 32 [a0, a1, a2, a3, a4] (.int y :: .int x :: st) h Q = if x = y then iWp d mX3_countOf 35 [a0, a1, a2, a3, a4] st h Q else iWp d mX3_countOf 38 [a0, a1, a2, a3, a4] st h Q := w_icmp_ne dX3_countOf_32 rfl
theorem X3_countOf_35 : iWp d mX3_countOf 35 [a0, a1, .int x, a3, a4] st h Q = iWp d mX3_countOf 38 [a0, iClr a1, .int (x + 1), a3, a4] st h Q := w_iinc dX3_countOf_35 rfl (Nat.le_of_ble_eq_true rfl) rfl
theorem X3_countOf_38 : iWp d mX3_countOf 38 [a0, a1, a2, .int x, a4] st h Q = iWp d mX3_countOf 41 [a0, a1, iClr a2, .int (x + 1), a4] st h Q := w_iinc dX3_countOf_38 rfl (Nat.le_of_ble_eq_true rfl) rfl
theorem X3_countOf_41 : iWp d mX3_countOf 41 [a0, a1, a2, a3, a4] st h Q = iWp d mX3_countOf 4 [a0, a1, a2, a3, a4] st h Q := w_goto dX3_countOf_41 rfl
theorem X3_countOf_44 : iWp d mX3_countOf 44 [a0, a1, .int x, a3, a4] st h Q = iWp d mX3_countOf 45 [a0, a1, .int x, a3, a4] (.int x :: st) h Q := w_iload_n dX3_countOf_44 rfl
theorem X3_countOf_45 : iWp d mX3_countOf 45 [a0, a1, a2, a3, a4] [.int x] h Q = Q (some (.int x)) h := w_ireti dX3_countOf_45 rfl
theorem I3_countOf {Q : Option Value → iHp → Prop} (hw : iWp 1 mX3_countOf 0 [.ref p, .int x0, iU, iU, iU] [] h Q) : ∃ r h1, iEv mX3_countOf [.ref p, .int x0] h r h1 ∧ Q r h1 := iEv_of (by rfl) rfl hw
theorem J3_countOf {r : Option Value} {h1 : iHp} (hw : iWp 1 mX3_countOf 0 [.ref p, .int x0, iU, iU, iU] [] h (fun r' h' => r' = r ∧ h' = h1)) : iEv mX3_countOf [.ref p, .int x0] h r h1 := iEv_ev (by rfl) rfl hw
theorem X3_editAt_0 : iWp d mX3_editAt 0 [a0, .int x] st h Q = iWp d mX3_editAt 1 [a0, .int x] (.int x :: st) h Q := w_iload_n dX3_editAt_0 rfl
theorem X3_editAt_1 : iWp d mX3_editAt 1 [a0, a1] (.int x :: st) h Q = if x < 0 then iWp d mX3_editAt 22 [a0, a1] st h Q else iWp d mX3_editAt 4 [a0, a1] st h Q := w_ifc_lt dX3_editAt_1 rfl
theorem X3_editAt_4 : iWp d mX3_editAt 4 [a0, .int x] st h Q = iWp d mX3_editAt 5 [a0, .int x] (.int x :: st) h Q := w_iload_n dX3_editAt_4 rfl
theorem X3_editAt_5 : iWp d mX3_editAt 5 [.ref p, a1] st h Q = iWp d mX3_editAt 6 [.ref p, a1] (.ref p :: st) h Q := w_aload_n dX3_editAt_5 rfl
theorem X3_editAt_6 : iWp d mX3_editAt 6 [a0, a1] (.ref p :: st) h Q = iOb (iGet h p 3 1) (fun v => iWp d mX3_editAt 9 [a0, a1] (v :: st) h Q) := w_getf dX3_editAt_6 fF_3_15
theorem X3_editAt_9 : iWp d mX3_editAt 9 [a0, a1] (.ref p :: st) h Q = iOb (iLen h p) (fun v => iWp d mX3_editAt 10 [a0, a1] (.int v :: st) h Q) := w_alen dX3_editAt_9
theorem X3_editAt_10 : iWp d mX3_editAt 10 [a0, a1] (.int y :: .int x :: st) h Q = if y ≤ x then iWp d mX3_editAt 22 [a0, a1] st h Q else iWp d mX3_editAt 13 [a0, a1] st h Q := w_icmp_ge dX3_editAt_10 rfl
theorem X3_editAt_13 : iWp d mX3_editAt 13 [.ref p, a1] st h Q = iWp d mX3_editAt 14 [.ref p, a1] (.ref p :: st) h Q := w_aload_n dX3_editAt_13 rfl
theorem X3_editAt_14 : iWp d mX3_editAt 14 [a0, a1] (.ref p :: st) h Q = iOb (iGet h p 3 1) (fun v => iWp d mX3_editAt 17 [a0, a1] (v :: st) h Q) := w_getf dX3_editAt_14 fF_3_15
theorem X3_editAt_17 : iWp d mX3_editAt 17 [a0, .int x] st h Q = iWp d mX3_editAt 18 [a0, .int x] (.int x :: st) h Q := w_iload_n dX3_editAt_17 rfl
theorem X3_editAt_18 : iWp d mX3_editAt 18 [a0, a1] (.int x :: .ref p :: st) h Q = iOb (iLdQ h p x) (fun v => iWp d mX3_editAt 19 [a0, a1] (va_rf v :: st) h Q) := w_aaload dX3_editAt_18
theorem X3_editAt_19 : iWp d mX3_editAt 19 [a0, a1] st h Q = iWp d mX3_editAt 23 [a0, a1] st h Q := w_goto dX3_editAt_19 rfl
theorem X3_editAt_22 : iWp d mX3_editAt 22 [a0, a1] st h Q = iWp d mX3_editAt 23 [a0, a1] (.null :: st) h Q := w_null dX3_editAt_22
theorem X3_editAt_23 : iWp d mX3_editAt 23 [a0, a1] [.ref p] h Q = Q (some (.ref p)) h := w_aret dX3_editAt_23 rfl
theorem X3_editAt_23n : iWp d mX3_editAt 23 [a0, a1] [.null] h Q = Q (some .null) h := w_aretN dX3_editAt_23 rfl
theorem I3_editAt {Q : Option Value → iHp → Prop} (hw : iWp 1 mX3_editAt 0 [.ref p, .int x0] [] h Q) : ∃ r h1, iEv mX3_editAt [.ref p, .int x0] h r h1 ∧ Q r h1 := iEv_of (by rfl) rfl hw
theorem J3_editAt {r : Option Value} {h1 : iHp} (hw : iWp 1 mX3_editAt 0 [.ref p, .int x0] [] h (fun r' h' => r' = r ∧ h' = h1)) : iEv mX3_editAt [.ref p, .int x0] h r h1 := iEv_ev (by rfl) rfl hw
theorem X3_init_0 : iWp d mX3_init 0 [.ref p, a1, a2, a3, a4] st h Q = iWp d mX3_init 1 [.ref p, a1, a2, a3, a4] (.ref p :: st) h Q := w_aload_n dX3_init_0 rfl
theorem X3_init_1 (hs : iSum st ≤ 8) : iWp d mX3_init 1 [a0, a1, a2, a3, a4] (.ref p :: st) h Q = iWp d mX3_init 4 [a0, a1, a2, a3, a4] st h Q := iWp_k dX3_init_1 rfl (fun _ _ => iObS hs fK_3_3 rfl rfl)
theorem X3_init_4 : iWp d mX3_init 4 [.ref p, a1, a2, a3, a4] st h Q = iWp d mX3_init 5 [.ref p, a1, a2, a3, a4] (.ref p :: st) h Q := w_aload_n dX3_init_4 rfl
theorem X3_init_5 : iWp d mX3_init 5 [a0, .ref p, a2, a3, a4] st h Q = iWp d mX3_init 6 [a0, .ref p, a2, a3, a4] (.ref p :: st) h Q := w_aload_n dX3_init_5 rfl
theorem X3_init_5n : iWp d mX3_init 5 [a0, .null, a2, a3, a4] st h Q = iWp d mX3_init 6 [a0, .null, a2, a3, a4] (.null :: st) h Q := w_aload_nN dX3_init_5 rfl
theorem X3_init_6 (he : iEv mX1_takeEdits [.ref p] h (some rw) h2) (ho : iObj h p 1 = true) : iWp 2 mX3_init 6 [a0, a1, a2, a3, a4] [.ref p, .ref t0] h Q = iWp 2 mX3_init 9 [a0, a1, a2, a3, a4] [rw, .ref t0] h2 Q := iWp_cV dX3_init_6 fK_3_9 rfl rfl ho (Nat.le_of_ble_eq_true rfl) (Nat.le_of_ble_eq_true rfl) rfl (Nat.le_of_ble_eq_true rfl) he rfl
theorem X3_init_9 : iWp d mX3_init 9 [a0, a1, a2, a3, a4] (.ref q :: .ref p :: st) h Q = iOb (iPut h p 3 1 (.ref q)) (fun g => iWp d mX3_init 12 [a0, a1, a2, a3, a4] st g Q) := w_putf dX3_init_9 fF_3_15 ⟨rfl, (Or.inr ⟨rfl, rfl⟩)⟩
theorem X3_init_9n : iWp d mX3_init 9 [a0, a1, a2, a3, a4] (.null :: .ref p :: st) h Q = iOb (iPut h p 3 1 (.null)) (fun g => iWp d mX3_init 12 [a0, a1, a2, a3, a4] st g Q) := w_putf dX3_init_9 fF_3_15 ⟨rfl, (Or.inr ⟨rfl, rfl⟩)⟩
theorem X3_init_12 : iWp d mX3_init 12 [.ref p, a1, a2, a3, a4] st h Q = iWp d mX3_init 13 [.ref p, a1, a2, a3, a4] (.ref p :: st) h Q := w_aload_n dX3_init_12 rfl
theorem X3_init_13 : iWp d mX3_init 13 [a0, .ref p, a2, a3, a4] st h Q = iWp d mX3_init 14 [a0, .ref p, a2, a3, a4] (.ref p :: st) h Q := w_aload_n dX3_init_13 rfl
theorem X3_init_13n : iWp d mX3_init 13 [a0, .null, a2, a3, a4] st h Q = iWp d mX3_init 14 [a0, .null, a2, a3, a4] (.null :: st) h Q := w_aload_nN dX3_init_13 rfl
theorem X3_init_14 (he : iEv mX1_takeConflicts [.ref p] h (some rw) h2) (ho : iObj h p 1 = true) : iWp 2 mX3_init 14 [a0, a1, a2, a3, a4] [.ref p, .ref t0] h Q = iWp 2 mX3_init 17 [a0, a1, a2, a3, a4] [rw, .ref t0] h2 Q := iWp_cV dX3_init_14 fK_3_21 rfl rfl ho (Nat.le_of_ble_eq_true rfl) (Nat.le_of_ble_eq_true rfl) rfl (Nat.le_of_ble_eq_true rfl) he rfl
theorem X3_init_17 : iWp d mX3_init 17 [a0, a1, a2, a3, a4] (.ref q :: .ref p :: st) h Q = iOb (iPut h p 3 2 (.ref q)) (fun g => iWp d mX3_init 20 [a0, a1, a2, a3, a4] st g Q) := w_putf dX3_init_17 fF_3_25 ⟨rfl, (Or.inr ⟨rfl, rfl⟩)⟩
theorem X3_init_17n : iWp d mX3_init 17 [a0, a1, a2, a3, a4] (.null :: .ref p :: st) h Q = iOb (iPut h p 3 2 (.null)) (fun g => iWp d mX3_init 20 [a0, a1, a2, a3, a4] st g Q) := w_putf dX3_init_17 fF_3_25 ⟨rfl, (Or.inr ⟨rfl, rfl⟩)⟩
theorem X3_init_20 : iWp d mX3_init 20 [.ref p, a1, a2, a3, a4] st h Q = iWp d mX3_init 21 [.ref p, a1, a2, a3, a4] (.ref p :: st) h Q := w_aload_n dX3_init_20 rfl
theorem X3_init_21 : iWp d mX3_init 21 [a0, a1, .int x, a3, a4] st h Q = iWp d mX3_init 22 [a0, a1, .int x, a3, a4] (.int x :: st) h Q := w_iload_n dX3_init_21 rfl
theorem X3_init_22 : iWp d mX3_init 22 [a0, a1, a2, a3, a4] (.int x :: .ref p :: st) h Q = iOb (iPut h p 3 3 (.int x)) (fun g => iWp d mX3_init 25 [a0, a1, a2, a3, a4] st g Q) := w_putf dX3_init_22 fF_3_29 ⟨rfl, (Or.inr ⟨rfl, rfl⟩)⟩
theorem X3_init_25 : iWp d mX3_init 25 [.ref p, a1, a2, a3, a4] st h Q = iWp d mX3_init 26 [.ref p, a1, a2, a3, a4] (.ref p :: st) h Q := w_aload_n dX3_init_25 rfl
theorem X3_init_26 : iWp d mX3_init 26 [a0, a1, a2, .int x, a4] st h Q = iWp d mX3_init 27 [a0, a1, a2, .int x, a4] (.int x :: st) h Q := w_iload_n dX3_init_26 rfl
theorem X3_init_27 : iWp d mX3_init 27 [a0, a1, a2, a3, a4] (.int x :: .ref p :: st) h Q = iOb (iPut h p 3 4 (.int x)) (fun g => iWp d mX3_init 30 [a0, a1, a2, a3, a4] st g Q) := w_putf dX3_init_27 fF_3_33 ⟨rfl, (Or.inr ⟨rfl, rfl⟩)⟩
theorem X3_init_30 : iWp d mX3_init 30 [.ref p, a1, a2, a3, a4] st h Q = iWp d mX3_init 31 [.ref p, a1, a2, a3, a4] (.ref p :: st) h Q := w_aload_n dX3_init_30 rfl
theorem X3_init_31 : iWp d mX3_init 31 [a0, a1, a2, a3, .int x] st h Q = iWp d mX3_init 33 [a0, a1, a2, a3, .int x] (.int x :: st) h Q := w_iload dX3_init_31 rfl
theorem X3_init_33 : iWp d mX3_init 33 [a0, a1, a2, a3, a4] (.int x :: .ref p :: st) h Q = iOb (iPut h p 3 0 (.int x)) (fun g => iWp d mX3_init 36 [a0, a1, a2, a3, a4] st g Q) := w_putf dX3_init_33 fF_3_36 ⟨rfl, (Or.inr ⟨rfl, rfl⟩)⟩
theorem X3_init_36 : iWp d mX3_init 36 [a0, a1, a2, a3, a4] [] h Q = Q none h := w_ret dX3_init_36 rfl
theorem I3_init {Q : Option Value → iHp → Prop} (c0 : b0.category = 1) (hw : iWp 2 mX3_init 0 [.ref p, b0, .int x1, .int x2, .int x3] [] h Q) : ∃ r h1, iEv mX3_init [.ref p, b0, .int x1, .int x2, .int x3] h r h1 ∧ Q r h1 := iEv_of (by rfl) (by simp [iInit, cat_i, cat_r, cat_l, mX3_init, c0]) hw
theorem J3_init {r : Option Value} {h1 : iHp} (c0 : b0.category = 1) (hw : iWp 2 mX3_init 0 [.ref p, b0, .int x1, .int x2, .int x3] [] h (fun r' h' => r' = r ∧ h' = h1)) : iEv mX3_init [.ref p, b0, .int x1, .int x2, .int x3] h r h1 := iEv_ev (by rfl) (by simp [iInit, cat_i, cat_r, cat_l, mX3_init, c0]) hw
theorem X3_isOf_0 : iWp d mX3_isOf 0 [a0, .int x] st h Q = iWp d mX3_isOf 1 [a0, .int x] (.int x :: st) h Q := w_iload_n dX3_isOf_0 rfl
theorem X3_isOf_1 : iWp d mX3_isOf 1 [a0, a1] (.int x :: st) h Q = if x = 0 then iWp d mX3_isOf 25 [a0, a1] st h Q else iWp d mX3_isOf 4 [a0, a1] st h Q := w_ifc_eq dX3_isOf_1 rfl
theorem X3_isOf_4 : iWp d mX3_isOf 4 [a0, .int x] st h Q = iWp d mX3_isOf 5 [a0, .int x] (.int x :: st) h Q := w_iload_n dX3_isOf_4 rfl
theorem X3_isOf_5 : iWp d mX3_isOf 5 [.ref p, a1] st h Q = iWp d mX3_isOf 6 [.ref p, a1] (.ref p :: st) h Q := w_aload_n dX3_isOf_5 rfl
theorem X3_isOf_6 : iWp d mX3_isOf 6 [a0, a1] (.ref p :: st) h Q = iOb (iGet h p 3 3) (fun v => iWp d mX3_isOf 9 [a0, a1] (v :: st) h Q) := w_getf dX3_isOf_6 fF_3_29
theorem X3_isOf_9 : iWp d mX3_isOf 9 [a0, a1] (.int y :: .int x :: st) h Q = if x = y then iWp d mX3_isOf 25 [a0, a1] st h Q else iWp d mX3_isOf 12 [a0, a1] st h Q := w_icmp_eq dX3_isOf_9 rfl
theorem X3_isOf_12 : iWp d mX3_isOf 12 [a0, .int x] st h Q = iWp d mX3_isOf 13 [a0, .int x] (.int x :: st) h Q := w_iload_n dX3_isOf_12 rfl
theorem X3_isOf_13 : iWp d mX3_isOf 13 [a0, a1] st h Q = iWp d mX3_isOf 14 [a0, a1] (.int 2 :: st) h Q := w_iconst dX3_isOf_13 rfl
theorem X3_isOf_14 : iWp d mX3_isOf 14 [a0, a1] (.int y :: .int x :: st) h Q = if x = y then iWp d mX3_isOf 17 [a0, a1] st h Q else iWp d mX3_isOf 29 [a0, a1] st h Q := w_icmp_ne dX3_isOf_14 rfl
theorem X3_isOf_17 : iWp d mX3_isOf 17 [.ref p, a1] st h Q = iWp d mX3_isOf 18 [.ref p, a1] (.ref p :: st) h Q := w_aload_n dX3_isOf_17 rfl
theorem X3_isOf_18 : iWp d mX3_isOf 18 [a0, a1] (.ref p :: st) h Q = iOb (iGet h p 3 3) (fun v => iWp d mX3_isOf 21 [a0, a1] (v :: st) h Q) := w_getf dX3_isOf_18 fF_3_29
theorem X3_isOf_21 : iWp d mX3_isOf 21 [a0, a1] st h Q = iWp d mX3_isOf 22 [a0, a1] (.int 3 :: st) h Q := w_iconst dX3_isOf_21 rfl
theorem X3_isOf_22 : iWp d mX3_isOf 22 [a0, a1] (.int y :: .int x :: st) h Q = if x = y then iWp d mX3_isOf 25 [a0, a1] st h Q else iWp d mX3_isOf 29 [a0, a1] st h Q := w_icmp_ne dX3_isOf_22 rfl
theorem X3_isOf_25 : iWp d mX3_isOf 25 [a0, a1] st h Q = iWp d mX3_isOf 26 [a0, a1] (.int 1 :: st) h Q := w_iconst dX3_isOf_25 rfl
theorem X3_isOf_26 : iWp d mX3_isOf 26 [a0, a1] st h Q = iWp d mX3_isOf 30 [a0, a1] st h Q := w_goto dX3_isOf_26 rfl
theorem X3_isOf_29 : iWp d mX3_isOf 29 [a0, a1] st h Q = iWp d mX3_isOf 30 [a0, a1] (.int 0 :: st) h Q := w_iconst dX3_isOf_29 rfl
theorem X3_isOf_30 : iWp d mX3_isOf 30 [a0, a1] [.int (iB b)] h Q = Q (some (.int (iB b))) h := w_iretb dX3_isOf_30 rfl
theorem X3_isOf_30z : iWp d mX3_isOf 30 [a0, a1] [.int 0] h Q = Q (some (.int (iB false))) h := w_iretb (bb := false) dX3_isOf_30 rfl
theorem X3_isOf_30o : iWp d mX3_isOf 30 [a0, a1] [.int 1] h Q = Q (some (.int (iB true))) h := w_iretb (bb := true) dX3_isOf_30 rfl
theorem I3_isOf {Q : Option Value → iHp → Prop} (hw : iWp 1 mX3_isOf 0 [.ref p, .int x0] [] h Q) : ∃ r h1, iEv mX3_isOf [.ref p, .int x0] h r h1 ∧ Q r h1 := iEv_of (by rfl) rfl hw
theorem J3_isOf {r : Option Value} {h1 : iHp} (hw : iWp 1 mX3_isOf 0 [.ref p, .int x0] [] h (fun r' h' => r' = r ∧ h' = h1)) : iEv mX3_isOf [.ref p, .int x0] h r h1 := iEv_ev (by rfl) rfl hw
theorem X3_keyBits_0 : iWp d mX3_keyBits 0 [a0, a1, a2, a3, a4, a5] st h Q = iWp d mX3_keyBits 1 [a0, a1, a2, a3, a4, a5] (.int 0 :: st) h Q := w_iconst dX3_keyBits_0 rfl
theorem X3_keyBits_1 : iWp d mX3_keyBits 1 [a0, a1, a2, a3, a4, a5] (.int x :: st) h Q = iWp d mX3_keyBits 2 [a0, iClr a1, .int x, a3, a4, a5] st h Q := w_istore_n dX3_keyBits_1 (Nat.le_of_ble_eq_true rfl) rfl
theorem X3_keyBits_2 : iWp d mX3_keyBits 2 [a0, a1, a2, a3, a4, a5] st h Q = iWp d mX3_keyBits 3 [a0, a1, a2, a3, a4, a5] (.int 0 :: st) h Q := w_iconst dX3_keyBits_2 rfl
theorem X3_keyBits_3 : iWp d mX3_keyBits 3 [a0, a1, a2, a3, a4, a5] (.int x :: st) h Q = iWp d mX3_keyBits 4 [a0, a1, iClr a2, .int x, a4, a5] st h Q := w_istore_n dX3_keyBits_3 (Nat.le_of_ble_eq_true rfl) rfl
theorem X3_keyBits_4 : iWp d mX3_keyBits 4 [a0, a1, a2, .int x, a4, a5] st h Q = iWp d mX3_keyBits 5 [a0, a1, a2, .int x, a4, a5] (.int x :: st) h Q := w_iload_n dX3_keyBits_4 rfl
theorem X3_keyBits_5 : iWp d mX3_keyBits 5 [.ref p, a1, a2, a3, a4, a5] st h Q = iWp d mX3_keyBits 6 [.ref p, a1, a2, a3, a4, a5] (.ref p :: st) h Q := w_aload_n dX3_keyBits_5 rfl
theorem X3_keyBits_6 : iWp d mX3_keyBits 6 [a0, a1, a2, a3, a4, a5] (.ref p :: st) h Q = iOb (iGet h p 3 1) (fun v => iWp d mX3_keyBits 9 [a0, a1, a2, a3, a4, a5] (v :: st) h Q) := w_getf dX3_keyBits_6 fF_3_15
theorem X3_keyBits_9 : iWp d mX3_keyBits 9 [a0, a1, a2, a3, a4, a5] (.ref p :: st) h Q = iOb (iLen h p) (fun v => iWp d mX3_keyBits 10 [a0, a1, a2, a3, a4, a5] (.int v :: st) h Q) := w_alen dX3_keyBits_9
theorem X3_keyBits_10 : iWp d mX3_keyBits 10 [a0, a1, a2, a3, a4, a5] (.int y :: .int x :: st) h Q = if y ≤ x then iWp d mX3_keyBits 65 [a0, a1, a2, a3, a4, a5] st h Q else iWp d mX3_keyBits 13 [a0, a1, a2, a3, a4, a5] st h Q := w_icmp_ge dX3_keyBits_10 rfl
theorem X3_keyBits_13 : iWp d mX3_keyBits 13 [.ref p, a1, a2, a3, a4, a5] st h Q = iWp d mX3_keyBits 14 [.ref p, a1, a2, a3, a4, a5] (.ref p :: st) h Q := w_aload_n dX3_keyBits_13 rfl
theorem X3_keyBits_14 : iWp d mX3_keyBits 14 [a0, a1, a2, a3, a4, a5] (.ref p :: st) h Q = iOb (iGet h p 3 1) (fun v => iWp d mX3_keyBits 17 [a0, a1, a2, a3, a4, a5] (v :: st) h Q) := w_getf dX3_keyBits_14 fF_3_15
theorem X3_keyBits_17 : iWp d mX3_keyBits 17 [a0, a1, a2, .int x, a4, a5] st h Q = iWp d mX3_keyBits 18 [a0, a1, a2, .int x, a4, a5] (.int x :: st) h Q := w_iload_n dX3_keyBits_17 rfl
theorem X3_keyBits_18 : iWp d mX3_keyBits 18 [a0, a1, a2, a3, a4, a5] (.int x :: .ref p :: st) h Q = iOb (iLdQ h p x) (fun v => iWp d mX3_keyBits 19 [a0, a1, a2, a3, a4, a5] (va_rf v :: st) h Q) := w_aaload dX3_keyBits_18
theorem X3_keyBits_19 : iWp d mX3_keyBits 19 [a0, a1, a2, a3, a4, a5] (.ref p :: st) h Q = iWp d mX3_keyBits 21 [a0, a1, a2, iClr a3, .ref p, a5] st h Q := w_astore dX3_keyBits_19 (Nat.le_of_ble_eq_true rfl) rfl
theorem X3_keyBits_19n : iWp d mX3_keyBits 19 [a0, a1, a2, a3, a4, a5] (.null :: st) h Q = iWp d mX3_keyBits 21 [a0, a1, a2, iClr a3, .null, a5] st h Q := w_astoreN dX3_keyBits_19 (Nat.le_of_ble_eq_true rfl) rfl
theorem X3_keyBits_21 : iWp d mX3_keyBits 21 [a0, a1, a2, a3, .ref p, a5] st h Q = iWp d mX3_keyBits 23 [a0, a1, a2, a3, .ref p, a5] (.ref p :: st) h Q := w_aload dX3_keyBits_21 rfl
theorem X3_keyBits_21n : iWp d mX3_keyBits 21 [a0, a1, a2, a3, .null, a5] st h Q = iWp d mX3_keyBits 23 [a0, a1, a2, a3, .null, a5] (.null :: st) h Q := w_aloadN dX3_keyBits_21 rfl
theorem X3_keyBits_23 : iWp d mX3_keyBits 23 [a0, a1, a2, a3, a4, a5] (.ref p :: st) h Q = iWp d mX3_keyBits 30 [a0, a1, a2, a3, a4, a5] st h Q := w_ifnonnull dX3_keyBits_23 rfl
theorem X3_keyBits_23n : iWp d mX3_keyBits 23 [a0, a1, a2, a3, a4, a5] (.null :: st) h Q = iWp d mX3_keyBits 26 [a0, a1, a2, a3, a4, a5] st h Q := w_ifnonnullN dX3_keyBits_23
theorem X3_keyBits_26 : iWp d mX3_keyBits 26 [a0, a1, a2, a3, a4, a5] st h Q = iWp d mX3_keyBits 27 [a0, a1, a2, a3, a4, a5] (.int 0 :: st) h Q := w_iconst dX3_keyBits_26 rfl
theorem X3_keyBits_27 : iWp d mX3_keyBits 27 [a0, a1, a2, a3, a4, a5] st h Q = iWp d mX3_keyBits 37 [a0, a1, a2, a3, a4, a5] st h Q := w_goto dX3_keyBits_27 rfl
theorem X3_keyBits_30 : iWp d mX3_keyBits 30 [a0, a1, a2, a3, .ref p, a5] st h Q = iWp d mX3_keyBits 32 [a0, a1, a2, a3, .ref p, a5] (.ref p :: st) h Q := w_aload dX3_keyBits_30 rfl
theorem X3_keyBits_30n : iWp d mX3_keyBits 30 [a0, a1, a2, a3, .null, a5] st h Q = iWp d mX3_keyBits 32 [a0, a1, a2, a3, .null, a5] (.null :: st) h Q := w_aloadN dX3_keyBits_30 rfl
theorem X3_keyBits_32 : iWp d mX3_keyBits 32 [a0, a1, a2, a3, a4, a5] (.ref p :: st) h Q = iOb (iGet h p 2 1) (fun v => iWp d mX3_keyBits 35 [a0, a1, a2, a3, a4, a5] (v :: st) h Q) := w_getf dX3_keyBits_32 fF_3_48
theorem X3_keyBits_35 : iWp d mX3_keyBits 35 [a0, .int x, a2, a3, a4, a5] st h Q = iWp d mX3_keyBits 36 [a0, .int x, a2, a3, a4, a5] (.int x :: st) h Q := w_iload_n dX3_keyBits_35 rfl
theorem X3_keyBits_36 : iWp d mX3_keyBits 36 [a0, a1, a2, a3, a4, a5] (.int y :: .int x :: st) h Q = iWp d mX3_keyBits 37 [a0, a1, a2, a3, a4, a5] (.int (x - y) :: st) h Q := w_isub dX3_keyBits_36
theorem X3_keyBits_37 : iWp d mX3_keyBits 37 [a0, a1, a2, a3, a4, a5] (.int x :: st) h Q = iWp d mX3_keyBits 39 [a0, a1, a2, a3, iClr a4, .int x] st h Q := w_istore dX3_keyBits_37 (Nat.le_of_ble_eq_true rfl) rfl
theorem X3_keyBits_39 : iWp d mX3_keyBits 39 [a0, a1, a2, a3, a4, .int x] st h Q = iWp d mX3_keyBits 41 [a0, a1, a2, a3, a4, .int x] (.int x :: st) h Q := w_iload dX3_keyBits_39 rfl
theorem X3_keyBits_41 : iWp d mX3_keyBits 41 [a0, a1, a2, a3, a4, a5] st h Q = iWp d mX3_keyBits 42 [a0, a1, a2, a3, a4, a5] (.int 1 :: st) h Q := w_iconst dX3_keyBits_41 rfl
theorem X3_keyBits_42 : iWp d mX3_keyBits 42 [a0, a1, a2, a3, a4, a5] (.int y :: .int x :: st) h Q = if x < y then iWp d mX3_keyBits 59 [a0, a1, a2, a3, a4, a5] st h Q else iWp d mX3_keyBits 45 [a0, a1, a2, a3, a4, a5] st h Q := w_icmp_lt dX3_keyBits_42 rfl
theorem X3_keyBits_45 : iWp d mX3_keyBits 45 [a0, a1, a2, a3, a4, .int x] st h Q = iWp d mX3_keyBits 47 [a0, a1, a2, a3, a4, .int x] (.int x :: st) h Q := w_iload dX3_keyBits_45 rfl
theorem X3_keyBits_47 : iWp d mX3_keyBits 47 [a0, a1, a2, a3, a4, a5] st h Q = iWp d mX3_keyBits 49 [a0, a1, a2, a3, a4, a5] (.int 30 :: st) h Q := w_bipush dX3_keyBits_47 rfl
theorem X3_keyBits_49 : iWp d mX3_keyBits 49 [a0, a1, a2, a3, a4, a5] (.int y :: .int x :: st) h Q = if y < x then iWp d mX3_keyBits 59 [a0, a1, a2, a3, a4, a5] st h Q else iWp d mX3_keyBits 52 [a0, a1, a2, a3, a4, a5] st h Q := w_icmp_gt dX3_keyBits_49 rfl
theorem X3_keyBits_52 : iWp d mX3_keyBits 52 [a0, a1, .int x, a3, a4, a5] st h Q = iWp d mX3_keyBits 53 [a0, a1, .int x, a3, a4, a5] (.int x :: st) h Q := w_iload_n dX3_keyBits_52 rfl
theorem X3_keyBits_53 : iWp d mX3_keyBits 53 [a0, a1, a2, a3, a4, a5] st h Q = iWp d mX3_keyBits 54 [a0, a1, a2, a3, a4, a5] (.int 1 :: st) h Q := w_iconst dX3_keyBits_53 rfl
theorem X3_keyBits_54 : iWp d mX3_keyBits 54 [a0, a1, a2, a3, a4, .int x] st h Q = iWp d mX3_keyBits 56 [a0, a1, a2, a3, a4, .int x] (.int x :: st) h Q := w_iload dX3_keyBits_54 rfl
theorem X3_keyBits_56 : iWp d mX3_keyBits 56 [a0, a1, a2, a3, a4, a5] (.int y :: .int x :: st) h Q = iWp d mX3_keyBits 57 [a0, a1, a2, a3, a4, a5] (.int (x <<< (y &&& 31)) :: st) h Q := w_ishl dX3_keyBits_56
theorem X3_keyBits_57 : iWp d mX3_keyBits 57 [a0, a1, a2, a3, a4, a5] (.int y :: .int x :: st) h Q = iWp d mX3_keyBits 58 [a0, a1, a2, a3, a4, a5] (.int (x ||| y) :: st) h Q := w_ior dX3_keyBits_57
theorem X3_keyBits_58 : iWp d mX3_keyBits 58 [a0, a1, a2, a3, a4, a5] (.int x :: st) h Q = iWp d mX3_keyBits 59 [a0, iClr a1, .int x, a3, a4, a5] st h Q := w_istore_n dX3_keyBits_58 (Nat.le_of_ble_eq_true rfl) rfl
theorem X3_keyBits_59 : iWp d mX3_keyBits 59 [a0, a1, a2, .int x, a4, a5] st h Q = iWp d mX3_keyBits 62 [a0, a1, iClr a2, .int (x + 1), a4, a5] st h Q := w_iinc dX3_keyBits_59 rfl (Nat.le_of_ble_eq_true rfl) rfl
theorem X3_keyBits_62 : iWp d mX3_keyBits 62 [a0, a1, a2, a3, a4, a5] st h Q = iWp d mX3_keyBits 4 [a0, a1, a2, a3, a4, a5] st h Q := w_goto dX3_keyBits_62 rfl
theorem X3_keyBits_65 : iWp d mX3_keyBits 65 [a0, a1, .int x, a3, a4, a5] st h Q = iWp d mX3_keyBits 66 [a0, a1, .int x, a3, a4, a5] (.int x :: st) h Q := w_iload_n dX3_keyBits_65 rfl
theorem X3_keyBits_66 : iWp d mX3_keyBits 66 [a0, a1, a2, a3, a4, a5] [.int x] h Q = Q (some (.int x)) h := w_ireti dX3_keyBits_66 rfl
theorem I3_keyBits {Q : Option Value → iHp → Prop} (hw : iWp 1 mX3_keyBits 0 [.ref p, .int x0, iU, iU, iU, iU] [] h Q) : ∃ r h1, iEv mX3_keyBits [.ref p, .int x0] h r h1 ∧ Q r h1 := iEv_of (by rfl) rfl hw
theorem J3_keyBits {r : Option Value} {h1 : iHp} (hw : iWp 1 mX3_keyBits 0 [.ref p, .int x0, iU, iU, iU, iU] [] h (fun r' h' => r' = r ∧ h' = h1)) : iEv mX3_keyBits [.ref p, .int x0] h r h1 := iEv_ev (by rfl) rfl hw
theorem X3_saysAs_0 : iWp d mX3_saysAs 0 [a0, .int x] st h Q = iWp d mX3_saysAs 1 [a0, .int x] (.int x :: st) h Q := w_iload_n dX3_saysAs_0 rfl
theorem X3_saysAs_1_2 : iWp d mX3_saysAs 1 [a0, a1] (.int 2 :: st) h Q = iWp d mX3_saysAs 28 [a0, a1] st h Q := w_lookup dX3_saysAs_1 rfl rfl rfl
theorem X3_saysAs_1_3 : iWp d mX3_saysAs 1 [a0, a1] (.int 3 :: st) h Q = iWp d mX3_saysAs 33 [a0, a1] st h Q := w_lookup dX3_saysAs_1 rfl rfl rfl
theorem X3_saysAs_1_d (hx : x.toInt ≠ 2 ∧ x.toInt ≠ 3) : iWp d mX3_saysAs 1 [a0, a1] (.int x :: st) h Q = iWp d mX3_saysAs 38 [a0, a1] st h Q := w_lookup (o := 37) dX3_saysAs_1 rfl (by obtain ⟨e0, e1⟩ := hx; simp [Op.lookupswitch.offset, Ne.symm e0, e0, Ne.symm e1, e1]) rfl
theorem X3_saysAs_28 : iWp d mX3_saysAs 28 [.ref p, a1] st h Q = iWp d mX3_saysAs 29 [.ref p, a1] (.ref p :: st) h Q := w_aload_n dX3_saysAs_28 rfl
theorem X3_saysAs_29 : iWp d mX3_saysAs 29 [a0, a1] (.ref p :: st) h Q = iOb (iGet h p 3 4) (fun v => iWp d mX3_saysAs 32 [a0, a1] (v :: st) h Q) := w_getf dX3_saysAs_29 fF_3_33
theorem X3_saysAs_32 : iWp d mX3_saysAs 32 [a0, a1] [.int x] h Q = Q (some (.int x)) h := w_ireti dX3_saysAs_32 rfl
theorem X3_saysAs_33 : iWp d mX3_saysAs 33 [.ref p, a1] st h Q = iWp d mX3_saysAs 34 [.ref p, a1] (.ref p :: st) h Q := w_aload_n dX3_saysAs_33 rfl
theorem X3_saysAs_34 (he : iEv mX3_conflictCount [.ref p] h (some (.int rv)) h2) (ho : iObj h p 3 = true) : iWp 2 mX3_saysAs 34 [a0, a1] [.ref p] h Q = iWp 2 mX3_saysAs 37 [a0, a1] [.int rv] h2 Q := iWp_cV dX3_saysAs_34 fK_3_39 rfl rfl ho (Nat.le_of_ble_eq_true rfl) (Nat.le_of_ble_eq_true rfl) rfl (Nat.le_of_ble_eq_true rfl) he rfl
theorem X3_saysAs_37 : iWp d mX3_saysAs 37 [a0, a1] [.int x] h Q = Q (some (.int x)) h := w_ireti dX3_saysAs_37 rfl
theorem X3_saysAs_38 : iWp d mX3_saysAs 38 [.ref p, a1] st h Q = iWp d mX3_saysAs 39 [.ref p, a1] (.ref p :: st) h Q := w_aload_n dX3_saysAs_38 rfl
theorem X3_saysAs_39 : iWp d mX3_saysAs 39 [a0, a1] (.ref p :: st) h Q = iOb (iGet h p 3 1) (fun v => iWp d mX3_saysAs 42 [a0, a1] (v :: st) h Q) := w_getf dX3_saysAs_39 fF_3_15
theorem X3_saysAs_42 : iWp d mX3_saysAs 42 [a0, a1] (.ref p :: st) h Q = iOb (iLen h p) (fun v => iWp d mX3_saysAs 43 [a0, a1] (.int v :: st) h Q) := w_alen dX3_saysAs_42
theorem X3_saysAs_43 : iWp d mX3_saysAs 43 [a0, a1] [.int x] h Q = Q (some (.int x)) h := w_ireti dX3_saysAs_43 rfl
theorem I3_saysAs {Q : Option Value → iHp → Prop} (hw : iWp 2 mX3_saysAs 0 [.ref p, .int x0] [] h Q) : ∃ r h1, iEv mX3_saysAs [.ref p, .int x0] h r h1 ∧ Q r h1 := iEv_of (by rfl) rfl hw
theorem J3_saysAs {r : Option Value} {h1 : iHp} (hw : iWp 2 mX3_saysAs 0 [.ref p, .int x0] [] h (fun r' h' => r' = r ∧ h' = h1)) : iEv mX3_saysAs [.ref p, .int x0] h r h1 := iEv_ev (by rfl) rfl hw
theorem X3_size_0 : iWp d mX3_size 0 [.ref p] st h Q = iWp d mX3_size 1 [.ref p] (.ref p :: st) h Q := w_aload_n dX3_size_0 rfl
theorem X3_size_1 : iWp d mX3_size 1 [a0] (.ref p :: st) h Q = iOb (iGet h p 3 1) (fun v => iWp d mX3_size 4 [a0] (v :: st) h Q) := w_getf dX3_size_1 fF_3_15
theorem X3_size_4 : iWp d mX3_size 4 [a0] (.ref p :: st) h Q = iOb (iLen h p) (fun v => iWp d mX3_size 5 [a0] (.int v :: st) h Q) := w_alen dX3_size_4
theorem X3_size_5 : iWp d mX3_size 5 [a0] [.int x] h Q = Q (some (.int x)) h := w_ireti dX3_size_5 rfl
theorem I3_size {Q : Option Value → iHp → Prop} (hw : iWp 1 mX3_size 0 [.ref p] [] h Q) : ∃ r h1, iEv mX3_size [.ref p] h r h1 ∧ Q r h1 := iEv_of (by rfl) rfl hw
theorem J3_size {r : Option Value} {h1 : iHp} (hw : iWp 1 mX3_size 0 [.ref p] [] h (fun r' h' => r' = r ∧ h' = h1)) : iEv mX3_size [.ref p] h r h1 := iEv_ev (by rfl) rfl hw
theorem X4_init_0 : iWp d mX4_init 0 [.ref p, a1] st h Q = iWp d mX4_init 1 [.ref p, a1] (.ref p :: st) h Q := w_aload_n dX4_init_0 rfl
theorem X4_init_1 (hs : iSum st ≤ 8) : iWp d mX4_init 1 [a0, a1] (.ref p :: st) h Q = iWp d mX4_init 4 [a0, a1] st h Q := iWp_k dX4_init_1 rfl (fun _ _ => iObS hs fK_4_3 rfl rfl)
theorem X4_init_4 : iWp d mX4_init 4 [.ref p, a1] st h Q = iWp d mX4_init 5 [.ref p, a1] (.ref p :: st) h Q := w_aload_n dX4_init_4 rfl
theorem X4_init_5 : iWp d mX4_init 5 [a0, a1] st h Q = iWp d mX4_init 8 [a0, a1] (.ref h.2.1 :: st) (iNewO h 7) Q := w_new dX4_init_5 fC_4_9
theorem X4_init_8 : iWp d mX4_init 8 [a0, a1] (.ref p :: st) h Q = iWp d mX4_init 9 [a0, a1] (.ref p :: .ref p :: st) h Q := w_dup dX4_init_8 rfl
theorem X4_init_9 (he : iEv mX7_init [.ref p] h none h2) : iWp 2 mX4_init 9 [a0, a1] [.ref p, .ref t0, .ref t1] h Q = iWp 2 mX4_init 12 [a0, a1] [.ref t0, .ref t1] h2 Q := iWp_cI dX4_init_9 fK_4_11 rfl rfl (Nat.le_of_ble_eq_true rfl) (Nat.le_of_ble_eq_true rfl) rfl (Nat.le_of_ble_eq_true rfl) he rfl
theorem X4_init_12 : iWp d mX4_init 12 [a0, a1] (.ref q :: .ref p :: st) h Q = iOb (iPut h p 4 0 (.ref q)) (fun g => iWp d mX4_init 15 [a0, a1] st g Q) := w_putf dX4_init_12 fF_4_12 ⟨rfl, (Or.inr ⟨rfl, rfl⟩)⟩
theorem X4_init_12n : iWp d mX4_init 12 [a0, a1] (.null :: .ref p :: st) h Q = iOb (iPut h p 4 0 (.null)) (fun g => iWp d mX4_init 15 [a0, a1] st g Q) := w_putf dX4_init_12 fF_4_12 ⟨rfl, (Or.inr ⟨rfl, rfl⟩)⟩
theorem X4_init_15 : iWp d mX4_init 15 [.ref p, a1] st h Q = iWp d mX4_init 16 [.ref p, a1] (.ref p :: st) h Q := w_aload_n dX4_init_15 rfl
theorem X4_init_16 : iWp d mX4_init 16 [a0, a1] st h Q = iWp d mX4_init 17 [a0, a1] (.int 0 :: st) h Q := w_iconst dX4_init_16 rfl
theorem X4_init_17 : iWp d mX4_init 17 [a0, a1] (.int x :: .ref p :: st) h Q = iOb (iPut h p 4 2 (.int x)) (fun g => iWp d mX4_init 20 [a0, a1] st g Q) := w_putf dX4_init_17 fF_4_18 ⟨rfl, (Or.inl rfl)⟩
theorem X4_init_20 : iWp d mX4_init 20 [.ref p, a1] st h Q = iWp d mX4_init 21 [.ref p, a1] (.ref p :: st) h Q := w_aload_n dX4_init_20 rfl
theorem X4_init_21 : iWp d mX4_init 21 [a0, a1] st h Q = iWp d mX4_init 22 [a0, a1] (.int 0 :: st) h Q := w_iconst dX4_init_21 rfl
theorem X4_init_22 : iWp d mX4_init 22 [a0, a1] (.int x :: .ref p :: st) h Q = iOb (iPut h p 4 3 (.int x)) (fun g => iWp d mX4_init 25 [a0, a1] st g Q) := w_putf dX4_init_22 fF_4_22 ⟨rfl, (Or.inl rfl)⟩
theorem X4_init_25 : iWp d mX4_init 25 [.ref p, a1] st h Q = iWp d mX4_init 26 [.ref p, a1] (.ref p :: st) h Q := w_aload_n dX4_init_25 rfl
theorem X4_init_26 : iWp d mX4_init 26 [a0, .ref p] st h Q = iWp d mX4_init 27 [a0, .ref p] (.ref p :: st) h Q := w_aload_n dX4_init_26 rfl
theorem X4_init_26n : iWp d mX4_init 26 [a0, .null] st h Q = iWp d mX4_init 27 [a0, .null] (.null :: st) h Q := w_aload_nN dX4_init_26 rfl
theorem X4_init_27 : iWp d mX4_init 27 [a0, a1] (.ref q :: .ref p :: st) h Q = iOb (iPut h p 4 1 (.ref q)) (fun g => iWp d mX4_init 30 [a0, a1] st g Q) := w_putf dX4_init_27 fF_4_25 ⟨rfl, (Or.inr ⟨rfl, rfl⟩)⟩
theorem X4_init_27n : iWp d mX4_init 27 [a0, a1] (.null :: .ref p :: st) h Q = iOb (iPut h p 4 1 (.null)) (fun g => iWp d mX4_init 30 [a0, a1] st g Q) := w_putf dX4_init_27 fF_4_25 ⟨rfl, (Or.inr ⟨rfl, rfl⟩)⟩
theorem X4_init_30 : iWp d mX4_init 30 [a0, a1] [] h Q = Q none h := w_ret dX4_init_30 rfl
theorem I4_init {Q : Option Value → iHp → Prop} (c0 : b0.category = 1) (hw : iWp 2 mX4_init 0 [.ref p, b0] [] h Q) : ∃ r h1, iEv mX4_init [.ref p, b0] h r h1 ∧ Q r h1 := iEv_of (by rfl) (by simp [iInit, cat_i, cat_r, cat_l, mX4_init, c0]) hw
theorem J4_init {r : Option Value} {h1 : iHp} (c0 : b0.category = 1) (hw : iWp 2 mX4_init 0 [.ref p, b0] [] h (fun r' h' => r' = r ∧ h' = h1)) : iEv mX4_init [.ref p, b0] h r h1 := iEv_ev (by rfl) (by simp [iInit, cat_i, cat_r, cat_l, mX4_init, c0]) hw
theorem X4_isDigit_0 : iWp d mX4_isDigit 0 [.ref p, a1, a2] st h Q = iWp d mX4_isDigit 1 [.ref p, a1, a2] (.ref p :: st) h Q := w_aload_n dX4_isDigit_0 rfl
theorem X4_isDigit_1 : iWp d mX4_isDigit 1 [a0, a1, a2] (.ref p :: st) h Q = iOb (iGet h p 4 1) (fun v => iWp d mX4_isDigit 4 [a0, a1, a2] (v :: st) h Q) := w_getf dX4_isDigit_1 fF_4_25
theorem X4_isDigit_4 : iWp d mX4_isDigit 4 [a0, .int x, a2] st h Q = iWp d mX4_isDigit 5 [a0, .int x, a2] (.int x :: st) h Q := w_iload_n dX4_isDigit_4 rfl
theorem X4_isDigit_5 (he : iEv mX5_intAt [.ref p, .int x0] h (some (.int rv)) h2) (ho : iObj h p 5 = true) : iWp 4 mX4_isDigit 5 [a0, a1, a2] [.int x0, .ref p] h Q = iWp 4 mX4_isDigit 8 [a0, a1, a2] [.int rv] h2 Q := iWp_cV dX4_isDigit_5 fK_4_42 rfl rfl ho (Nat.le_of_ble_eq_true rfl) (Nat.le_of_ble_eq_true rfl) rfl (Nat.le_of_ble_eq_true rfl) he rfl
theorem X4_isDigit_8 : iWp d mX4_isDigit 8 [a0, a1, a2] (.int x :: st) h Q = iWp d mX4_isDigit 9 [a0, iClr a1, .int x] st h Q := w_istore_n dX4_isDigit_8 (Nat.le_of_ble_eq_true rfl) rfl
theorem X4_isDigit_9 : iWp d mX4_isDigit 9 [a0, a1, .int x] st h Q = iWp d mX4_isDigit 10 [a0, a1, .int x] (.int x :: st) h Q := w_iload_n dX4_isDigit_9 rfl
theorem X4_isDigit_10 : iWp d mX4_isDigit 10 [a0, a1, a2] st h Q = iWp d mX4_isDigit 12 [a0, a1, a2] (.int 48 :: st) h Q := w_bipush dX4_isDigit_10 rfl
theorem X4_isDigit_12 : iWp d mX4_isDigit 12 [a0, a1, a2] (.int y :: .int x :: st) h Q = if x < y then iWp d mX4_isDigit 25 [a0, a1, a2] st h Q else iWp d mX4_isDigit 15 [a0, a1, a2] st h Q := w_icmp_lt dX4_isDigit_12 rfl
theorem X4_isDigit_15 : iWp d mX4_isDigit 15 [a0, a1, .int x] st h Q = iWp d mX4_isDigit 16 [a0, a1, .int x] (.int x :: st) h Q := w_iload_n dX4_isDigit_15 rfl
theorem X4_isDigit_16 : iWp d mX4_isDigit 16 [a0, a1, a2] st h Q = iWp d mX4_isDigit 18 [a0, a1, a2] (.int 57 :: st) h Q := w_bipush dX4_isDigit_16 rfl
theorem X4_isDigit_18 : iWp d mX4_isDigit 18 [a0, a1, a2] (.int y :: .int x :: st) h Q = if y < x then iWp d mX4_isDigit 25 [a0, a1, a2] st h Q else iWp d mX4_isDigit 21 [a0, a1, a2] st h Q := w_icmp_gt dX4_isDigit_18 rfl
theorem X4_isDigit_21 : iWp d mX4_isDigit 21 [a0, a1, a2] st h Q = iWp d mX4_isDigit 22 [a0, a1, a2] (.int 1 :: st) h Q := w_iconst dX4_isDigit_21 rfl
theorem X4_isDigit_22 : iWp d mX4_isDigit 22 [a0, a1, a2] st h Q = iWp d mX4_isDigit 26 [a0, a1, a2] st h Q := w_goto dX4_isDigit_22 rfl
theorem X4_isDigit_25 : iWp d mX4_isDigit 25 [a0, a1, a2] st h Q = iWp d mX4_isDigit 26 [a0, a1, a2] (.int 0 :: st) h Q := w_iconst dX4_isDigit_25 rfl
theorem X4_isDigit_26 : iWp d mX4_isDigit 26 [a0, a1, a2] [.int (iB b)] h Q = Q (some (.int (iB b))) h := w_iretb dX4_isDigit_26 rfl
theorem X4_isDigit_26z : iWp d mX4_isDigit 26 [a0, a1, a2] [.int 0] h Q = Q (some (.int (iB false))) h := w_iretb (bb := false) dX4_isDigit_26 rfl
theorem X4_isDigit_26o : iWp d mX4_isDigit 26 [a0, a1, a2] [.int 1] h Q = Q (some (.int (iB true))) h := w_iretb (bb := true) dX4_isDigit_26 rfl
theorem I4_isDigit {Q : Option Value → iHp → Prop} (hw : iWp 4 mX4_isDigit 0 [.ref p, .int x0, iU] [] h Q) : ∃ r h1, iEv mX4_isDigit [.ref p, .int x0] h r h1 ∧ Q r h1 := iEv_of (by rfl) rfl hw
theorem J4_isDigit {r : Option Value} {h1 : iHp} (hw : iWp 4 mX4_isDigit 0 [.ref p, .int x0, iU] [] h (fun r' h' => r' = r ∧ h' = h1)) : iEv mX4_isDigit [.ref p, .int x0] h r h1 := iEv_ev (by rfl) rfl hw
theorem X4_read_0 : iWp d mX4_read 0 [.ref p, a1, a2, a3, a4] st h Q = iWp d mX4_read 1 [.ref p, a1, a2, a3, a4] (.ref p :: st) h Q := w_aload_n dX4_read_0 rfl
theorem X4_read_1 : iWp d mX4_read 1 [a0, a1, a2, a3, a4] (.ref p :: st) h Q = iOb (iGet h p 4 1) (fun v => iWp d mX4_read 4 [a0, a1, a2, a3, a4] (v :: st) h Q) := w_getf dX4_read_1 fF_4_25
theorem X4_read_4 (he : iEv mX5_length [.ref p] h (some (.int rv)) h2) (ho : iObj h p 5 = true) : iWp 6 mX4_read 4 [a0, a1, a2, a3, a4] [.ref p] h Q = iWp 6 mX4_read 7 [a0, a1, a2, a3, a4] [.int rv] h2 Q := iWp_cV dX4_read_4 fK_4_29 rfl rfl ho (Nat.le_of_ble_eq_true rfl) (Nat.le_of_ble_eq_true rfl) rfl (Nat.le_of_ble_eq_true rfl) he rfl
theorem X4_read_7 : iWp d mX4_read 7 [a0, a1, a2, a3, a4] (.int x :: st) h Q = iWp d mX4_read 8 [iClr a0, .int x, a2, a3, a4] st h Q := w_istore_n dX4_read_7 (Nat.le_of_ble_eq_true rfl) rfl
theorem X4_read_8 : iWp d mX4_read 8 [a0, a1, a2, a3, a4] st h Q = iWp d mX4_read 9 [a0, a1, a2, a3, a4] (.int 0 :: st) h Q := w_iconst dX4_read_8 rfl
theorem X4_read_9 : iWp d mX4_read 9 [a0, a1, a2, a3, a4] (.int x :: st) h Q = iWp d mX4_read 10 [a0, iClr a1, .int x, a3, a4] st h Q := w_istore_n dX4_read_9 (Nat.le_of_ble_eq_true rfl) rfl
theorem X4_read_10 : iWp d mX4_read 10 [a0, a1, a2, a3, a4] st h Q = iWp d mX4_read 11 [a0, a1, a2, a3, a4] (.int 0 :: st) h Q := w_iconst dX4_read_10 rfl
theorem X4_read_11 : iWp d mX4_read 11 [a0, a1, a2, a3, a4] (.int x :: st) h Q = iWp d mX4_read 12 [a0, a1, iClr a2, .int x, a4] st h Q := w_istore_n dX4_read_11 (Nat.le_of_ble_eq_true rfl) rfl
theorem X4_read_12 : iWp d mX4_read 12 [a0, a1, a2, .int x, a4] st h Q = iWp d mX4_read 13 [a0, a1, a2, .int x, a4] (.int x :: st) h Q := w_iload_n dX4_read_12 rfl
theorem X4_read_13 : iWp d mX4_read 13 [a0, .int x, a2, a3, a4] st h Q = iWp d mX4_read 14 [a0, .int x, a2, a3, a4] (.int x :: st) h Q := w_iload_n dX4_read_13 rfl
theorem X4_read_14 : iWp d mX4_read 14 [a0, a1, a2, a3, a4] (.int y :: .int x :: st) h Q = if y ≤ x then iWp d mX4_read 71 [a0, a1, a2, a3, a4] st h Q else iWp d mX4_read 17 [a0, a1, a2, a3, a4] st h Q := w_icmp_ge dX4_read_14 rfl
theorem X4_read_17 : iWp d mX4_read 17 [.ref p, a1, a2, a3, a4] st h Q = iWp d mX4_read 18 [.ref p, a1, a2, a3, a4] (.ref p :: st) h Q := w_aload_n dX4_read_17 rfl
theorem X4_read_18 : iWp d mX4_read 18 [a0, a1, a2, a3, a4] (.ref p :: st) h Q = iOb (iGet h p 4 2) (fun v => iWp d mX4_read 21 [a0, a1, a2, a3, a4] (v :: st) h Q) := w_getf dX4_read_18 fF_4_18
theorem X4_read_21 : iWp d mX4_read 21 [a0, .int x, a2, a3, a4] st h Q = iWp d mX4_read 22 [a0, .int x, a2, a3, a4] (.int x :: st) h Q := w_iload_n dX4_read_21 rfl
theorem X4_read_22 : iWp d mX4_read 22 [a0, a1, a2, a3, a4] (.int y :: .int x :: st) h Q = if y ≤ x then iWp d mX4_read 71 [a0, a1, a2, a3, a4] st h Q else iWp d mX4_read 25 [a0, a1, a2, a3, a4] st h Q := w_icmp_ge dX4_read_22 rfl
theorem X4_read_25 : iWp d mX4_read 25 [a0, a1, .int x, a3, a4] st h Q = iWp d mX4_read 26 [a0, a1, .int x, a3, a4] (.int x :: st) h Q := w_iload_n dX4_read_25 rfl
theorem X4_read_26 : iWp d mX4_read 26 [a0, a1, a2, a3, a4] (.int x :: st) h Q = if x = 0 then iWp d mX4_read 29 [a0, a1, a2, a3, a4] st h Q else iWp d mX4_read 49 [a0, a1, a2, a3, a4] st h Q := w_ifc_ne dX4_read_26 rfl
theorem X4_read_29 : iWp d mX4_read 29 [.ref p, a1, a2, a3, a4] st h Q = iWp d mX4_read 30 [.ref p, a1, a2, a3, a4] (.ref p :: st) h Q := w_aload_n dX4_read_29 rfl
theorem X4_read_30 (he : iEv mX4_readNode [.ref p] h (some (.int rv)) h2) (ho : iObj h p 4 = true) : iWp 6 mX4_read 30 [a0, a1, a2, a3, a4] [.ref p] h Q = iWp 6 mX4_read 33 [a0, a1, a2, a3, a4] [.int rv] h2 Q := iWp_cV dX4_read_30 fK_4_35 rfl rfl ho (Nat.le_of_ble_eq_true rfl) (Nat.le_of_ble_eq_true rfl) rfl (Nat.le_of_ble_eq_true rfl) he rfl
theorem X4_read_33 : iWp d mX4_read 33 [a0, a1, a2, a3, a4] (.int x :: st) h Q = iWp d mX4_read 35 [a0, a1, a2, iClr a3, .int x] st h Q := w_istore dX4_read_33 (Nat.le_of_ble_eq_true rfl) rfl
theorem X4_read_35 : iWp d mX4_read 35 [a0, a1, a2, a3, .int x] st h Q = iWp d mX4_read 37 [a0, a1, a2, a3, .int x] (.int x :: st) h Q := w_iload dX4_read_35 rfl
theorem X4_read_37 : iWp d mX4_read 37 [a0, a1, a2, a3, a4] st h Q = iWp d mX4_read 38 [a0, a1, a2, a3, a4] (.int (-1) :: st) h Q := w_iconst dX4_read_37 rfl
theorem X4_read_38 : iWp d mX4_read 38 [a0, a1, a2, a3, a4] (.int y :: .int x :: st) h Q = if x = y then iWp d mX4_read 44 [a0, a1, a2, a3, a4] st h Q else iWp d mX4_read 41 [a0, a1, a2, a3, a4] st h Q := w_icmp_eq dX4_read_38 rfl
theorem X4_read_41 : iWp d mX4_read 41 [a0, a1, a2, a3, .int x] st h Q = iWp d mX4_read 43 [a0, a1, a2, a3, .int x] (.int x :: st) h Q := w_iload dX4_read_41 rfl
theorem X4_read_43 : iWp d mX4_read 43 [a0, a1, a2, a3, a4] [.int x] h Q = Q (some (.int x)) h := w_ireti dX4_read_43 rfl
theorem X4_read_44 : iWp d mX4_read 44 [a0, a1, a2, a3, a4] st h Q = iWp d mX4_read 45 [a0, a1, a2, a3, a4] (.int 1 :: st) h Q := w_iconst dX4_read_44 rfl
theorem X4_read_45 : iWp d mX4_read 45 [a0, a1, a2, a3, a4] (.int x :: st) h Q = iWp d mX4_read 46 [a0, iClr a1, .int x, a3, a4] st h Q := w_istore_n dX4_read_45 (Nat.le_of_ble_eq_true rfl) rfl
theorem X4_read_46 : iWp d mX4_read 46 [a0, a1, a2, a3, a4] st h Q = iWp d mX4_read 65 [a0, a1, a2, a3, a4] st h Q := w_goto dX4_read_46 rfl
theorem X4_read_49 : iWp d mX4_read 49 [.ref p, a1, a2, a3, a4] st h Q = iWp d mX4_read 50 [.ref p, a1, a2, a3, a4] (.ref p :: st) h Q := w_aload_n dX4_read_49 rfl
theorem X4_read_50 : iWp d mX4_read 50 [a0, a1, .int x, a3, a4] st h Q = iWp d mX4_read 51 [a0, a1, .int x, a3, a4] (.int x :: st) h Q := w_iload_n dX4_read_50 rfl
theorem X4_read_51 (he : iEv mX4_readSign [.ref p, .int x0] h (some (.int rv)) h2) (ho : iObj h p 4 = true) : iWp 6 mX4_read 51 [a0, a1, a2, a3, a4] [.int x0, .ref p] h Q = iWp 6 mX4_read 54 [a0, a1, a2, a3, a4] [.int rv] h2 Q := iWp_cV dX4_read_51 fK_4_38 rfl rfl ho (Nat.le_of_ble_eq_true rfl) (Nat.le_of_ble_eq_true rfl) rfl (Nat.le_of_ble_eq_true rfl) he rfl
theorem X4_read_54 : iWp d mX4_read 54 [a0, a1, a2, a3, a4] (.int x :: st) h Q = iWp d mX4_read 55 [a0, iClr a1, .int x, a3, a4] st h Q := w_istore_n dX4_read_54 (Nat.le_of_ble_eq_true rfl) rfl
theorem X4_read_55 : iWp d mX4_read 55 [a0, a1, .int x, a3, a4] st h Q = iWp d mX4_read 56 [a0, a1, .int x, a3, a4] (.int x :: st) h Q := w_iload_n dX4_read_55 rfl
theorem X4_read_56 : iWp d mX4_read 56 [a0, a1, a2, a3, a4] st h Q = iWp d mX4_read 57 [a0, a1, a2, a3, a4] (.int (-1) :: st) h Q := w_iconst dX4_read_56 rfl
theorem X4_read_57 : iWp d mX4_read 57 [a0, a1, a2, a3, a4] (.int y :: .int x :: st) h Q = if x = y then iWp d mX4_read 60 [a0, a1, a2, a3, a4] st h Q else iWp d mX4_read 65 [a0, a1, a2, a3, a4] st h Q := w_icmp_ne dX4_read_57 rfl
theorem X4_read_60 : iWp d mX4_read 60 [.ref p, a1, a2, a3, a4] st h Q = iWp d mX4_read 61 [.ref p, a1, a2, a3, a4] (.ref p :: st) h Q := w_aload_n dX4_read_60 rfl
theorem X4_read_61 : iWp d mX4_read 61 [a0, a1, a2, a3, a4] (.ref p :: st) h Q = iOb (iGet h p 4 2) (fun v => iWp d mX4_read 64 [a0, a1, a2, a3, a4] (v :: st) h Q) := w_getf dX4_read_61 fF_4_18
theorem X4_read_64 : iWp d mX4_read 64 [a0, a1, a2, a3, a4] [.int x] h Q = Q (some (.int x)) h := w_ireti dX4_read_64 rfl
theorem X4_read_65 : iWp d mX4_read 65 [a0, a1, a2, .int x, a4] st h Q = iWp d mX4_read 68 [a0, a1, iClr a2, .int (x + 1), a4] st h Q := w_iinc dX4_read_65 rfl (Nat.le_of_ble_eq_true rfl) rfl
theorem X4_read_68 : iWp d mX4_read 68 [a0, a1, a2, a3, a4] st h Q = iWp d mX4_read 12 [a0, a1, a2, a3, a4] st h Q := w_goto dX4_read_68 rfl
theorem X4_read_71 : iWp d mX4_read 71 [a0, a1, .int x, a3, a4] st h Q = iWp d mX4_read 72 [a0, a1, .int x, a3, a4] (.int x :: st) h Q := w_iload_n dX4_read_71 rfl
theorem X4_read_72 : iWp d mX4_read 72 [a0, a1, a2, a3, a4] (.int x :: st) h Q = if x = 0 then iWp d mX4_read 86 [a0, a1, a2, a3, a4] st h Q else iWp d mX4_read 75 [a0, a1, a2, a3, a4] st h Q := w_ifc_eq dX4_read_72 rfl
theorem X4_read_75 : iWp d mX4_read 75 [.ref p, a1, a2, a3, a4] st h Q = iWp d mX4_read 76 [.ref p, a1, a2, a3, a4] (.ref p :: st) h Q := w_aload_n dX4_read_75 rfl
theorem X4_read_76 : iWp d mX4_read 76 [a0, a1, a2, a3, a4] (.ref p :: st) h Q = iOb (iGet h p 4 3) (fun v => iWp d mX4_read 79 [a0, a1, a2, a3, a4] (v :: st) h Q) := w_getf dX4_read_76 fF_4_22
theorem X4_read_79 : iWp d mX4_read 79 [a0, a1, a2, a3, a4] (.int x :: st) h Q = if x = 0 then iWp d mX4_read 82 [a0, a1, a2, a3, a4] st h Q else iWp d mX4_read 86 [a0, a1, a2, a3, a4] st h Q := w_ifc_ne dX4_read_79 rfl
theorem X4_read_82 : iWp d mX4_read 82 [a0, a1, a2, a3, a4] st h Q = iWp d mX4_read 83 [a0, a1, a2, a3, a4] (.int (-1) :: st) h Q := w_iconst dX4_read_82 rfl
theorem X4_read_83 : iWp d mX4_read 83 [a0, a1, a2, a3, a4] st h Q = iWp d mX4_read 87 [a0, a1, a2, a3, a4] st h Q := w_goto dX4_read_83 rfl
theorem X4_read_86 : iWp d mX4_read 86 [a0, .int x, a2, a3, a4] st h Q = iWp d mX4_read 87 [a0, .int x, a2, a3, a4] (.int x :: st) h Q := w_iload_n dX4_read_86 rfl
theorem X4_read_87 : iWp d mX4_read 87 [a0, a1, a2, a3, a4] [.int x] h Q = Q (some (.int x)) h := w_ireti dX4_read_87 rfl
theorem I4_read {Q : Option Value → iHp → Prop} (hw : iWp 6 mX4_read 0 [.ref p, iU, iU, iU, iU] [] h Q) : ∃ r h1, iEv mX4_read [.ref p] h r h1 ∧ Q r h1 := iEv_of (by rfl) rfl hw
theorem J4_read {r : Option Value} {h1 : iHp} (hw : iWp 6 mX4_read 0 [.ref p, iU, iU, iU, iU] [] h (fun r' h' => r' = r ∧ h' = h1)) : iEv mX4_read [.ref p] h r h1 := iEv_ev (by rfl) rfl hw
theorem X4_readNode_0 : iWp d mX4_readNode 0 [.ref p, a1, a2, a3] st h Q = iWp d mX4_readNode 1 [.ref p, a1, a2, a3] (.ref p :: st) h Q := w_aload_n dX4_readNode_0 rfl
theorem X4_readNode_1 : iWp d mX4_readNode 1 [a0, a1, a2, a3] (.ref p :: st) h Q = iOb (iGet h p 4 1) (fun v => iWp d mX4_readNode 4 [a0, a1, a2, a3] (v :: st) h Q) := w_getf dX4_readNode_1 fF_4_25
theorem X4_readNode_4 : iWp d mX4_readNode 4 [.ref p, a1, a2, a3] st h Q = iWp d mX4_readNode 5 [.ref p, a1, a2, a3] (.ref p :: st) h Q := w_aload_n dX4_readNode_4 rfl
theorem X4_readNode_5 : iWp d mX4_readNode 5 [a0, a1, a2, a3] (.ref p :: st) h Q = iOb (iGet h p 4 2) (fun v => iWp d mX4_readNode 8 [a0, a1, a2, a3] (v :: st) h Q) := w_getf dX4_readNode_5 fF_4_18
theorem X4_readNode_8 (he : iEv mX5_intAt [.ref p, .int x0] h (some (.int rv)) h2) (ho : iObj h p 5 = true) : iWp 5 mX4_readNode 8 [a0, a1, a2, a3] [.int x0, .ref p] h Q = iWp 5 mX4_readNode 11 [a0, a1, a2, a3] [.int rv] h2 Q := iWp_cV dX4_readNode_8 fK_4_42 rfl rfl ho (Nat.le_of_ble_eq_true rfl) (Nat.le_of_ble_eq_true rfl) rfl (Nat.le_of_ble_eq_true rfl) he rfl
theorem X4_readNode_11 : iWp d mX4_readNode 11 [a0, a1, a2, a3] (.int x :: st) h Q = iWp d mX4_readNode 12 [iClr a0, .int x, a2, a3] st h Q := w_istore_n dX4_readNode_11 (Nat.le_of_ble_eq_true rfl) rfl
theorem X4_readNode_12 : iWp d mX4_readNode 12 [a0, .int x, a2, a3] st h Q = iWp d mX4_readNode 13 [a0, .int x, a2, a3] (.int x :: st) h Q := w_iload_n dX4_readNode_12 rfl
theorem X4_readNode_13 (he : iEv mX8_isLabel [.int x0] h (some (.int rv)) h2) : iWp 5 mX4_readNode 13 [a0, a1, a2, a3] [.int x0] h Q = iWp 5 mX4_readNode 16 [a0, a1, a2, a3] [.int rv] h2 Q := iWp_cSN dX4_readNode_13 fK_4_45 rfl rfl (Nat.le_of_ble_eq_true rfl) (Nat.le_of_ble_eq_true rfl) rfl (Nat.le_of_ble_eq_true rfl) he rfl
theorem X4_readNode_16 : iWp d mX4_readNode 16 [a0, a1, a2, a3] (.int x :: st) h Q = if x = 0 then iWp d mX4_readNode 31 [a0, a1, a2, a3] st h Q else iWp d mX4_readNode 19 [a0, a1, a2, a3] st h Q := w_ifc_eq dX4_readNode_16 rfl
theorem X4_readNode_19 : iWp d mX4_readNode 19 [.ref p, a1, a2, a3] st h Q = iWp d mX4_readNode 20 [.ref p, a1, a2, a3] (.ref p :: st) h Q := w_aload_n dX4_readNode_19 rfl
theorem X4_readNode_20 : iWp d mX4_readNode 20 [a0, a1, a2, a3] (.ref p :: st) h Q = iOb (iGet h p 4 0) (fun v => iWp d mX4_readNode 23 [a0, a1, a2, a3] (v :: st) h Q) := w_getf dX4_readNode_20 fF_4_12
theorem X4_readNode_23 : iWp d mX4_readNode 23 [a0, a1, a2, a3] (.ref p :: st) h Q = iOb (iGet h p 7 3) (fun v => iWp d mX4_readNode 26 [a0, a1, a2, a3] (v :: st) h Q) := w_getf dX4_readNode_23 fF_4_49
theorem X4_readNode_26 : iWp d mX4_readNode 26 [a0, a1, a2, a3] st h Q = iWp d mX4_readNode 28 [a0, a1, a2, a3] (.int 40 :: st) h Q := w_bipush dX4_readNode_26 rfl
theorem X4_readNode_28 : iWp d mX4_readNode 28 [a0, a1, a2, a3] (.int y :: .int x :: st) h Q = if x < y then iWp d mX4_readNode 36 [a0, a1, a2, a3] st h Q else iWp d mX4_readNode 31 [a0, a1, a2, a3] st h Q := w_icmp_lt dX4_readNode_28 rfl
theorem X4_readNode_31 : iWp d mX4_readNode 31 [.ref p, a1, a2, a3] st h Q = iWp d mX4_readNode 32 [.ref p, a1, a2, a3] (.ref p :: st) h Q := w_aload_n dX4_readNode_31 rfl
theorem X4_readNode_32 : iWp d mX4_readNode 32 [a0, a1, a2, a3] (.ref p :: st) h Q = iOb (iGet h p 4 2) (fun v => iWp d mX4_readNode 35 [a0, a1, a2, a3] (v :: st) h Q) := w_getf dX4_readNode_32 fF_4_18
theorem X4_readNode_35 : iWp d mX4_readNode 35 [a0, a1, a2, a3] [.int x] h Q = Q (some (.int x)) h := w_ireti dX4_readNode_35 rfl
theorem X4_readNode_36 : iWp d mX4_readNode 36 [.ref p, a1, a2, a3] st h Q = iWp d mX4_readNode 37 [.ref p, a1, a2, a3] (.ref p :: st) h Q := w_aload_n dX4_readNode_36 rfl
theorem X4_readNode_37 : iWp d mX4_readNode 37 [a0, a1, a2, a3] (.ref p :: st) h Q = iOb (iGet h p 4 2) (fun v => iWp d mX4_readNode 40 [a0, a1, a2, a3] (v :: st) h Q) := w_getf dX4_readNode_37 fF_4_18
theorem X4_readNode_40 : iWp d mX4_readNode 40 [a0, a1, a2, a3] st h Q = iWp d mX4_readNode 41 [a0, a1, a2, a3] (.int 1 :: st) h Q := w_iconst dX4_readNode_40 rfl
theorem X4_readNode_41 : iWp d mX4_readNode 41 [a0, a1, a2, a3] (.int y :: .int x :: st) h Q = iWp d mX4_readNode 42 [a0, a1, a2, a3] (.int (x + y) :: st) h Q := w_iadd dX4_readNode_41
theorem X4_readNode_42 : iWp d mX4_readNode 42 [a0, a1, a2, a3] (.int x :: st) h Q = iWp d mX4_readNode 43 [a0, iClr a1, .int x, a3] st h Q := w_istore_n dX4_readNode_42 (Nat.le_of_ble_eq_true rfl) rfl
theorem X4_readNode_43 : iWp d mX4_readNode 43 [.ref p, a1, a2, a3] st h Q = iWp d mX4_readNode 44 [.ref p, a1, a2, a3] (.ref p :: st) h Q := w_aload_n dX4_readNode_43 rfl
theorem X4_readNode_44 : iWp d mX4_readNode 44 [a0, a1, .int x, a3] st h Q = iWp d mX4_readNode 45 [a0, a1, .int x, a3] (.int x :: st) h Q := w_iload_n dX4_readNode_44 rfl
theorem X4_readNode_45 (he : iEv mX4_isDigit [.ref p, .int x0] h (some (.int rv)) h2) (ho : iObj h p 4 = true) : iWp 5 mX4_readNode 45 [a0, a1, a2, a3] [.int x0, .ref p] h Q = iWp 5 mX4_readNode 48 [a0, a1, a2, a3] [.int rv] h2 Q := iWp_cV dX4_readNode_45 fK_4_52 rfl rfl ho (Nat.le_of_ble_eq_true rfl) (Nat.le_of_ble_eq_true rfl) rfl (Nat.le_of_ble_eq_true rfl) he rfl
theorem X4_readNode_48 : iWp d mX4_readNode 48 [a0, a1, a2, a3] (.int x :: st) h Q = if x = 0 then iWp d mX4_readNode 51 [a0, a1, a2, a3] st h Q else iWp d mX4_readNode 53 [a0, a1, a2, a3] st h Q := w_ifc_ne dX4_readNode_48 rfl
theorem X4_readNode_51 : iWp d mX4_readNode 51 [a0, a1, .int x, a3] st h Q = iWp d mX4_readNode 52 [a0, a1, .int x, a3] (.int x :: st) h Q := w_iload_n dX4_readNode_51 rfl
theorem X4_readNode_52 : iWp d mX4_readNode 52 [a0, a1, a2, a3] [.int x] h Q = Q (some (.int x)) h := w_ireti dX4_readNode_52 rfl
theorem X4_readNode_53 : iWp d mX4_readNode 53 [.ref p, a1, a2, a3] st h Q = iWp d mX4_readNode 54 [.ref p, a1, a2, a3] (.ref p :: st) h Q := w_aload_n dX4_readNode_53 rfl
theorem X4_readNode_54 : iWp d mX4_readNode 54 [a0, a1, a2, a3] (.ref p :: st) h Q = iOb (iGet h p 4 1) (fun v => iWp d mX4_readNode 57 [a0, a1, a2, a3] (v :: st) h Q) := w_getf dX4_readNode_54 fF_4_25
theorem X4_readNode_57 : iWp d mX4_readNode 57 [a0, a1, .int x, a3] st h Q = iWp d mX4_readNode 58 [a0, a1, .int x, a3] (.int x :: st) h Q := w_iload_n dX4_readNode_57 rfl
theorem X4_readNode_58 (he : iEv mX5_intAt [.ref p, .int x0] h (some (.int rv)) h2) (ho : iObj h p 5 = true) : iWp 5 mX4_readNode 58 [a0, a1, a2, a3] [.int x0, .ref p] h Q = iWp 5 mX4_readNode 61 [a0, a1, a2, a3] [.int rv] h2 Q := iWp_cV dX4_readNode_58 fK_4_42 rfl rfl ho (Nat.le_of_ble_eq_true rfl) (Nat.le_of_ble_eq_true rfl) rfl (Nat.le_of_ble_eq_true rfl) he rfl
theorem X4_readNode_61 : iWp d mX4_readNode 61 [a0, a1, a2, a3] st h Q = iWp d mX4_readNode 63 [a0, a1, a2, a3] (.int 48 :: st) h Q := w_bipush dX4_readNode_61 rfl
theorem X4_readNode_63 : iWp d mX4_readNode 63 [a0, a1, a2, a3] (.int y :: .int x :: st) h Q = iWp d mX4_readNode 64 [a0, a1, a2, a3] (.int (x - y) :: st) h Q := w_isub dX4_readNode_63
theorem X4_readNode_64 : iWp d mX4_readNode 64 [a0, a1, a2, a3] (.int x :: st) h Q = iWp d mX4_readNode 65 [a0, a1, iClr a2, .int x] st h Q := w_istore_n dX4_readNode_64 (Nat.le_of_ble_eq_true rfl) rfl
theorem X4_readNode_65 : iWp d mX4_readNode 65 [.ref p, a1, a2, a3] st h Q = iWp d mX4_readNode 66 [.ref p, a1, a2, a3] (.ref p :: st) h Q := w_aload_n dX4_readNode_65 rfl
theorem X4_readNode_66 : iWp d mX4_readNode 66 [a0, a1, .int x, a3] st h Q = iWp d mX4_readNode 67 [a0, a1, .int x, a3] (.int x :: st) h Q := w_iload_n dX4_readNode_66 rfl
theorem X4_readNode_67 : iWp d mX4_readNode 67 [a0, a1, a2, a3] st h Q = iWp d mX4_readNode 68 [a0, a1, a2, a3] (.int 1 :: st) h Q := w_iconst dX4_readNode_67 rfl
theorem X4_readNode_68 : iWp d mX4_readNode 68 [a0, a1, a2, a3] (.int y :: .int x :: st) h Q = iWp d mX4_readNode 69 [a0, a1, a2, a3] (.int (x + y) :: st) h Q := w_iadd dX4_readNode_68
theorem X4_readNode_69 : iWp d mX4_readNode 69 [a0, a1, a2, a3] (.int x :: .ref p :: st) h Q = iOb (iPut h p 4 2 (.int x)) (fun g => iWp d mX4_readNode 72 [a0, a1, a2, a3] st g Q) := w_putf dX4_readNode_69 fF_4_18 ⟨rfl, (Or.inl rfl)⟩
theorem X4_readNode_72 : iWp d mX4_readNode 72 [.ref p, a1, a2, a3] st h Q = iWp d mX4_readNode 73 [.ref p, a1, a2, a3] (.ref p :: st) h Q := w_aload_n dX4_readNode_72 rfl
theorem X4_readNode_73 : iWp d mX4_readNode 73 [.ref p, a1, a2, a3] st h Q = iWp d mX4_readNode 74 [.ref p, a1, a2, a3] (.ref p :: st) h Q := w_aload_n dX4_readNode_73 rfl
theorem X4_readNode_74 : iWp d mX4_readNode 74 [a0, a1, a2, a3] (.ref p :: st) h Q = iOb (iGet h p 4 2) (fun v => iWp d mX4_readNode 77 [a0, a1, a2, a3] (v :: st) h Q) := w_getf dX4_readNode_74 fF_4_18
theorem X4_readNode_77 (he : iEv mX4_isDigit [.ref p, .int x0] h (some (.int rv)) h2) (ho : iObj h p 4 = true) : iWp 5 mX4_readNode 77 [a0, a1, a2, a3] [.int x0, .ref p] h Q = iWp 5 mX4_readNode 80 [a0, a1, a2, a3] [.int rv] h2 Q := iWp_cV dX4_readNode_77 fK_4_52 rfl rfl ho (Nat.le_of_ble_eq_true rfl) (Nat.le_of_ble_eq_true rfl) rfl (Nat.le_of_ble_eq_true rfl) he rfl
theorem X4_readNode_80 : iWp d mX4_readNode 80 [a0, a1, a2, a3] (.int x :: st) h Q = if x = 0 then iWp d mX4_readNode 113 [a0, a1, a2, a3] st h Q else iWp d mX4_readNode 83 [a0, a1, a2, a3] st h Q := w_ifc_eq dX4_readNode_80 rfl
theorem X4_readNode_83 : iWp d mX4_readNode 83 [a0, a1, a2, a3] st h Q = iWp d mX4_readNode 85 [a0, a1, a2, a3] (.int 10 :: st) h Q := w_bipush dX4_readNode_83 rfl
theorem X4_readNode_85 : iWp d mX4_readNode 85 [a0, a1, a2, .int x] st h Q = iWp d mX4_readNode 86 [a0, a1, a2, .int x] (.int x :: st) h Q := w_iload_n dX4_readNode_85 rfl
theorem X4_readNode_86 : iWp d mX4_readNode 86 [a0, a1, a2, a3] (.int y :: .int x :: st) h Q = iWp d mX4_readNode 87 [a0, a1, a2, a3] (.int (x * y) :: st) h Q := w_imul dX4_readNode_86
theorem X4_readNode_87 : iWp d mX4_readNode 87 [.ref p, a1, a2, a3] st h Q = iWp d mX4_readNode 88 [.ref p, a1, a2, a3] (.ref p :: st) h Q := w_aload_n dX4_readNode_87 rfl
theorem X4_readNode_88 : iWp d mX4_readNode 88 [a0, a1, a2, a3] (.ref p :: st) h Q = iOb (iGet h p 4 1) (fun v => iWp d mX4_readNode 91 [a0, a1, a2, a3] (v :: st) h Q) := w_getf dX4_readNode_88 fF_4_25
theorem X4_readNode_91 : iWp d mX4_readNode 91 [.ref p, a1, a2, a3] st h Q = iWp d mX4_readNode 92 [.ref p, a1, a2, a3] (.ref p :: st) h Q := w_aload_n dX4_readNode_91 rfl
theorem X4_readNode_92 : iWp d mX4_readNode 92 [a0, a1, a2, a3] (.ref p :: st) h Q = iOb (iGet h p 4 2) (fun v => iWp d mX4_readNode 95 [a0, a1, a2, a3] (v :: st) h Q) := w_getf dX4_readNode_92 fF_4_18
theorem X4_readNode_95 (he : iEv mX5_intAt [.ref p, .int x0] h (some (.int rv)) h2) (ho : iObj h p 5 = true) : iWp 5 mX4_readNode 95 [a0, a1, a2, a3] [.int x0, .ref p, .int r0] h Q = iWp 5 mX4_readNode 98 [a0, a1, a2, a3] [.int rv, .int r0] h2 Q := iWp_cV dX4_readNode_95 fK_4_42 rfl rfl ho (Nat.le_of_ble_eq_true rfl) (Nat.le_of_ble_eq_true rfl) rfl (Nat.le_of_ble_eq_true rfl) he rfl
theorem X4_readNode_98 : iWp d mX4_readNode 98 [a0, a1, a2, a3] (.int y :: .int x :: st) h Q = iWp d mX4_readNode 99 [a0, a1, a2, a3] (.int (x + y) :: st) h Q := w_iadd dX4_readNode_98
theorem X4_readNode_99 : iWp d mX4_readNode 99 [a0, a1, a2, a3] st h Q = iWp d mX4_readNode 101 [a0, a1, a2, a3] (.int 48 :: st) h Q := w_bipush dX4_readNode_99 rfl
theorem X4_readNode_101 : iWp d mX4_readNode 101 [a0, a1, a2, a3] (.int y :: .int x :: st) h Q = iWp d mX4_readNode 102 [a0, a1, a2, a3] (.int (x - y) :: st) h Q := w_isub dX4_readNode_101
theorem X4_readNode_102 : iWp d mX4_readNode 102 [a0, a1, a2, a3] (.int x :: st) h Q = iWp d mX4_readNode 103 [a0, a1, iClr a2, .int x] st h Q := w_istore_n dX4_readNode_102 (Nat.le_of_ble_eq_true rfl) rfl
theorem X4_readNode_103 : iWp d mX4_readNode 103 [.ref p, a1, a2, a3] st h Q = iWp d mX4_readNode 104 [.ref p, a1, a2, a3] (.ref p :: st) h Q := w_aload_n dX4_readNode_103 rfl
theorem X4_readNode_104 : iWp d mX4_readNode 104 [a0, a1, a2, a3] (.ref p :: st) h Q = iWp d mX4_readNode 105 [a0, a1, a2, a3] (.ref p :: .ref p :: st) h Q := w_dup dX4_readNode_104 rfl
theorem X4_readNode_105 : iWp d mX4_readNode 105 [a0, a1, a2, a3] (.ref p :: st) h Q = iOb (iGet h p 4 2) (fun v => iWp d mX4_readNode 108 [a0, a1, a2, a3] (v :: st) h Q) := w_getf dX4_readNode_105 fF_4_18
theorem X4_readNode_108 : iWp d mX4_readNode 108 [a0, a1, a2, a3] st h Q = iWp d mX4_readNode 109 [a0, a1, a2, a3] (.int 1 :: st) h Q := w_iconst dX4_readNode_108 rfl
theorem X4_readNode_109 : iWp d mX4_readNode 109 [a0, a1, a2, a3] (.int y :: .int x :: st) h Q = iWp d mX4_readNode 110 [a0, a1, a2, a3] (.int (x + y) :: st) h Q := w_iadd dX4_readNode_109
theorem X4_readNode_110 : iWp d mX4_readNode 110 [a0, a1, a2, a3] (.int x :: .ref p :: st) h Q = iOb (iPut h p 4 2 (.int x)) (fun g => iWp d mX4_readNode 113 [a0, a1, a2, a3] st g Q) := w_putf dX4_readNode_110 fF_4_18 ⟨rfl, (Or.inl rfl)⟩
theorem X4_readNode_113 : iWp d mX4_readNode 113 [a0, a1, a2, .int x] st h Q = iWp d mX4_readNode 114 [a0, a1, a2, .int x] (.int x :: st) h Q := w_iload_n dX4_readNode_113 rfl
theorem X4_readNode_114 : iWp d mX4_readNode 114 [a0, a1, a2, a3] st h Q = iWp d mX4_readNode 115 [a0, a1, a2, a3] (.int 1 :: st) h Q := w_iconst dX4_readNode_114 rfl
theorem X4_readNode_115 : iWp d mX4_readNode 115 [a0, a1, a2, a3] (.int y :: .int x :: st) h Q = if x < y then iWp d mX4_readNode 136 [a0, a1, a2, a3] st h Q else iWp d mX4_readNode 118 [a0, a1, a2, a3] st h Q := w_icmp_lt dX4_readNode_115 rfl
theorem X4_readNode_118 : iWp d mX4_readNode 118 [a0, a1, a2, .int x] st h Q = iWp d mX4_readNode 119 [a0, a1, a2, .int x] (.int x :: st) h Q := w_iload_n dX4_readNode_118 rfl
theorem X4_readNode_119 : iWp d mX4_readNode 119 [a0, a1, a2, a3] st h Q = iWp d mX4_readNode 121 [a0, a1, a2, a3] (.int 60 :: st) h Q := w_bipush dX4_readNode_119 rfl
theorem X4_readNode_121 : iWp d mX4_readNode 121 [a0, a1, a2, a3] (.int y :: .int x :: st) h Q = if y < x then iWp d mX4_readNode 136 [a0, a1, a2, a3] st h Q else iWp d mX4_readNode 124 [a0, a1, a2, a3] st h Q := w_icmp_gt dX4_readNode_121 rfl
theorem X4_readNode_124 : iWp d mX4_readNode 124 [.ref p, a1, a2, a3] st h Q = iWp d mX4_readNode 125 [.ref p, a1, a2, a3] (.ref p :: st) h Q := w_aload_n dX4_readNode_124 rfl
theorem X4_readNode_125 : iWp d mX4_readNode 125 [a0, a1, a2, a3] (.ref p :: st) h Q = iOb (iGet h p 4 0) (fun v => iWp d mX4_readNode 128 [a0, a1, a2, a3] (v :: st) h Q) := w_getf dX4_readNode_125 fF_4_12
theorem X4_readNode_128 : iWp d mX4_readNode 128 [a0, a1, a2, .int x] st h Q = iWp d mX4_readNode 129 [a0, a1, a2, .int x] (.int x :: st) h Q := w_iload_n dX4_readNode_128 rfl
theorem X4_readNode_129 (he : iEv mX7_whereOf [.ref p, .int x0] h (some (.int rv)) h2) (ho : iObj h p 7 = true) : iWp 5 mX4_readNode 129 [a0, a1, a2, a3] [.int x0, .ref p] h Q = iWp 5 mX4_readNode 132 [a0, a1, a2, a3] [.int rv] h2 Q := iWp_cV dX4_readNode_129 fK_4_55 rfl rfl ho (Nat.le_of_ble_eq_true rfl) (Nat.le_of_ble_eq_true rfl) rfl (Nat.le_of_ble_eq_true rfl) he rfl
theorem X4_readNode_132 : iWp d mX4_readNode 132 [a0, a1, a2, a3] st h Q = iWp d mX4_readNode 133 [a0, a1, a2, a3] (.int (-1) :: st) h Q := w_iconst dX4_readNode_132 rfl
theorem X4_readNode_133 : iWp d mX4_readNode 133 [a0, a1, a2, a3] (.int y :: .int x :: st) h Q = if x = y then iWp d mX4_readNode 138 [a0, a1, a2, a3] st h Q else iWp d mX4_readNode 136 [a0, a1, a2, a3] st h Q := w_icmp_eq dX4_readNode_133 rfl
theorem X4_readNode_136 : iWp d mX4_readNode 136 [a0, a1, .int x, a3] st h Q = iWp d mX4_readNode 137 [a0, a1, .int x, a3] (.int x :: st) h Q := w_iload_n dX4_readNode_136 rfl
theorem X4_readNode_137 : iWp d mX4_readNode 137 [a0, a1, a2, a3] [.int x] h Q = Q (some (.int x)) h := w_ireti dX4_readNode_137 rfl
theorem X4_readNode_138 : iWp d mX4_readNode 138 [.ref p, a1, a2, a3] st h Q = iWp d mX4_readNode 139 [.ref p, a1, a2, a3] (.ref p :: st) h Q := w_aload_n dX4_readNode_138 rfl
theorem X4_readNode_139 : iWp d mX4_readNode 139 [a0, a1, a2, a3] (.ref p :: st) h Q = iOb (iGet h p 4 0) (fun v => iWp d mX4_readNode 142 [a0, a1, a2, a3] (v :: st) h Q) := w_getf dX4_readNode_139 fF_4_12
theorem X4_readNode_142 : iWp d mX4_readNode 142 [.ref p, a1, a2, a3] st h Q = iWp d mX4_readNode 143 [.ref p, a1, a2, a3] (.ref p :: st) h Q := w_aload_n dX4_readNode_142 rfl
theorem X4_readNode_143 : iWp d mX4_readNode 143 [a0, a1, a2, a3] (.ref p :: st) h Q = iOb (iGet h p 4 0) (fun v => iWp d mX4_readNode 146 [a0, a1, a2, a3] (v :: st) h Q) := w_getf dX4_readNode_143 fF_4_12
theorem X4_readNode_146 : iWp d mX4_readNode 146 [a0, a1, a2, a3] (.ref p :: st) h Q = iOb (iGet h p 7 3) (fun v => iWp d mX4_readNode 149 [a0, a1, a2, a3] (v :: st) h Q) := w_getf dX4_readNode_146 fF_4_49
theorem X4_readNode_149 : iWp d mX4_readNode 149 [a0, a1, a2, .int x] st h Q = iWp d mX4_readNode 150 [a0, a1, a2, .int x] (.int x :: st) h Q := w_iload_n dX4_readNode_149 rfl
theorem X4_readNode_150 : iWp d mX4_readNode 150 [a0, .int x, a2, a3] st h Q = iWp d mX4_readNode 151 [a0, .int x, a2, a3] (.int x :: st) h Q := w_iload_n dX4_readNode_150 rfl
theorem X4_readNode_151 : iWp d mX4_readNode 151 [.ref p, a1, a2, a3] st h Q = iWp d mX4_readNode 152 [.ref p, a1, a2, a3] (.ref p :: st) h Q := w_aload_n dX4_readNode_151 rfl
theorem X4_readNode_152 : iWp d mX4_readNode 152 [a0, a1, a2, a3] (.ref p :: st) h Q = iOb (iGet h p 4 3) (fun v => iWp d mX4_readNode 155 [a0, a1, a2, a3] (v :: st) h Q) := w_getf dX4_readNode_152 fF_4_22
theorem X4_readNode_155 (he : iEv mX7_insert [.ref p, .int x0, .int x1, .int x2, .int x3] h none h2) (ho : iObj h p 7 = true) : iWp 5 mX4_readNode 155 [a0, a1, a2, a3] [.int x3, .int x2, .int x1, .int x0, .ref p] h Q = iWp 5 mX4_readNode 158 [a0, a1, a2, a3] [] h2 Q := iWp_cV dX4_readNode_155 fK_4_58 rfl rfl ho (Nat.le_of_ble_eq_true rfl) (Nat.le_of_ble_eq_true rfl) rfl (Nat.le_of_ble_eq_true rfl) he rfl
theorem X4_readNode_158 : iWp d mX4_readNode 158 [a0, a1, a2, a3] st h Q = iWp d mX4_readNode 159 [a0, a1, a2, a3] (.int (-1) :: st) h Q := w_iconst dX4_readNode_158 rfl
theorem X4_readNode_159 : iWp d mX4_readNode 159 [a0, a1, a2, a3] [.int x] h Q = Q (some (.int x)) h := w_ireti dX4_readNode_159 rfl
theorem I4_readNode {Q : Option Value → iHp → Prop} (hw : iWp 5 mX4_readNode 0 [.ref p, iU, iU, iU] [] h Q) : ∃ r h1, iEv mX4_readNode [.ref p] h r h1 ∧ Q r h1 := iEv_of (by rfl) rfl hw
theorem J4_readNode {r : Option Value} {h1 : iHp} (hw : iWp 5 mX4_readNode 0 [.ref p, iU, iU, iU] [] h (fun r' h' => r' = r ∧ h' = h1)) : iEv mX4_readNode [.ref p] h r h1 := iEv_ev (by rfl) rfl hw
theorem X4_readSign_0 : iWp d mX4_readSign 0 [.ref p, a1, a2] st h Q = iWp d mX4_readSign 1 [.ref p, a1, a2] (.ref p :: st) h Q := w_aload_n dX4_readSign_0 rfl
theorem X4_readSign_1 : iWp d mX4_readSign 1 [a0, a1, a2] (.ref p :: st) h Q = iOb (iGet h p 4 1) (fun v => iWp d mX4_readSign 4 [a0, a1, a2] (v :: st) h Q) := w_getf dX4_readSign_1 fF_4_25
theorem X4_readSign_4 : iWp d mX4_readSign 4 [.ref p, a1, a2] st h Q = iWp d mX4_readSign 5 [.ref p, a1, a2] (.ref p :: st) h Q := w_aload_n dX4_readSign_4 rfl
theorem X4_readSign_5 : iWp d mX4_readSign 5 [a0, a1, a2] (.ref p :: st) h Q = iOb (iGet h p 4 2) (fun v => iWp d mX4_readSign 8 [a0, a1, a2] (v :: st) h Q) := w_getf dX4_readSign_5 fF_4_18
theorem X4_readSign_8 (he : iEv mX5_intAt [.ref p, .int x0] h (some (.int rv)) h2) (ho : iObj h p 5 = true) : iWp 4 mX4_readSign 8 [a0, a1, a2] [.int x0, .ref p] h Q = iWp 4 mX4_readSign 11 [a0, a1, a2] [.int rv] h2 Q := iWp_cV dX4_readSign_8 fK_4_42 rfl rfl ho (Nat.le_of_ble_eq_true rfl) (Nat.le_of_ble_eq_true rfl) rfl (Nat.le_of_ble_eq_true rfl) he rfl
theorem X4_readSign_11 : iWp d mX4_readSign 11 [a0, a1, a2] (.int x :: st) h Q = iWp d mX4_readSign 12 [a0, iClr a1, .int x] st h Q := w_istore_n dX4_readSign_11 (Nat.le_of_ble_eq_true rfl) rfl
theorem X4_readSign_12 : iWp d mX4_readSign 12 [a0, a1, .int x] st h Q = iWp d mX4_readSign 13 [a0, a1, .int x] (.int x :: st) h Q := w_iload_n dX4_readSign_12 rfl
theorem X4_readSign_13 : iWp d mX4_readSign 13 [a0, a1, a2] st h Q = iWp d mX4_readSign 15 [a0, a1, a2] (.int 40 :: st) h Q := w_bipush dX4_readSign_13 rfl
theorem X4_readSign_15 : iWp d mX4_readSign 15 [a0, a1, a2] (.int y :: .int x :: st) h Q = if x = y then iWp d mX4_readSign 18 [a0, a1, a2] st h Q else iWp d mX4_readSign 45 [a0, a1, a2] st h Q := w_icmp_ne dX4_readSign_15 rfl
theorem X4_readSign_18 : iWp d mX4_readSign 18 [a0, .int x, a2] st h Q = iWp d mX4_readSign 19 [a0, .int x, a2] (.int x :: st) h Q := w_iload_n dX4_readSign_18 rfl
theorem X4_readSign_19 : iWp d mX4_readSign 19 [a0, a1, a2] st h Q = iWp d mX4_readSign 20 [a0, a1, a2] (.int 1 :: st) h Q := w_iconst dX4_readSign_19 rfl
theorem X4_readSign_20 : iWp d mX4_readSign 20 [a0, a1, a2] (.int y :: .int x :: st) h Q = if x = y then iWp d mX4_readSign 23 [a0, a1, a2] st h Q else iWp d mX4_readSign 45 [a0, a1, a2] st h Q := w_icmp_ne dX4_readSign_20 rfl
theorem X4_readSign_23 : iWp d mX4_readSign 23 [.ref p, a1, a2] st h Q = iWp d mX4_readSign 24 [.ref p, a1, a2] (.ref p :: st) h Q := w_aload_n dX4_readSign_23 rfl
theorem X4_readSign_24 : iWp d mX4_readSign 24 [a0, a1, a2] (.ref p :: st) h Q = iWp d mX4_readSign 25 [a0, a1, a2] (.ref p :: .ref p :: st) h Q := w_dup dX4_readSign_24 rfl
theorem X4_readSign_25 : iWp d mX4_readSign 25 [a0, a1, a2] (.ref p :: st) h Q = iOb (iGet h p 4 3) (fun v => iWp d mX4_readSign 28 [a0, a1, a2] (v :: st) h Q) := w_getf dX4_readSign_25 fF_4_22
theorem X4_readSign_28 : iWp d mX4_readSign 28 [a0, a1, a2] st h Q = iWp d mX4_readSign 29 [a0, a1, a2] (.int 1 :: st) h Q := w_iconst dX4_readSign_28 rfl
theorem X4_readSign_29 : iWp d mX4_readSign 29 [a0, a1, a2] (.int y :: .int x :: st) h Q = iWp d mX4_readSign 30 [a0, a1, a2] (.int (x + y) :: st) h Q := w_iadd dX4_readSign_29
theorem X4_readSign_30 : iWp d mX4_readSign 30 [a0, a1, a2] (.int x :: .ref p :: st) h Q = iOb (iPut h p 4 3 (.int x)) (fun g => iWp d mX4_readSign 33 [a0, a1, a2] st g Q) := w_putf dX4_readSign_30 fF_4_22 ⟨rfl, (Or.inl rfl)⟩
theorem X4_readSign_33 : iWp d mX4_readSign 33 [.ref p, a1, a2] st h Q = iWp d mX4_readSign 34 [.ref p, a1, a2] (.ref p :: st) h Q := w_aload_n dX4_readSign_33 rfl
theorem X4_readSign_34 : iWp d mX4_readSign 34 [a0, a1, a2] (.ref p :: st) h Q = iWp d mX4_readSign 35 [a0, a1, a2] (.ref p :: .ref p :: st) h Q := w_dup dX4_readSign_34 rfl
theorem X4_readSign_35 : iWp d mX4_readSign 35 [a0, a1, a2] (.ref p :: st) h Q = iOb (iGet h p 4 2) (fun v => iWp d mX4_readSign 38 [a0, a1, a2] (v :: st) h Q) := w_getf dX4_readSign_35 fF_4_18
theorem X4_readSign_38 : iWp d mX4_readSign 38 [a0, a1, a2] st h Q = iWp d mX4_readSign 39 [a0, a1, a2] (.int 1 :: st) h Q := w_iconst dX4_readSign_38 rfl
theorem X4_readSign_39 : iWp d mX4_readSign 39 [a0, a1, a2] (.int y :: .int x :: st) h Q = iWp d mX4_readSign 40 [a0, a1, a2] (.int (x + y) :: st) h Q := w_iadd dX4_readSign_39
theorem X4_readSign_40 : iWp d mX4_readSign 40 [a0, a1, a2] (.int x :: .ref p :: st) h Q = iOb (iPut h p 4 2 (.int x)) (fun g => iWp d mX4_readSign 43 [a0, a1, a2] st g Q) := w_putf dX4_readSign_40 fF_4_18 ⟨rfl, (Or.inl rfl)⟩
theorem X4_readSign_43 : iWp d mX4_readSign 43 [a0, a1, a2] st h Q = iWp d mX4_readSign 44 [a0, a1, a2] (.int 0 :: st) h Q := w_iconst dX4_readSign_43 rfl
theorem X4_readSign_44 : iWp d mX4_readSign 44 [a0, a1, a2] [.int x] h Q = Q (some (.int x)) h := w_ireti dX4_readSign_44 rfl
theorem X4_readSign_45 : iWp d mX4_readSign 45 [a0, a1, .int x] st h Q = iWp d mX4_readSign 46 [a0, a1, .int x] (.int x :: st) h Q := w_iload_n dX4_readSign_45 rfl
theorem X4_readSign_46 : iWp d mX4_readSign 46 [a0, a1, a2] st h Q = iWp d mX4_readSign 48 [a0, a1, a2] (.int 44 :: st) h Q := w_bipush dX4_readSign_46 rfl
theorem X4_readSign_48 : iWp d mX4_readSign 48 [a0, a1, a2] (.int y :: .int x :: st) h Q = if x = y then iWp d mX4_readSign 51 [a0, a1, a2] st h Q else iWp d mX4_readSign 70 [a0, a1, a2] st h Q := w_icmp_ne dX4_readSign_48 rfl
theorem X4_readSign_51 : iWp d mX4_readSign 51 [.ref p, a1, a2] st h Q = iWp d mX4_readSign 52 [.ref p, a1, a2] (.ref p :: st) h Q := w_aload_n dX4_readSign_51 rfl
theorem X4_readSign_52 : iWp d mX4_readSign 52 [a0, a1, a2] (.ref p :: st) h Q = iOb (iGet h p 4 3) (fun v => iWp d mX4_readSign 55 [a0, a1, a2] (v :: st) h Q) := w_getf dX4_readSign_52 fF_4_22
theorem X4_readSign_55 : iWp d mX4_readSign 55 [a0, a1, a2] (.int x :: st) h Q = if x ≤ 0 then iWp d mX4_readSign 70 [a0, a1, a2] st h Q else iWp d mX4_readSign 58 [a0, a1, a2] st h Q := w_ifc_le dX4_readSign_55 rfl
theorem X4_readSign_58 : iWp d mX4_readSign 58 [.ref p, a1, a2] st h Q = iWp d mX4_readSign 59 [.ref p, a1, a2] (.ref p :: st) h Q := w_aload_n dX4_readSign_58 rfl
theorem X4_readSign_59 : iWp d mX4_readSign 59 [a0, a1, a2] (.ref p :: st) h Q = iWp d mX4_readSign 60 [a0, a1, a2] (.ref p :: .ref p :: st) h Q := w_dup dX4_readSign_59 rfl
theorem X4_readSign_60 : iWp d mX4_readSign 60 [a0, a1, a2] (.ref p :: st) h Q = iOb (iGet h p 4 2) (fun v => iWp d mX4_readSign 63 [a0, a1, a2] (v :: st) h Q) := w_getf dX4_readSign_60 fF_4_18
theorem X4_readSign_63 : iWp d mX4_readSign 63 [a0, a1, a2] st h Q = iWp d mX4_readSign 64 [a0, a1, a2] (.int 1 :: st) h Q := w_iconst dX4_readSign_63 rfl
theorem X4_readSign_64 : iWp d mX4_readSign 64 [a0, a1, a2] (.int y :: .int x :: st) h Q = iWp d mX4_readSign 65 [a0, a1, a2] (.int (x + y) :: st) h Q := w_iadd dX4_readSign_64
theorem X4_readSign_65 : iWp d mX4_readSign 65 [a0, a1, a2] (.int x :: .ref p :: st) h Q = iOb (iPut h p 4 2 (.int x)) (fun g => iWp d mX4_readSign 68 [a0, a1, a2] st g Q) := w_putf dX4_readSign_65 fF_4_18 ⟨rfl, (Or.inl rfl)⟩
theorem X4_readSign_68 : iWp d mX4_readSign 68 [a0, a1, a2] st h Q = iWp d mX4_readSign 69 [a0, a1, a2] (.int 0 :: st) h Q := w_iconst dX4_readSign_68 rfl
theorem X4_readSign_69 : iWp d mX4_readSign 69 [a0, a1, a2] [.int x] h Q = Q (some (.int x)) h := w_ireti dX4_readSign_69 rfl
theorem X4_readSign_70 : iWp d mX4_readSign 70 [a0, a1, .int x] st h Q = iWp d mX4_readSign 71 [a0, a1, .int x] (.int x :: st) h Q := w_iload_n dX4_readSign_70 rfl
theorem X4_readSign_71 : iWp d mX4_readSign 71 [a0, a1, a2] st h Q = iWp d mX4_readSign 73 [a0, a1, a2] (.int 41 :: st) h Q := w_bipush dX4_readSign_71 rfl
theorem X4_readSign_73 : iWp d mX4_readSign 73 [a0, a1, a2] (.int y :: .int x :: st) h Q = if x = y then iWp d mX4_readSign 76 [a0, a1, a2] st h Q else iWp d mX4_readSign 105 [a0, a1, a2] st h Q := w_icmp_ne dX4_readSign_73 rfl
theorem X4_readSign_76 : iWp d mX4_readSign 76 [.ref p, a1, a2] st h Q = iWp d mX4_readSign 77 [.ref p, a1, a2] (.ref p :: st) h Q := w_aload_n dX4_readSign_76 rfl
theorem X4_readSign_77 : iWp d mX4_readSign 77 [a0, a1, a2] (.ref p :: st) h Q = iOb (iGet h p 4 3) (fun v => iWp d mX4_readSign 80 [a0, a1, a2] (v :: st) h Q) := w_getf dX4_readSign_77 fF_4_22
theorem X4_readSign_80 : iWp d mX4_readSign 80 [a0, a1, a2] (.int x :: st) h Q = if x ≤ 0 then iWp d mX4_readSign 105 [a0, a1, a2] st h Q else iWp d mX4_readSign 83 [a0, a1, a2] st h Q := w_ifc_le dX4_readSign_80 rfl
theorem X4_readSign_83 : iWp d mX4_readSign 83 [.ref p, a1, a2] st h Q = iWp d mX4_readSign 84 [.ref p, a1, a2] (.ref p :: st) h Q := w_aload_n dX4_readSign_83 rfl
theorem X4_readSign_84 : iWp d mX4_readSign 84 [a0, a1, a2] (.ref p :: st) h Q = iWp d mX4_readSign 85 [a0, a1, a2] (.ref p :: .ref p :: st) h Q := w_dup dX4_readSign_84 rfl
theorem X4_readSign_85 : iWp d mX4_readSign 85 [a0, a1, a2] (.ref p :: st) h Q = iOb (iGet h p 4 3) (fun v => iWp d mX4_readSign 88 [a0, a1, a2] (v :: st) h Q) := w_getf dX4_readSign_85 fF_4_22
theorem X4_readSign_88 : iWp d mX4_readSign 88 [a0, a1, a2] st h Q = iWp d mX4_readSign 89 [a0, a1, a2] (.int 1 :: st) h Q := w_iconst dX4_readSign_88 rfl
theorem X4_readSign_89 : iWp d mX4_readSign 89 [a0, a1, a2] (.int y :: .int x :: st) h Q = iWp d mX4_readSign 90 [a0, a1, a2] (.int (x - y) :: st) h Q := w_isub dX4_readSign_89
theorem X4_readSign_90 : iWp d mX4_readSign 90 [a0, a1, a2] (.int x :: .ref p :: st) h Q = iOb (iPut h p 4 3 (.int x)) (fun g => iWp d mX4_readSign 93 [a0, a1, a2] st g Q) := w_putf dX4_readSign_90 fF_4_22 ⟨rfl, (Or.inl rfl)⟩
theorem X4_readSign_93 : iWp d mX4_readSign 93 [.ref p, a1, a2] st h Q = iWp d mX4_readSign 94 [.ref p, a1, a2] (.ref p :: st) h Q := w_aload_n dX4_readSign_93 rfl
theorem X4_readSign_94 : iWp d mX4_readSign 94 [a0, a1, a2] (.ref p :: st) h Q = iWp d mX4_readSign 95 [a0, a1, a2] (.ref p :: .ref p :: st) h Q := w_dup dX4_readSign_94 rfl
theorem X4_readSign_95 : iWp d mX4_readSign 95 [a0, a1, a2] (.ref p :: st) h Q = iOb (iGet h p 4 2) (fun v => iWp d mX4_readSign 98 [a0, a1, a2] (v :: st) h Q) := w_getf dX4_readSign_95 fF_4_18
theorem X4_readSign_98 : iWp d mX4_readSign 98 [a0, a1, a2] st h Q = iWp d mX4_readSign 99 [a0, a1, a2] (.int 1 :: st) h Q := w_iconst dX4_readSign_98 rfl
theorem X4_readSign_99 : iWp d mX4_readSign 99 [a0, a1, a2] (.int y :: .int x :: st) h Q = iWp d mX4_readSign 100 [a0, a1, a2] (.int (x + y) :: st) h Q := w_iadd dX4_readSign_99
theorem X4_readSign_100 : iWp d mX4_readSign 100 [a0, a1, a2] (.int x :: .ref p :: st) h Q = iOb (iPut h p 4 2 (.int x)) (fun g => iWp d mX4_readSign 103 [a0, a1, a2] st g Q) := w_putf dX4_readSign_100 fF_4_18 ⟨rfl, (Or.inl rfl)⟩
theorem X4_readSign_103 : iWp d mX4_readSign 103 [a0, a1, a2] st h Q = iWp d mX4_readSign 104 [a0, a1, a2] (.int 2 :: st) h Q := w_iconst dX4_readSign_103 rfl
theorem X4_readSign_104 : iWp d mX4_readSign 104 [a0, a1, a2] [.int x] h Q = Q (some (.int x)) h := w_ireti dX4_readSign_104 rfl
theorem X4_readSign_105 : iWp d mX4_readSign 105 [a0, a1, a2] st h Q = iWp d mX4_readSign 106 [a0, a1, a2] (.int (-1) :: st) h Q := w_iconst dX4_readSign_105 rfl
theorem X4_readSign_106 : iWp d mX4_readSign 106 [a0, a1, a2] [.int x] h Q = Q (some (.int x)) h := w_ireti dX4_readSign_106 rfl
theorem I4_readSign {Q : Option Value → iHp → Prop} (hw : iWp 4 mX4_readSign 0 [.ref p, .int x0, iU] [] h Q) : ∃ r h1, iEv mX4_readSign [.ref p, .int x0] h r h1 ∧ Q r h1 := iEv_of (by rfl) rfl hw
theorem J4_readSign {r : Option Value} {h1 : iHp} (hw : iWp 4 mX4_readSign 0 [.ref p, .int x0, iU] [] h (fun r' h' => r' = r ∧ h' = h1)) : iEv mX4_readSign [.ref p, .int x0] h r h1 := iEv_ev (by rfl) rfl hw
theorem X5_cutToSort_0 : iWp d mX5_cutToSort 0 [.ref p, a1, a2] st h Q = iWp d mX5_cutToSort 1 [.ref p, a1, a2] (.ref p :: st) h Q := w_aload_n dX5_cutToSort_0 rfl
theorem X5_cutToSort_1 : iWp d mX5_cutToSort 1 [a0, a1, a2] (.ref p :: st) h Q = iOb (iGet h p 5 0) (fun v => iWp d mX5_cutToSort 4 [a0, a1, a2] (v :: st) h Q) := w_getf dX5_cutToSort_1 fF_5_9
theorem X5_cutToSort_4_0 : iWp d mX5_cutToSort 4 [a0, a1, a2] (.int 0 :: st) h Q = iWp d mX5_cutToSort 32 [a0, a1, a2] st h Q := w_switch dX5_cutToSort_4 rfl rfl rfl
theorem X5_cutToSort_4_1 : iWp d mX5_cutToSort 4 [a0, a1, a2] (.int 1 :: st) h Q = iWp d mX5_cutToSort 37 [a0, a1, a2] st h Q := w_switch dX5_cutToSort_4 rfl rfl rfl
theorem X5_cutToSort_4_2 : iWp d mX5_cutToSort 4 [a0, a1, a2] (.int 2 :: st) h Q = iWp d mX5_cutToSort 42 [a0, a1, a2] st h Q := w_switch dX5_cutToSort_4 rfl rfl rfl
theorem X5_cutToSort_4_d (hx : x.toInt < 0 ∨ 2 < x.toInt) : iWp d mX5_cutToSort 4 [a0, a1, a2] (.int x :: st) h Q = iWp d mX5_cutToSort 46 [a0, a1, a2] st h Q := w_switchD dX5_cutToSort_4 hx rfl
theorem X5_cutToSort_32 : iWp d mX5_cutToSort 32 [a0, .long u, a2] st h Q = iWp d mX5_cutToSort 33 [a0, .long u, a2] (.long u :: st) h Q := w_lload_n dX5_cutToSort_32 rfl
theorem X5_cutToSort_33 : iWp d mX5_cutToSort 33 [a0, a1, a2] (.long u :: st) h Q = iWp d mX5_cutToSort 34 [a0, a1, a2] (.int u.toInt32 :: st) h Q := w_l2i dX5_cutToSort_33
theorem X5_cutToSort_34 : iWp d mX5_cutToSort 34 [a0, a1, a2] (.int x :: st) h Q = iWp d mX5_cutToSort 35 [a0, a1, a2] (.int x.toInt8.toInt32 :: st) h Q := w_i2b dX5_cutToSort_34
theorem X5_cutToSort_35 : iWp d mX5_cutToSort 35 [a0, a1, a2] (.int x :: st) h Q = iWp d mX5_cutToSort 36 [a0, a1, a2] (.long x.toInt64 :: st) h Q := w_i2l dX5_cutToSort_35
theorem X5_cutToSort_36 : iWp d mX5_cutToSort 36 [a0, a1, a2] [.long u] h Q = Q (some (.long u)) h := w_lret dX5_cutToSort_36 rfl
theorem X5_cutToSort_37 : iWp d mX5_cutToSort 37 [a0, .long u, a2] st h Q = iWp d mX5_cutToSort 38 [a0, .long u, a2] (.long u :: st) h Q := w_lload_n dX5_cutToSort_37 rfl
theorem X5_cutToSort_38 : iWp d mX5_cutToSort 38 [a0, a1, a2] (.long u :: st) h Q = iWp d mX5_cutToSort 39 [a0, a1, a2] (.int u.toInt32 :: st) h Q := w_l2i dX5_cutToSort_38
theorem X5_cutToSort_39 : iWp d mX5_cutToSort 39 [a0, a1, a2] (.int x :: st) h Q = iWp d mX5_cutToSort 40 [a0, a1, a2] (.int x.toInt16.toInt32 :: st) h Q := w_i2s dX5_cutToSort_39
theorem X5_cutToSort_40 : iWp d mX5_cutToSort 40 [a0, a1, a2] (.int x :: st) h Q = iWp d mX5_cutToSort 41 [a0, a1, a2] (.long x.toInt64 :: st) h Q := w_i2l dX5_cutToSort_40
theorem X5_cutToSort_41 : iWp d mX5_cutToSort 41 [a0, a1, a2] [.long u] h Q = Q (some (.long u)) h := w_lret dX5_cutToSort_41 rfl
theorem X5_cutToSort_42 : iWp d mX5_cutToSort 42 [a0, .long u, a2] st h Q = iWp d mX5_cutToSort 43 [a0, .long u, a2] (.long u :: st) h Q := w_lload_n dX5_cutToSort_42 rfl
theorem X5_cutToSort_43 : iWp d mX5_cutToSort 43 [a0, a1, a2] (.long u :: st) h Q = iWp d mX5_cutToSort 44 [a0, a1, a2] (.int u.toInt32 :: st) h Q := w_l2i dX5_cutToSort_43
theorem X5_cutToSort_44 : iWp d mX5_cutToSort 44 [a0, a1, a2] (.int x :: st) h Q = iWp d mX5_cutToSort 45 [a0, a1, a2] (.long x.toInt64 :: st) h Q := w_i2l dX5_cutToSort_44
theorem X5_cutToSort_45 : iWp d mX5_cutToSort 45 [a0, a1, a2] [.long u] h Q = Q (some (.long u)) h := w_lret dX5_cutToSort_45 rfl
theorem X5_cutToSort_46 : iWp d mX5_cutToSort 46 [a0, .long u, a2] st h Q = iWp d mX5_cutToSort 47 [a0, .long u, a2] (.long u :: st) h Q := w_lload_n dX5_cutToSort_46 rfl
theorem X5_cutToSort_47 : iWp d mX5_cutToSort 47 [a0, a1, a2] [.long u] h Q = Q (some (.long u)) h := w_lret dX5_cutToSort_47 rfl
theorem I5_cutToSort {Q : Option Value → iHp → Prop} (hw : iWp 1 mX5_cutToSort 0 [.ref p, .long u0, iU] [] h Q) : ∃ r h1, iEv mX5_cutToSort [.ref p, .long u0] h r h1 ∧ Q r h1 := iEv_of (by rfl) rfl hw
theorem J5_cutToSort {r : Option Value} {h1 : iHp} (hw : iWp 1 mX5_cutToSort 0 [.ref p, .long u0, iU] [] h (fun r' h' => r' = r ∧ h' = h1)) : iEv mX5_cutToSort [.ref p, .long u0] h r h1 := iEv_ev (by rfl) rfl hw
theorem X5_has_0 : iWp d mX5_has 0 [a0, .int x] st h Q = iWp d mX5_has 1 [a0, .int x] (.int x :: st) h Q := w_iload_n dX5_has_0 rfl
theorem X5_has_1 : iWp d mX5_has 1 [a0, a1] (.int x :: st) h Q = if x < 0 then iWp d mX5_has 17 [a0, a1] st h Q else iWp d mX5_has 4 [a0, a1] st h Q := w_ifc_lt dX5_has_1 rfl
theorem X5_has_4 : iWp d mX5_has 4 [a0, .int x] st h Q = iWp d mX5_has 5 [a0, .int x] (.int x :: st) h Q := w_iload_n dX5_has_4 rfl
theorem X5_has_5 : iWp d mX5_has 5 [.ref p, a1] st h Q = iWp d mX5_has 6 [.ref p, a1] (.ref p :: st) h Q := w_aload_n dX5_has_5 rfl
theorem X5_has_6 : iWp d mX5_has 6 [a0, a1] (.ref p :: st) h Q = iOb (iGet h p 5 1) (fun v => iWp d mX5_has 9 [a0, a1] (v :: st) h Q) := w_getf dX5_has_6 fF_5_15
theorem X5_has_9 : iWp d mX5_has 9 [a0, a1] (.ref p :: st) h Q = iOb (iLen h p) (fun v => iWp d mX5_has 10 [a0, a1] (.int v :: st) h Q) := w_alen dX5_has_9
theorem X5_has_10 : iWp d mX5_has 10 [a0, a1] (.int y :: .int x :: st) h Q = if y ≤ x then iWp d mX5_has 17 [a0, a1] st h Q else iWp d mX5_has 13 [a0, a1] st h Q := w_icmp_ge dX5_has_10 rfl
theorem X5_has_13 : iWp d mX5_has 13 [a0, a1] st h Q = iWp d mX5_has 14 [a0, a1] (.int 1 :: st) h Q := w_iconst dX5_has_13 rfl
theorem X5_has_14 : iWp d mX5_has 14 [a0, a1] st h Q = iWp d mX5_has 18 [a0, a1] st h Q := w_goto dX5_has_14 rfl
theorem X5_has_17 : iWp d mX5_has 17 [a0, a1] st h Q = iWp d mX5_has 18 [a0, a1] (.int 0 :: st) h Q := w_iconst dX5_has_17 rfl
theorem X5_has_18 : iWp d mX5_has 18 [a0, a1] [.int (iB b)] h Q = Q (some (.int (iB b))) h := w_iretb dX5_has_18 rfl
theorem X5_has_18z : iWp d mX5_has 18 [a0, a1] [.int 0] h Q = Q (some (.int (iB false))) h := w_iretb (bb := false) dX5_has_18 rfl
theorem X5_has_18o : iWp d mX5_has 18 [a0, a1] [.int 1] h Q = Q (some (.int (iB true))) h := w_iretb (bb := true) dX5_has_18 rfl
theorem I5_has {Q : Option Value → iHp → Prop} (hw : iWp 1 mX5_has 0 [.ref p, .int x0] [] h Q) : ∃ r h1, iEv mX5_has [.ref p, .int x0] h r h1 ∧ Q r h1 := iEv_of (by rfl) rfl hw
theorem J5_has {r : Option Value} {h1 : iHp} (hw : iWp 1 mX5_has 0 [.ref p, .int x0] [] h (fun r' h' => r' = r ∧ h' = h1)) : iEv mX5_has [.ref p, .int x0] h r h1 := iEv_ev (by rfl) rfl hw
theorem X5_hasRun_0 : iWp d mX5_hasRun 0 [a0, .int x, a2] st h Q = iWp d mX5_hasRun 1 [a0, .int x, a2] (.int x :: st) h Q := w_iload_n dX5_hasRun_0 rfl
theorem X5_hasRun_1 : iWp d mX5_hasRun 1 [a0, a1, a2] (.int x :: st) h Q = if x < 0 then iWp d mX5_hasRun 23 [a0, a1, a2] st h Q else iWp d mX5_hasRun 4 [a0, a1, a2] st h Q := w_ifc_lt dX5_hasRun_1 rfl
theorem X5_hasRun_4 : iWp d mX5_hasRun 4 [a0, a1, .int x] st h Q = iWp d mX5_hasRun 5 [a0, a1, .int x] (.int x :: st) h Q := w_iload_n dX5_hasRun_4 rfl
theorem X5_hasRun_5 : iWp d mX5_hasRun 5 [a0, a1, a2] (.int x :: st) h Q = if x < 0 then iWp d mX5_hasRun 23 [a0, a1, a2] st h Q else iWp d mX5_hasRun 8 [a0, a1, a2] st h Q := w_ifc_lt dX5_hasRun_5 rfl
theorem X5_hasRun_8 : iWp d mX5_hasRun 8 [a0, .int x, a2] st h Q = iWp d mX5_hasRun 9 [a0, .int x, a2] (.int x :: st) h Q := w_iload_n dX5_hasRun_8 rfl
theorem X5_hasRun_9 : iWp d mX5_hasRun 9 [.ref p, a1, a2] st h Q = iWp d mX5_hasRun 10 [.ref p, a1, a2] (.ref p :: st) h Q := w_aload_n dX5_hasRun_9 rfl
theorem X5_hasRun_10 : iWp d mX5_hasRun 10 [a0, a1, a2] (.ref p :: st) h Q = iOb (iGet h p 5 1) (fun v => iWp d mX5_hasRun 13 [a0, a1, a2] (v :: st) h Q) := w_getf dX5_hasRun_10 fF_5_15
theorem X5_hasRun_13 : iWp d mX5_hasRun 13 [a0, a1, a2] (.ref p :: st) h Q = iOb (iLen h p) (fun v => iWp d mX5_hasRun 14 [a0, a1, a2] (.int v :: st) h Q) := w_alen dX5_hasRun_13
theorem X5_hasRun_14 : iWp d mX5_hasRun 14 [a0, a1, .int x] st h Q = iWp d mX5_hasRun 15 [a0, a1, .int x] (.int x :: st) h Q := w_iload_n dX5_hasRun_14 rfl
theorem X5_hasRun_15 : iWp d mX5_hasRun 15 [a0, a1, a2] (.int y :: .int x :: st) h Q = iWp d mX5_hasRun 16 [a0, a1, a2] (.int (x - y) :: st) h Q := w_isub dX5_hasRun_15
theorem X5_hasRun_16 : iWp d mX5_hasRun 16 [a0, a1, a2] (.int y :: .int x :: st) h Q = if y < x then iWp d mX5_hasRun 23 [a0, a1, a2] st h Q else iWp d mX5_hasRun 19 [a0, a1, a2] st h Q := w_icmp_gt dX5_hasRun_16 rfl
theorem X5_hasRun_19 : iWp d mX5_hasRun 19 [a0, a1, a2] st h Q = iWp d mX5_hasRun 20 [a0, a1, a2] (.int 1 :: st) h Q := w_iconst dX5_hasRun_19 rfl
theorem X5_hasRun_20 : iWp d mX5_hasRun 20 [a0, a1, a2] st h Q = iWp d mX5_hasRun 24 [a0, a1, a2] st h Q := w_goto dX5_hasRun_20 rfl
theorem X5_hasRun_23 : iWp d mX5_hasRun 23 [a0, a1, a2] st h Q = iWp d mX5_hasRun 24 [a0, a1, a2] (.int 0 :: st) h Q := w_iconst dX5_hasRun_23 rfl
theorem X5_hasRun_24 : iWp d mX5_hasRun 24 [a0, a1, a2] [.int (iB b)] h Q = Q (some (.int (iB b))) h := w_iretb dX5_hasRun_24 rfl
theorem X5_hasRun_24z : iWp d mX5_hasRun 24 [a0, a1, a2] [.int 0] h Q = Q (some (.int (iB false))) h := w_iretb (bb := false) dX5_hasRun_24 rfl
theorem X5_hasRun_24o : iWp d mX5_hasRun 24 [a0, a1, a2] [.int 1] h Q = Q (some (.int (iB true))) h := w_iretb (bb := true) dX5_hasRun_24 rfl
theorem I5_hasRun {Q : Option Value → iHp → Prop} (hw : iWp 1 mX5_hasRun 0 [.ref p, .int x0, .int x1] [] h Q) : ∃ r h1, iEv mX5_hasRun [.ref p, .int x0, .int x1] h r h1 ∧ Q r h1 := iEv_of (by rfl) rfl hw
theorem J5_hasRun {r : Option Value} {h1 : iHp} (hw : iWp 1 mX5_hasRun 0 [.ref p, .int x0, .int x1] [] h (fun r' h' => r' = r ∧ h' = h1)) : iEv mX5_hasRun [.ref p, .int x0, .int x1] h r h1 := iEv_ev (by rfl) rfl hw
theorem X5_init_0 : iWp d mX5_init 0 [.ref p, a1, a2] st h Q = iWp d mX5_init 1 [.ref p, a1, a2] (.ref p :: st) h Q := w_aload_n dX5_init_0 rfl
theorem X5_init_1 (hs : iSum st ≤ 8) : iWp d mX5_init 1 [a0, a1, a2] (.ref p :: st) h Q = iWp d mX5_init 4 [a0, a1, a2] st h Q := iWp_k dX5_init_1 rfl (fun _ _ => iObS hs fK_5_3 rfl rfl)
theorem X5_init_4 : iWp d mX5_init 4 [.ref p, a1, a2] st h Q = iWp d mX5_init 5 [.ref p, a1, a2] (.ref p :: st) h Q := w_aload_n dX5_init_4 rfl
theorem X5_init_5 : iWp d mX5_init 5 [a0, .int x, a2] st h Q = iWp d mX5_init 6 [a0, .int x, a2] (.int x :: st) h Q := w_iload_n dX5_init_5 rfl
theorem X5_init_6 : iWp d mX5_init 6 [a0, a1, a2] (.int x :: .ref p :: st) h Q = iOb (iPut h p 5 0 (.int x)) (fun g => iWp d mX5_init 9 [a0, a1, a2] st g Q) := w_putf dX5_init_6 fF_5_9 ⟨rfl, (Or.inr ⟨rfl, rfl⟩)⟩
theorem X5_init_9 : iWp d mX5_init 9 [.ref p, a1, a2] st h Q = iWp d mX5_init 10 [.ref p, a1, a2] (.ref p :: st) h Q := w_aload_n dX5_init_9 rfl
theorem X5_init_10 : iWp d mX5_init 10 [a0, a1, .int x] st h Q = iWp d mX5_init 11 [a0, a1, .int x] (.int x :: st) h Q := w_iload_n dX5_init_10 rfl
theorem X5_init_11 : iWp d mX5_init 11 [a0, a1, a2] (.int x :: st) h Q = if 0 ≤ x then iWp d mX5_init 18 [a0, a1, a2] st h Q else iWp d mX5_init 14 [a0, a1, a2] st h Q := w_ifc_ge dX5_init_11 rfl
theorem X5_init_14 : iWp d mX5_init 14 [a0, a1, a2] st h Q = iWp d mX5_init 15 [a0, a1, a2] (.int 0 :: st) h Q := w_iconst dX5_init_14 rfl
theorem X5_init_15 : iWp d mX5_init 15 [a0, a1, a2] st h Q = iWp d mX5_init 19 [a0, a1, a2] st h Q := w_goto dX5_init_15 rfl
theorem X5_init_18 : iWp d mX5_init 18 [a0, a1, .int x] st h Q = iWp d mX5_init 19 [a0, a1, .int x] (.int x :: st) h Q := w_iload_n dX5_init_18 rfl
theorem X5_init_19 : iWp d mX5_init 19 [a0, a1, a2] (.int x :: st) h Q = iOb (iNewA h .long x) (fun g => iWp d mX5_init 21 [a0, a1, a2] (.ref h.2.1 :: st) g Q) := w_newa dX5_init_19
theorem X5_init_21 : iWp d mX5_init 21 [a0, a1, a2] (.ref q :: .ref p :: st) h Q = iOb (iPut h p 5 1 (.ref q)) (fun g => iWp d mX5_init 24 [a0, a1, a2] st g Q) := w_putf dX5_init_21 fF_5_15 ⟨rfl, (Or.inr ⟨rfl, rfl⟩)⟩
theorem X5_init_21n : iWp d mX5_init 21 [a0, a1, a2] (.null :: .ref p :: st) h Q = iOb (iPut h p 5 1 (.null)) (fun g => iWp d mX5_init 24 [a0, a1, a2] st g Q) := w_putf dX5_init_21 fF_5_15 ⟨rfl, (Or.inr ⟨rfl, rfl⟩)⟩
theorem X5_init_24 : iWp d mX5_init 24 [a0, a1, a2] [] h Q = Q none h := w_ret dX5_init_24 rfl
theorem I5_init {Q : Option Value → iHp → Prop} (hw : iWp 1 mX5_init 0 [.ref p, .int x0, .int x1] [] h Q) : ∃ r h1, iEv mX5_init [.ref p, .int x0, .int x1] h r h1 ∧ Q r h1 := iEv_of (by rfl) rfl hw
theorem J5_init {r : Option Value} {h1 : iHp} (hw : iWp 1 mX5_init 0 [.ref p, .int x0, .int x1] [] h (fun r' h' => r' = r ∧ h' = h1)) : iEv mX5_init [.ref p, .int x0, .int x1] h r h1 := iEv_ev (by rfl) rfl hw
theorem X5_intAt_0 : iWp d mX5_intAt 0 [.ref p, a1] st h Q = iWp d mX5_intAt 1 [.ref p, a1] (.ref p :: st) h Q := w_aload_n dX5_intAt_0 rfl
theorem X5_intAt_1 : iWp d mX5_intAt 1 [a0, .int x] st h Q = iWp d mX5_intAt 2 [a0, .int x] (.int x :: st) h Q := w_iload_n dX5_intAt_1 rfl
theorem X5_intAt_2 (he : iEv mX5_longAt [.ref p, .int x0] h (some (.long rl)) h2) (ho : iObj h p 5 = true) : iWp 3 mX5_intAt 2 [a0, a1] [.int x0, .ref p] h Q = iWp 3 mX5_intAt 5 [a0, a1] [.long rl] h2 Q := iWp_cV dX5_intAt_2 fK_5_23 rfl rfl ho (Nat.le_of_ble_eq_true rfl) (Nat.le_of_ble_eq_true rfl) rfl (Nat.le_of_ble_eq_true rfl) he rfl
theorem X5_intAt_5 : iWp d mX5_intAt 5 [a0, a1] (.long u :: st) h Q = iWp d mX5_intAt 6 [a0, a1] (.int u.toInt32 :: st) h Q := w_l2i dX5_intAt_5
theorem X5_intAt_6 : iWp d mX5_intAt 6 [a0, a1] [.int x] h Q = Q (some (.int x)) h := w_ireti dX5_intAt_6 rfl
theorem I5_intAt {Q : Option Value → iHp → Prop} (hw : iWp 3 mX5_intAt 0 [.ref p, .int x0] [] h Q) : ∃ r h1, iEv mX5_intAt [.ref p, .int x0] h r h1 ∧ Q r h1 := iEv_of (by rfl) rfl hw
theorem J5_intAt {r : Option Value} {h1 : iHp} (hw : iWp 3 mX5_intAt 0 [.ref p, .int x0] [] h (fun r' h' => r' = r ∧ h' = h1)) : iEv mX5_intAt [.ref p, .int x0] h r h1 := iEv_ev (by rfl) rfl hw
theorem X5_keep_0 : iWp d mX5_keep 0 [.ref p, a1, a2, a3] st h Q = iWp d mX5_keep 1 [.ref p, a1, a2, a3] (.ref p :: st) h Q := w_aload_n dX5_keep_0 rfl
theorem X5_keep_1 : iWp d mX5_keep 1 [a0, .int x, a2, a3] st h Q = iWp d mX5_keep 2 [a0, .int x, a2, a3] (.int x :: st) h Q := w_iload_n dX5_keep_1 rfl
theorem X5_keep_2 (he : iEv mX5_has [.ref p, .int x0] h (some (.int rv)) h2) (ho : iObj h p 5 = true) : iWp 2 mX5_keep 2 [a0, a1, a2, a3] [.int x0, .ref p] h Q = iWp 2 mX5_keep 5 [a0, a1, a2, a3] [.int rv] h2 Q := iWp_cV dX5_keep_2 fK_5_19 rfl rfl ho (Nat.le_of_ble_eq_true rfl) (Nat.le_of_ble_eq_true rfl) rfl (Nat.le_of_ble_eq_true rfl) he rfl
theorem X5_keep_5 : iWp d mX5_keep 5 [a0, a1, a2, a3] (.int x :: st) h Q = if x = 0 then iWp d mX5_keep 19 [a0, a1, a2, a3] st h Q else iWp d mX5_keep 8 [a0, a1, a2, a3] st h Q := w_ifc_eq dX5_keep_5 rfl
theorem X5_keep_8 : iWp d mX5_keep 8 [.ref p, a1, a2, a3] st h Q = iWp d mX5_keep 9 [.ref p, a1, a2, a3] (.ref p :: st) h Q := w_aload_n dX5_keep_8 rfl
theorem X5_keep_9 : iWp d mX5_keep 9 [a0, a1, a2, a3] (.ref p :: st) h Q = iOb (iGet h p 5 1) (fun v => iWp d mX5_keep 12 [a0, a1, a2, a3] (v :: st) h Q) := w_getf dX5_keep_9 fF_5_15
theorem X5_keep_12 : iWp d mX5_keep 12 [a0, .int x, a2, a3] st h Q = iWp d mX5_keep 13 [a0, .int x, a2, a3] (.int x :: st) h Q := w_iload_n dX5_keep_12 rfl
theorem X5_keep_13 : iWp d mX5_keep 13 [.ref p, a1, a2, a3] st h Q = iWp d mX5_keep 14 [.ref p, a1, a2, a3] (.ref p :: st) h Q := w_aload_n dX5_keep_13 rfl
theorem X5_keep_14 : iWp d mX5_keep 14 [a0, a1, .long u, a3] st h Q = iWp d mX5_keep 15 [a0, a1, .long u, a3] (.long u :: st) h Q := w_lload_n dX5_keep_14 rfl
theorem X5_keep_15 (he : iEv mX5_cutToSort [.ref p, .long u0] h (some (.long rl)) h2) (ho : iObj h p 5 = true) : iWp 2 mX5_keep 15 [a0, a1, a2, a3] [.long u0, .ref p, .int r0, .ref t1] h Q = iWp 2 mX5_keep 18 [a0, a1, a2, a3] [.long rl, .int r0, .ref t1] h2 Q := iWp_cV dX5_keep_15 fK_5_27 rfl rfl ho (Nat.le_of_ble_eq_true rfl) (Nat.le_of_ble_eq_true rfl) rfl (Nat.le_of_ble_eq_true rfl) he rfl
theorem X5_keep_18 : iWp d mX5_keep 18 [a0, a1, a2, a3] (.long u :: .int x :: .ref p :: st) h Q = iOb (iStL h p x u) (fun g => iWp d mX5_keep 19 [a0, a1, a2, a3] st g Q) := w_lastore dX5_keep_18
theorem X5_keep_19 : iWp d mX5_keep 19 [a0, a1, a2, a3] [] h Q = Q none h := w_ret dX5_keep_19 rfl
theorem I5_keep {Q : Option Value → iHp → Prop} (hw : iWp 2 mX5_keep 0 [.ref p, .int x0, .long u1, iU] [] h Q) : ∃ r h1, iEv mX5_keep [.ref p, .int x0, .long u1] h r h1 ∧ Q r h1 := iEv_of (by rfl) rfl hw
theorem J5_keep {r : Option Value} {h1 : iHp} (hw : iWp 2 mX5_keep 0 [.ref p, .int x0, .long u1, iU] [] h (fun r' h' => r' = r ∧ h' = h1)) : iEv mX5_keep [.ref p, .int x0, .long u1] h r h1 := iEv_ev (by rfl) rfl hw
theorem X5_length_0 : iWp d mX5_length 0 [.ref p] st h Q = iWp d mX5_length 1 [.ref p] (.ref p :: st) h Q := w_aload_n dX5_length_0 rfl
theorem X5_length_1 : iWp d mX5_length 1 [a0] (.ref p :: st) h Q = iOb (iGet h p 5 1) (fun v => iWp d mX5_length 4 [a0] (v :: st) h Q) := w_getf dX5_length_1 fF_5_15
theorem X5_length_4 : iWp d mX5_length 4 [a0] (.ref p :: st) h Q = iOb (iLen h p) (fun v => iWp d mX5_length 5 [a0] (.int v :: st) h Q) := w_alen dX5_length_4
theorem X5_length_5 : iWp d mX5_length 5 [a0] [.int x] h Q = Q (some (.int x)) h := w_ireti dX5_length_5 rfl
theorem I5_length {Q : Option Value → iHp → Prop} (hw : iWp 1 mX5_length 0 [.ref p] [] h Q) : ∃ r h1, iEv mX5_length [.ref p] h r h1 ∧ Q r h1 := iEv_of (by rfl) rfl hw
theorem J5_length {r : Option Value} {h1 : iHp} (hw : iWp 1 mX5_length 0 [.ref p] [] h (fun r' h' => r' = r ∧ h' = h1)) : iEv mX5_length [.ref p] h r h1 := iEv_ev (by rfl) rfl hw
theorem X5_longAt_0 : iWp d mX5_longAt 0 [.ref p, a1] st h Q = iWp d mX5_longAt 1 [.ref p, a1] (.ref p :: st) h Q := w_aload_n dX5_longAt_0 rfl
theorem X5_longAt_1 : iWp d mX5_longAt 1 [a0, .int x] st h Q = iWp d mX5_longAt 2 [a0, .int x] (.int x :: st) h Q := w_iload_n dX5_longAt_1 rfl
theorem X5_longAt_2 (he : iEv mX5_has [.ref p, .int x0] h (some (.int rv)) h2) (ho : iObj h p 5 = true) : iWp 2 mX5_longAt 2 [a0, a1] [.int x0, .ref p] h Q = iWp 2 mX5_longAt 5 [a0, a1] [.int rv] h2 Q := iWp_cV dX5_longAt_2 fK_5_19 rfl rfl ho (Nat.le_of_ble_eq_true rfl) (Nat.le_of_ble_eq_true rfl) rfl (Nat.le_of_ble_eq_true rfl) he rfl
theorem X5_longAt_5 : iWp d mX5_longAt 5 [a0, a1] (.int x :: st) h Q = if x = 0 then iWp d mX5_longAt 17 [a0, a1] st h Q else iWp d mX5_longAt 8 [a0, a1] st h Q := w_ifc_eq dX5_longAt_5 rfl
theorem X5_longAt_8 : iWp d mX5_longAt 8 [.ref p, a1] st h Q = iWp d mX5_longAt 9 [.ref p, a1] (.ref p :: st) h Q := w_aload_n dX5_longAt_8 rfl
theorem X5_longAt_9 : iWp d mX5_longAt 9 [a0, a1] (.ref p :: st) h Q = iOb (iGet h p 5 1) (fun v => iWp d mX5_longAt 12 [a0, a1] (v :: st) h Q) := w_getf dX5_longAt_9 fF_5_15
theorem X5_longAt_12 : iWp d mX5_longAt 12 [a0, .int x] st h Q = iWp d mX5_longAt 13 [a0, .int x] (.int x :: st) h Q := w_iload_n dX5_longAt_12 rfl
theorem X5_longAt_13 : iWp d mX5_longAt 13 [a0, a1] (.int x :: .ref p :: st) h Q = iOb (iLdL h p x) (fun v => iWp d mX5_longAt 14 [a0, a1] (.long v :: st) h Q) := w_laload dX5_longAt_13
theorem X5_longAt_14 : iWp d mX5_longAt 14 [a0, a1] st h Q = iWp d mX5_longAt 18 [a0, a1] st h Q := w_goto dX5_longAt_14 rfl
theorem X5_longAt_17 : iWp d mX5_longAt 17 [a0, a1] st h Q = iWp d mX5_longAt 18 [a0, a1] (.long 0 :: st) h Q := w_lconst dX5_longAt_17 rfl
theorem X5_longAt_18 : iWp d mX5_longAt 18 [a0, a1] [.long u] h Q = Q (some (.long u)) h := w_lret dX5_longAt_18 rfl
theorem I5_longAt {Q : Option Value → iHp → Prop} (hw : iWp 2 mX5_longAt 0 [.ref p, .int x0] [] h Q) : ∃ r h1, iEv mX5_longAt [.ref p, .int x0] h r h1 ∧ Q r h1 := iEv_of (by rfl) rfl hw
theorem J5_longAt {r : Option Value} {h1 : iHp} (hw : iWp 2 mX5_longAt 0 [.ref p, .int x0] [] h (fun r' h' => r' = r ∧ h' = h1)) : iEv mX5_longAt [.ref p, .int x0] h r h1 := iEv_ev (by rfl) rfl hw
theorem X6_addPatch_0 : iWp d mX6_addPatch 0 [.ref p, a1] st h Q = iWp d mX6_addPatch 1 [.ref p, a1] (.ref p :: st) h Q := w_aload_n dX6_addPatch_0 rfl
theorem X6_addPatch_1 : iWp d mX6_addPatch 1 [a0, a1] (.ref p :: st) h Q = iOb (iGet h p 6 3) (fun v => iWp d mX6_addPatch 4 [a0, a1] (v :: st) h Q) := w_getf dX6_addPatch_1 fF_6_27
theorem X6_addPatch_4 : iWp d mX6_addPatch 4 [a0, a1] (.int x :: st) h Q = if x < 0 then iWp d mX6_addPatch 16 [a0, a1] st h Q else iWp d mX6_addPatch 7 [a0, a1] st h Q := w_ifc_lt dX6_addPatch_4 rfl
theorem X6_addPatch_7 : iWp d mX6_addPatch 7 [.ref p, a1] st h Q = iWp d mX6_addPatch 8 [.ref p, a1] (.ref p :: st) h Q := w_aload_n dX6_addPatch_7 rfl
theorem X6_addPatch_8 : iWp d mX6_addPatch 8 [a0, a1] (.ref p :: st) h Q = iOb (iGet h p 6 3) (fun v => iWp d mX6_addPatch 11 [a0, a1] (v :: st) h Q) := w_getf dX6_addPatch_8 fF_6_27
theorem X6_addPatch_11 : iWp d mX6_addPatch 11 [a0, a1] st h Q = iWp d mX6_addPatch 13 [a0, a1] (.int 16 :: st) h Q := w_bipush dX6_addPatch_11 rfl
theorem X6_addPatch_13 : iWp d mX6_addPatch 13 [a0, a1] (.int y :: .int x :: st) h Q = if x < y then iWp d mX6_addPatch 18 [a0, a1] st h Q else iWp d mX6_addPatch 16 [a0, a1] st h Q := w_icmp_lt dX6_addPatch_13 rfl
theorem X6_addPatch_16 : iWp d mX6_addPatch 16 [a0, a1] st h Q = iWp d mX6_addPatch 17 [a0, a1] (.int (-1) :: st) h Q := w_iconst dX6_addPatch_16 rfl
theorem X6_addPatch_17 : iWp d mX6_addPatch 17 [a0, a1] [.int x] h Q = Q (some (.int x)) h := w_ireti dX6_addPatch_17 rfl
theorem X6_addPatch_18 : iWp d mX6_addPatch 18 [.ref p, a1] st h Q = iWp d mX6_addPatch 19 [.ref p, a1] (.ref p :: st) h Q := w_aload_n dX6_addPatch_18 rfl
theorem X6_addPatch_19 : iWp d mX6_addPatch 19 [a0, a1] (.ref p :: st) h Q = iOb (iGet h p 6 1) (fun v => iWp d mX6_addPatch 22 [a0, a1] (v :: st) h Q) := w_getf dX6_addPatch_19 fF_6_19
theorem X6_addPatch_22 : iWp d mX6_addPatch 22 [.ref p, a1] st h Q = iWp d mX6_addPatch 23 [.ref p, a1] (.ref p :: st) h Q := w_aload_n dX6_addPatch_22 rfl
theorem X6_addPatch_23 : iWp d mX6_addPatch 23 [a0, a1] (.ref p :: st) h Q = iOb (iGet h p 6 3) (fun v => iWp d mX6_addPatch 26 [a0, a1] (v :: st) h Q) := w_getf dX6_addPatch_23 fF_6_27
theorem X6_addPatch_26 : iWp d mX6_addPatch 26 [a0, .ref p] st h Q = iWp d mX6_addPatch 27 [a0, .ref p] (.ref p :: st) h Q := w_aload_n dX6_addPatch_26 rfl
theorem X6_addPatch_26n : iWp d mX6_addPatch 26 [a0, .null] st h Q = iWp d mX6_addPatch 27 [a0, .null] (.null :: st) h Q := w_aload_nN dX6_addPatch_26 rfl
theorem X6_addPatch_27 : iWp d mX6_addPatch 27 [a0, a1] (.ref q :: .int x :: .ref p :: st) h Q = iOb (iStQ h p x (some q)) (fun g => iWp d mX6_addPatch 28 [a0, a1] st g Q) := w_aastore dX6_addPatch_27
theorem X6_addPatch_27n : iWp d mX6_addPatch 27 [a0, a1] (.null :: .int x :: .ref p :: st) h Q = iOb (iStQ h p x none) (fun g => iWp d mX6_addPatch 28 [a0, a1] st g Q) := w_aastoreN dX6_addPatch_27
theorem X6_addPatch_28 : iWp d mX6_addPatch 28 [.ref p, a1] st h Q = iWp d mX6_addPatch 29 [.ref p, a1] (.ref p :: st) h Q := w_aload_n dX6_addPatch_28 rfl
theorem X6_addPatch_29 : iWp d mX6_addPatch 29 [a0, a1] (.ref p :: st) h Q = iWp d mX6_addPatch 30 [a0, a1] (.ref p :: .ref p :: st) h Q := w_dup dX6_addPatch_29 rfl
theorem X6_addPatch_30 : iWp d mX6_addPatch 30 [a0, a1] (.ref p :: st) h Q = iOb (iGet h p 6 3) (fun v => iWp d mX6_addPatch 33 [a0, a1] (v :: st) h Q) := w_getf dX6_addPatch_30 fF_6_27
theorem X6_addPatch_33 : iWp d mX6_addPatch 33 [a0, a1] st h Q = iWp d mX6_addPatch 34 [a0, a1] (.int 1 :: st) h Q := w_iconst dX6_addPatch_33 rfl
theorem X6_addPatch_34 : iWp d mX6_addPatch 34 [a0, a1] (.int y :: .int x :: st) h Q = iWp d mX6_addPatch 35 [a0, a1] (.int (x + y) :: st) h Q := w_iadd dX6_addPatch_34
theorem X6_addPatch_35 : iWp d mX6_addPatch 35 [a0, a1] (.int x :: .ref p :: st) h Q = iOb (iPut h p 6 3 (.int x)) (fun g => iWp d mX6_addPatch 38 [a0, a1] st g Q) := w_putf dX6_addPatch_35 fF_6_27 ⟨rfl, (Or.inl rfl)⟩
theorem X6_addPatch_38 : iWp d mX6_addPatch 38 [.ref p, a1] st h Q = iWp d mX6_addPatch 39 [.ref p, a1] (.ref p :: st) h Q := w_aload_n dX6_addPatch_38 rfl
theorem X6_addPatch_39 : iWp d mX6_addPatch 39 [a0, a1] (.ref p :: st) h Q = iOb (iGet h p 6 3) (fun v => iWp d mX6_addPatch 42 [a0, a1] (v :: st) h Q) := w_getf dX6_addPatch_39 fF_6_27
theorem X6_addPatch_42 : iWp d mX6_addPatch 42 [a0, a1] st h Q = iWp d mX6_addPatch 43 [a0, a1] (.int 1 :: st) h Q := w_iconst dX6_addPatch_42 rfl
theorem X6_addPatch_43 : iWp d mX6_addPatch 43 [a0, a1] (.int y :: .int x :: st) h Q = iWp d mX6_addPatch 44 [a0, a1] (.int (x - y) :: st) h Q := w_isub dX6_addPatch_43
theorem X6_addPatch_44 : iWp d mX6_addPatch 44 [a0, a1] [.int x] h Q = Q (some (.int x)) h := w_ireti dX6_addPatch_44 rfl
theorem I6_addPatch {Q : Option Value → iHp → Prop} (c0 : b0.category = 1) (hw : iWp 1 mX6_addPatch 0 [.ref p, b0] [] h Q) : ∃ r h1, iEv mX6_addPatch [.ref p, b0] h r h1 ∧ Q r h1 := iEv_of (by rfl) (by simp [iInit, cat_i, cat_r, cat_l, mX6_addPatch, c0]) hw
theorem J6_addPatch {r : Option Value} {h1 : iHp} (c0 : b0.category = 1) (hw : iWp 1 mX6_addPatch 0 [.ref p, b0] [] h (fun r' h' => r' = r ∧ h' = h1)) : iEv mX6_addPatch [.ref p, b0] h r h1 := iEv_ev (by rfl) (by simp [iInit, cat_i, cat_r, cat_l, mX6_addPatch, c0]) hw
theorem X6_addTree_0 : iWp d mX6_addTree 0 [.ref p, a1] st h Q = iWp d mX6_addTree 1 [.ref p, a1] (.ref p :: st) h Q := w_aload_n dX6_addTree_0 rfl
theorem X6_addTree_1 : iWp d mX6_addTree 1 [a0, a1] (.ref p :: st) h Q = iOb (iGet h p 6 2) (fun v => iWp d mX6_addTree 4 [a0, a1] (v :: st) h Q) := w_getf dX6_addTree_1 fF_6_23
theorem X6_addTree_4 : iWp d mX6_addTree 4 [a0, a1] (.int x :: st) h Q = if x < 0 then iWp d mX6_addTree 16 [a0, a1] st h Q else iWp d mX6_addTree 7 [a0, a1] st h Q := w_ifc_lt dX6_addTree_4 rfl
theorem X6_addTree_7 : iWp d mX6_addTree 7 [.ref p, a1] st h Q = iWp d mX6_addTree 8 [.ref p, a1] (.ref p :: st) h Q := w_aload_n dX6_addTree_7 rfl
theorem X6_addTree_8 : iWp d mX6_addTree 8 [a0, a1] (.ref p :: st) h Q = iOb (iGet h p 6 2) (fun v => iWp d mX6_addTree 11 [a0, a1] (v :: st) h Q) := w_getf dX6_addTree_8 fF_6_23
theorem X6_addTree_11 : iWp d mX6_addTree 11 [a0, a1] st h Q = iWp d mX6_addTree 13 [a0, a1] (.int 16 :: st) h Q := w_bipush dX6_addTree_11 rfl
theorem X6_addTree_13 : iWp d mX6_addTree 13 [a0, a1] (.int y :: .int x :: st) h Q = if x < y then iWp d mX6_addTree 18 [a0, a1] st h Q else iWp d mX6_addTree 16 [a0, a1] st h Q := w_icmp_lt dX6_addTree_13 rfl
theorem X6_addTree_16 : iWp d mX6_addTree 16 [a0, a1] st h Q = iWp d mX6_addTree 17 [a0, a1] (.int (-1) :: st) h Q := w_iconst dX6_addTree_16 rfl
theorem X6_addTree_17 : iWp d mX6_addTree 17 [a0, a1] [.int x] h Q = Q (some (.int x)) h := w_ireti dX6_addTree_17 rfl
theorem X6_addTree_18 : iWp d mX6_addTree 18 [.ref p, a1] st h Q = iWp d mX6_addTree 19 [.ref p, a1] (.ref p :: st) h Q := w_aload_n dX6_addTree_18 rfl
theorem X6_addTree_19 : iWp d mX6_addTree 19 [a0, a1] (.ref p :: st) h Q = iOb (iGet h p 6 0) (fun v => iWp d mX6_addTree 22 [a0, a1] (v :: st) h Q) := w_getf dX6_addTree_19 fF_6_11
theorem X6_addTree_22 : iWp d mX6_addTree 22 [.ref p, a1] st h Q = iWp d mX6_addTree 23 [.ref p, a1] (.ref p :: st) h Q := w_aload_n dX6_addTree_22 rfl
theorem X6_addTree_23 : iWp d mX6_addTree 23 [a0, a1] (.ref p :: st) h Q = iOb (iGet h p 6 2) (fun v => iWp d mX6_addTree 26 [a0, a1] (v :: st) h Q) := w_getf dX6_addTree_23 fF_6_23
theorem X6_addTree_26 : iWp d mX6_addTree 26 [a0, .ref p] st h Q = iWp d mX6_addTree 27 [a0, .ref p] (.ref p :: st) h Q := w_aload_n dX6_addTree_26 rfl
theorem X6_addTree_26n : iWp d mX6_addTree 26 [a0, .null] st h Q = iWp d mX6_addTree 27 [a0, .null] (.null :: st) h Q := w_aload_nN dX6_addTree_26 rfl
theorem X6_addTree_27 : iWp d mX6_addTree 27 [a0, a1] (.ref q :: .int x :: .ref p :: st) h Q = iOb (iStQ h p x (some q)) (fun g => iWp d mX6_addTree 28 [a0, a1] st g Q) := w_aastore dX6_addTree_27
theorem X6_addTree_27n : iWp d mX6_addTree 27 [a0, a1] (.null :: .int x :: .ref p :: st) h Q = iOb (iStQ h p x none) (fun g => iWp d mX6_addTree 28 [a0, a1] st g Q) := w_aastoreN dX6_addTree_27
theorem X6_addTree_28 : iWp d mX6_addTree 28 [.ref p, a1] st h Q = iWp d mX6_addTree 29 [.ref p, a1] (.ref p :: st) h Q := w_aload_n dX6_addTree_28 rfl
theorem X6_addTree_29 : iWp d mX6_addTree 29 [a0, a1] (.ref p :: st) h Q = iWp d mX6_addTree 30 [a0, a1] (.ref p :: .ref p :: st) h Q := w_dup dX6_addTree_29 rfl
theorem X6_addTree_30 : iWp d mX6_addTree 30 [a0, a1] (.ref p :: st) h Q = iOb (iGet h p 6 2) (fun v => iWp d mX6_addTree 33 [a0, a1] (v :: st) h Q) := w_getf dX6_addTree_30 fF_6_23
theorem X6_addTree_33 : iWp d mX6_addTree 33 [a0, a1] st h Q = iWp d mX6_addTree 34 [a0, a1] (.int 1 :: st) h Q := w_iconst dX6_addTree_33 rfl
theorem X6_addTree_34 : iWp d mX6_addTree 34 [a0, a1] (.int y :: .int x :: st) h Q = iWp d mX6_addTree 35 [a0, a1] (.int (x + y) :: st) h Q := w_iadd dX6_addTree_34
theorem X6_addTree_35 : iWp d mX6_addTree 35 [a0, a1] (.int x :: .ref p :: st) h Q = iOb (iPut h p 6 2 (.int x)) (fun g => iWp d mX6_addTree 38 [a0, a1] st g Q) := w_putf dX6_addTree_35 fF_6_23 ⟨rfl, (Or.inl rfl)⟩
theorem X6_addTree_38 : iWp d mX6_addTree 38 [.ref p, a1] st h Q = iWp d mX6_addTree 39 [.ref p, a1] (.ref p :: st) h Q := w_aload_n dX6_addTree_38 rfl
theorem X6_addTree_39 : iWp d mX6_addTree 39 [a0, a1] (.ref p :: st) h Q = iOb (iGet h p 6 2) (fun v => iWp d mX6_addTree 42 [a0, a1] (v :: st) h Q) := w_getf dX6_addTree_39 fF_6_23
theorem X6_addTree_42 : iWp d mX6_addTree 42 [a0, a1] st h Q = iWp d mX6_addTree 43 [a0, a1] (.int 1 :: st) h Q := w_iconst dX6_addTree_42 rfl
theorem X6_addTree_43 : iWp d mX6_addTree 43 [a0, a1] (.int y :: .int x :: st) h Q = iWp d mX6_addTree 44 [a0, a1] (.int (x - y) :: st) h Q := w_isub dX6_addTree_43
theorem X6_addTree_44 : iWp d mX6_addTree 44 [a0, a1] [.int x] h Q = Q (some (.int x)) h := w_ireti dX6_addTree_44 rfl
theorem I6_addTree {Q : Option Value → iHp → Prop} (c0 : b0.category = 1) (hw : iWp 1 mX6_addTree 0 [.ref p, b0] [] h Q) : ∃ r h1, iEv mX6_addTree [.ref p, b0] h r h1 ∧ Q r h1 := iEv_of (by rfl) (by simp [iInit, cat_i, cat_r, cat_l, mX6_addTree, c0]) hw
theorem J6_addTree {r : Option Value} {h1 : iHp} (c0 : b0.category = 1) (hw : iWp 1 mX6_addTree 0 [.ref p, b0] [] h (fun r' h' => r' = r ∧ h' = h1)) : iEv mX6_addTree [.ref p, b0] h r h1 := iEv_ev (by rfl) (by simp [iInit, cat_i, cat_r, cat_l, mX6_addTree, c0]) hw
theorem X6_draw_0 : iWp d mX6_draw 0 [.ref p, a1] st h Q = iWp d mX6_draw 1 [.ref p, a1] (.ref p :: st) h Q := w_aload_n dX6_draw_0 rfl
theorem X6_draw_1 : iWp d mX6_draw 1 [.ref p, a1] st h Q = iWp d mX6_draw 2 [.ref p, a1] (.ref p :: st) h Q := w_aload_n dX6_draw_1 rfl
theorem X6_draw_2 : iWp d mX6_draw 2 [a0, a1] (.ref p :: st) h Q = iOb (iGet h p 6 4) (fun v => iWp d mX6_draw 5 [a0, a1] (v :: st) h Q) := w_getf dX6_draw_2 fF_6_30
theorem X6_draw_5 : iWp d mX6_draw 5 [a0, a1] st h Q = iWp d mX6_draw 7 [a0, a1] (.int 1103515245 :: st) h Q := w_ldc dX6_draw_5 rfl
theorem X6_draw_7 : iWp d mX6_draw 7 [a0, a1] (.int y :: .int x :: st) h Q = iWp d mX6_draw 8 [a0, a1] (.int (x * y) :: st) h Q := w_imul dX6_draw_7
theorem X6_draw_8 : iWp d mX6_draw 8 [a0, a1] st h Q = iWp d mX6_draw 11 [a0, a1] (.int 12345 :: st) h Q := w_sipush dX6_draw_8 rfl
theorem X6_draw_11 : iWp d mX6_draw 11 [a0, a1] (.int y :: .int x :: st) h Q = iWp d mX6_draw 12 [a0, a1] (.int (x + y) :: st) h Q := w_iadd dX6_draw_11
theorem X6_draw_12 : iWp d mX6_draw 12 [a0, a1] (.int x :: .ref p :: st) h Q = iOb (iPut h p 6 4 (.int x)) (fun g => iWp d mX6_draw 15 [a0, a1] st g Q) := w_putf dX6_draw_12 fF_6_30 ⟨rfl, (Or.inl rfl)⟩
theorem X6_draw_15 : iWp d mX6_draw 15 [a0, .int x] st h Q = iWp d mX6_draw 16 [a0, .int x] (.int x :: st) h Q := w_iload_n dX6_draw_15 rfl
theorem X6_draw_16 : iWp d mX6_draw 16 [a0, a1] (.int x :: st) h Q = if x ≤ 0 then iWp d mX6_draw 31 [a0, a1] st h Q else iWp d mX6_draw 19 [a0, a1] st h Q := w_ifc_le dX6_draw_16 rfl
theorem X6_draw_19 : iWp d mX6_draw 19 [.ref p, a1] st h Q = iWp d mX6_draw 20 [.ref p, a1] (.ref p :: st) h Q := w_aload_n dX6_draw_19 rfl
theorem X6_draw_20 : iWp d mX6_draw 20 [a0, a1] (.ref p :: st) h Q = iOb (iGet h p 6 4) (fun v => iWp d mX6_draw 23 [a0, a1] (v :: st) h Q) := w_getf dX6_draw_20 fF_6_30
theorem X6_draw_23 : iWp d mX6_draw 23 [a0, a1] st h Q = iWp d mX6_draw 25 [a0, a1] (.int 16 :: st) h Q := w_bipush dX6_draw_23 rfl
theorem X6_draw_25 : iWp d mX6_draw 25 [a0, a1] (.int y :: .int x :: st) h Q = iWp d mX6_draw 26 [a0, a1] (.int (x.toUInt32 >>> (y.toUInt32 &&& Int32.toUInt32 31)).toInt32 :: st) h Q := w_iushr dX6_draw_25
theorem X6_draw_26 : iWp d mX6_draw 26 [a0, .int x] st h Q = iWp d mX6_draw 27 [a0, .int x] (.int x :: st) h Q := w_iload_n dX6_draw_26 rfl
theorem X6_draw_27 (hz : ¬ y = 0) : iWp d mX6_draw 27 [a0, a1] (.int y :: .int x :: st) h Q = iWp d mX6_draw 28 [a0, a1] (.int (x - x / y * y) :: st) h Q := w_irem dX6_draw_27 hz
theorem X6_draw_28 : iWp d mX6_draw 28 [a0, a1] st h Q = iWp d mX6_draw 32 [a0, a1] st h Q := w_goto dX6_draw_28 rfl
theorem X6_draw_31 : iWp d mX6_draw 31 [a0, a1] st h Q = iWp d mX6_draw 32 [a0, a1] (.int 0 :: st) h Q := w_iconst dX6_draw_31 rfl
theorem X6_draw_32 : iWp d mX6_draw 32 [a0, a1] [.int x] h Q = Q (some (.int x)) h := w_ireti dX6_draw_32 rfl
theorem I6_draw {Q : Option Value → iHp → Prop} (hw : iWp 1 mX6_draw 0 [.ref p, .int x0] [] h Q) : ∃ r h1, iEv mX6_draw [.ref p, .int x0] h r h1 ∧ Q r h1 := iEv_of (by rfl) rfl hw
theorem J6_draw {r : Option Value} {h1 : iHp} (hw : iWp 1 mX6_draw 0 [.ref p, .int x0] [] h (fun r' h' => r' = r ∧ h' = h1)) : iEv mX6_draw [.ref p, .int x0] h r h1 := iEv_ev (by rfl) rfl hw
theorem X6_dropTree_0 : iWp d mX6_dropTree 0 [.ref p] st h Q = iWp d mX6_dropTree 1 [.ref p] (.ref p :: st) h Q := w_aload_n dX6_dropTree_0 rfl
theorem X6_dropTree_1 : iWp d mX6_dropTree 1 [a0] (.ref p :: st) h Q = iOb (iGet h p 6 2) (fun v => iWp d mX6_dropTree 4 [a0] (v :: st) h Q) := w_getf dX6_dropTree_1 fF_6_23
theorem X6_dropTree_4 : iWp d mX6_dropTree 4 [a0] (.int x :: st) h Q = if x ≤ 0 then iWp d mX6_dropTree 36 [a0] st h Q else iWp d mX6_dropTree 7 [a0] st h Q := w_ifc_le dX6_dropTree_4 rfl
theorem X6_dropTree_7 : iWp d mX6_dropTree 7 [.ref p] st h Q = iWp d mX6_dropTree 8 [.ref p] (.ref p :: st) h Q := w_aload_n dX6_dropTree_7 rfl
theorem X6_dropTree_8 : iWp d mX6_dropTree 8 [a0] (.ref p :: st) h Q = iOb (iGet h p 6 2) (fun v => iWp d mX6_dropTree 11 [a0] (v :: st) h Q) := w_getf dX6_dropTree_8 fF_6_23
theorem X6_dropTree_11 : iWp d mX6_dropTree 11 [a0] st h Q = iWp d mX6_dropTree 13 [a0] (.int 16 :: st) h Q := w_bipush dX6_dropTree_11 rfl
theorem X6_dropTree_13 : iWp d mX6_dropTree 13 [a0] (.int y :: .int x :: st) h Q = if y < x then iWp d mX6_dropTree 36 [a0] st h Q else iWp d mX6_dropTree 16 [a0] st h Q := w_icmp_gt dX6_dropTree_13 rfl
theorem X6_dropTree_16 : iWp d mX6_dropTree 16 [.ref p] st h Q = iWp d mX6_dropTree 17 [.ref p] (.ref p :: st) h Q := w_aload_n dX6_dropTree_16 rfl
theorem X6_dropTree_17 : iWp d mX6_dropTree 17 [a0] (.ref p :: st) h Q = iWp d mX6_dropTree 18 [a0] (.ref p :: .ref p :: st) h Q := w_dup dX6_dropTree_17 rfl
theorem X6_dropTree_18 : iWp d mX6_dropTree 18 [a0] (.ref p :: st) h Q = iOb (iGet h p 6 2) (fun v => iWp d mX6_dropTree 21 [a0] (v :: st) h Q) := w_getf dX6_dropTree_18 fF_6_23
theorem X6_dropTree_21 : iWp d mX6_dropTree 21 [a0] st h Q = iWp d mX6_dropTree 22 [a0] (.int 1 :: st) h Q := w_iconst dX6_dropTree_21 rfl
theorem X6_dropTree_22 : iWp d mX6_dropTree 22 [a0] (.int y :: .int x :: st) h Q = iWp d mX6_dropTree 23 [a0] (.int (x - y) :: st) h Q := w_isub dX6_dropTree_22
theorem X6_dropTree_23 : iWp d mX6_dropTree 23 [a0] (.int x :: .ref p :: st) h Q = iOb (iPut h p 6 2 (.int x)) (fun g => iWp d mX6_dropTree 26 [a0] st g Q) := w_putf dX6_dropTree_23 fF_6_23 ⟨rfl, (Or.inl rfl)⟩
theorem X6_dropTree_26 : iWp d mX6_dropTree 26 [.ref p] st h Q = iWp d mX6_dropTree 27 [.ref p] (.ref p :: st) h Q := w_aload_n dX6_dropTree_26 rfl
theorem X6_dropTree_27 : iWp d mX6_dropTree 27 [a0] (.ref p :: st) h Q = iOb (iGet h p 6 0) (fun v => iWp d mX6_dropTree 30 [a0] (v :: st) h Q) := w_getf dX6_dropTree_27 fF_6_11
theorem X6_dropTree_30 : iWp d mX6_dropTree 30 [.ref p] st h Q = iWp d mX6_dropTree 31 [.ref p] (.ref p :: st) h Q := w_aload_n dX6_dropTree_30 rfl
theorem X6_dropTree_31 : iWp d mX6_dropTree 31 [a0] (.ref p :: st) h Q = iOb (iGet h p 6 2) (fun v => iWp d mX6_dropTree 34 [a0] (v :: st) h Q) := w_getf dX6_dropTree_31 fF_6_23
theorem X6_dropTree_34 : iWp d mX6_dropTree 34 [a0] st h Q = iWp d mX6_dropTree 35 [a0] (.null :: st) h Q := w_null dX6_dropTree_34
theorem X6_dropTree_35 : iWp d mX6_dropTree 35 [a0] (.ref q :: .int x :: .ref p :: st) h Q = iOb (iStQ h p x (some q)) (fun g => iWp d mX6_dropTree 36 [a0] st g Q) := w_aastore dX6_dropTree_35
theorem X6_dropTree_35n : iWp d mX6_dropTree 35 [a0] (.null :: .int x :: .ref p :: st) h Q = iOb (iStQ h p x none) (fun g => iWp d mX6_dropTree 36 [a0] st g Q) := w_aastoreN dX6_dropTree_35
theorem X6_dropTree_36 : iWp d mX6_dropTree 36 [a0] [] h Q = Q none h := w_ret dX6_dropTree_36 rfl
theorem I6_dropTree {Q : Option Value → iHp → Prop} (hw : iWp 1 mX6_dropTree 0 [.ref p] [] h Q) : ∃ r h1, iEv mX6_dropTree [.ref p] h r h1 ∧ Q r h1 := iEv_of (by rfl) rfl hw
theorem J6_dropTree {r : Option Value} {h1 : iHp} (hw : iWp 1 mX6_dropTree 0 [.ref p] [] h (fun r' h' => r' = r ∧ h' = h1)) : iEv mX6_dropTree [.ref p] h r h1 := iEv_ev (by rfl) rfl hw
theorem X6_editCount_0 : iWp d mX6_editCount 0 [a0, a1, a2, a3] st h Q = iWp d mX6_editCount 1 [a0, a1, a2, a3] (.int 0 :: st) h Q := w_iconst dX6_editCount_0 rfl
theorem X6_editCount_1 : iWp d mX6_editCount 1 [a0, a1, a2, a3] (.int x :: st) h Q = iWp d mX6_editCount 2 [iClr a0, .int x, a2, a3] st h Q := w_istore_n dX6_editCount_1 (Nat.le_of_ble_eq_true rfl) rfl
theorem X6_editCount_2 : iWp d mX6_editCount 2 [a0, a1, a2, a3] st h Q = iWp d mX6_editCount 3 [a0, a1, a2, a3] (.int 0 :: st) h Q := w_iconst dX6_editCount_2 rfl
theorem X6_editCount_3 : iWp d mX6_editCount 3 [a0, a1, a2, a3] (.int x :: st) h Q = iWp d mX6_editCount 4 [a0, iClr a1, .int x, a3] st h Q := w_istore_n dX6_editCount_3 (Nat.le_of_ble_eq_true rfl) rfl
theorem X6_editCount_4 : iWp d mX6_editCount 4 [a0, a1, .int x, a3] st h Q = iWp d mX6_editCount 5 [a0, a1, .int x, a3] (.int x :: st) h Q := w_iload_n dX6_editCount_4 rfl
theorem X6_editCount_5 : iWp d mX6_editCount 5 [.ref p, a1, a2, a3] st h Q = iWp d mX6_editCount 6 [.ref p, a1, a2, a3] (.ref p :: st) h Q := w_aload_n dX6_editCount_5 rfl
theorem X6_editCount_6 : iWp d mX6_editCount 6 [a0, a1, a2, a3] (.ref p :: st) h Q = iOb (iGet h p 6 3) (fun v => iWp d mX6_editCount 9 [a0, a1, a2, a3] (v :: st) h Q) := w_getf dX6_editCount_6 fF_6_27
theorem X6_editCount_9 : iWp d mX6_editCount 9 [a0, a1, a2, a3] (.int y :: .int x :: st) h Q = if y ≤ x then iWp d mX6_editCount 39 [a0, a1, a2, a3] st h Q else iWp d mX6_editCount 12 [a0, a1, a2, a3] st h Q := w_icmp_ge dX6_editCount_9 rfl
theorem X6_editCount_12 : iWp d mX6_editCount 12 [.ref p, a1, a2, a3] st h Q = iWp d mX6_editCount 13 [.ref p, a1, a2, a3] (.ref p :: st) h Q := w_aload_n dX6_editCount_12 rfl
theorem X6_editCount_13 : iWp d mX6_editCount 13 [a0, a1, .int x, a3] st h Q = iWp d mX6_editCount 14 [a0, a1, .int x, a3] (.int x :: st) h Q := w_iload_n dX6_editCount_13 rfl
theorem X6_editCount_14 (he : iEv mX6_patchAt [.ref p, .int x0] h (some rw) h2) (ho : iObj h p 6 = true) : iWp 2 mX6_editCount 14 [a0, a1, a2, a3] [.int x0, .ref p] h Q = iWp 2 mX6_editCount 17 [a0, a1, a2, a3] [rw] h2 Q := iWp_cV dX6_editCount_14 fK_6_40 rfl rfl ho (Nat.le_of_ble_eq_true rfl) (Nat.le_of_ble_eq_true rfl) rfl (Nat.le_of_ble_eq_true rfl) he rfl
theorem X6_editCount_17 : iWp d mX6_editCount 17 [a0, a1, a2, a3] (.ref p :: st) h Q = iWp d mX6_editCount 18 [a0, a1, iClr a2, .ref p] st h Q := w_astore_n dX6_editCount_17 (Nat.le_of_ble_eq_true rfl) rfl
theorem X6_editCount_17n : iWp d mX6_editCount 17 [a0, a1, a2, a3] (.null :: st) h Q = iWp d mX6_editCount 18 [a0, a1, iClr a2, .null] st h Q := w_astore_nN dX6_editCount_17 (Nat.le_of_ble_eq_true rfl) rfl
theorem X6_editCount_18 : iWp d mX6_editCount 18 [a0, .int x, a2, a3] st h Q = iWp d mX6_editCount 19 [a0, .int x, a2, a3] (.int x :: st) h Q := w_iload_n dX6_editCount_18 rfl
theorem X6_editCount_19 : iWp d mX6_editCount 19 [a0, a1, a2, .ref p] st h Q = iWp d mX6_editCount 20 [a0, a1, a2, .ref p] (.ref p :: st) h Q := w_aload_n dX6_editCount_19 rfl
theorem X6_editCount_19n : iWp d mX6_editCount 19 [a0, a1, a2, .null] st h Q = iWp d mX6_editCount 20 [a0, a1, a2, .null] (.null :: st) h Q := w_aload_nN dX6_editCount_19 rfl
theorem X6_editCount_20 : iWp d mX6_editCount 20 [a0, a1, a2, a3] (.ref p :: st) h Q = iWp d mX6_editCount 27 [a0, a1, a2, a3] st h Q := w_ifnonnull dX6_editCount_20 rfl
theorem X6_editCount_20n : iWp d mX6_editCount 20 [a0, a1, a2, a3] (.null :: st) h Q = iWp d mX6_editCount 23 [a0, a1, a2, a3] st h Q := w_ifnonnullN dX6_editCount_20
theorem X6_editCount_23 : iWp d mX6_editCount 23 [a0, a1, a2, a3] st h Q = iWp d mX6_editCount 24 [a0, a1, a2, a3] (.int 0 :: st) h Q := w_iconst dX6_editCount_23 rfl
theorem X6_editCount_24 : iWp d mX6_editCount 24 [a0, a1, a2, a3] st h Q = iWp d mX6_editCount 31 [a0, a1, a2, a3] st h Q := w_goto dX6_editCount_24 rfl
theorem X6_editCount_27 : iWp d mX6_editCount 27 [a0, a1, a2, .ref p] st h Q = iWp d mX6_editCount 28 [a0, a1, a2, .ref p] (.ref p :: st) h Q := w_aload_n dX6_editCount_27 rfl
theorem X6_editCount_27n : iWp d mX6_editCount 27 [a0, a1, a2, .null] st h Q = iWp d mX6_editCount 28 [a0, a1, a2, .null] (.null :: st) h Q := w_aload_nN dX6_editCount_27 rfl
theorem X6_editCount_28 (he : iEv mX3_size [.ref p] h (some (.int rv)) h2) (ho : iObj h p 3 = true) : iWp 2 mX6_editCount 28 [a0, a1, a2, a3] [.ref p, .int r0] h Q = iWp 2 mX6_editCount 31 [a0, a1, a2, a3] [.int rv, .int r0] h2 Q := iWp_cV dX6_editCount_28 fK_6_44 rfl rfl ho (Nat.le_of_ble_eq_true rfl) (Nat.le_of_ble_eq_true rfl) rfl (Nat.le_of_ble_eq_true rfl) he rfl
theorem X6_editCount_31 : iWp d mX6_editCount 31 [a0, a1, a2, a3] (.int y :: .int x :: st) h Q = iWp d mX6_editCount 32 [a0, a1, a2, a3] (.int (x + y) :: st) h Q := w_iadd dX6_editCount_31
theorem X6_editCount_32 : iWp d mX6_editCount 32 [a0, a1, a2, a3] (.int x :: st) h Q = iWp d mX6_editCount 33 [iClr a0, .int x, a2, a3] st h Q := w_istore_n dX6_editCount_32 (Nat.le_of_ble_eq_true rfl) rfl
theorem X6_editCount_33 : iWp d mX6_editCount 33 [a0, a1, .int x, a3] st h Q = iWp d mX6_editCount 36 [a0, iClr a1, .int (x + 1), a3] st h Q := w_iinc dX6_editCount_33 rfl (Nat.le_of_ble_eq_true rfl) rfl
theorem X6_editCount_36 : iWp d mX6_editCount 36 [a0, a1, a2, a3] st h Q = iWp d mX6_editCount 4 [a0, a1, a2, a3] st h Q := w_goto dX6_editCount_36 rfl
theorem X6_editCount_39 : iWp d mX6_editCount 39 [a0, .int x, a2, a3] st h Q = iWp d mX6_editCount 40 [a0, .int x, a2, a3] (.int x :: st) h Q := w_iload_n dX6_editCount_39 rfl
theorem X6_editCount_40 : iWp d mX6_editCount 40 [a0, a1, a2, a3] [.int x] h Q = Q (some (.int x)) h := w_ireti dX6_editCount_40 rfl
theorem I6_editCount {Q : Option Value → iHp → Prop} (hw : iWp 2 mX6_editCount 0 [.ref p, iU, iU, iU] [] h Q) : ∃ r h1, iEv mX6_editCount [.ref p] h r h1 ∧ Q r h1 := iEv_of (by rfl) rfl hw
theorem J6_editCount {r : Option Value} {h1 : iHp} (hw : iWp 2 mX6_editCount 0 [.ref p, iU, iU, iU] [] h (fun r' h' => r' = r ∧ h' = h1)) : iEv mX6_editCount [.ref p] h r h1 := iEv_ev (by rfl) rfl hw
theorem X6_forgetPatch_0 : iWp d mX6_forgetPatch 0 [.ref p] st h Q = iWp d mX6_forgetPatch 1 [.ref p] (.ref p :: st) h Q := w_aload_n dX6_forgetPatch_0 rfl
theorem X6_forgetPatch_1 : iWp d mX6_forgetPatch 1 [a0] (.ref p :: st) h Q = iOb (iGet h p 6 3) (fun v => iWp d mX6_forgetPatch 4 [a0] (v :: st) h Q) := w_getf dX6_forgetPatch_1 fF_6_27
theorem X6_forgetPatch_4 : iWp d mX6_forgetPatch 4 [a0] (.int x :: st) h Q = if x ≤ 0 then iWp d mX6_forgetPatch 36 [a0] st h Q else iWp d mX6_forgetPatch 7 [a0] st h Q := w_ifc_le dX6_forgetPatch_4 rfl
theorem X6_forgetPatch_7 : iWp d mX6_forgetPatch 7 [.ref p] st h Q = iWp d mX6_forgetPatch 8 [.ref p] (.ref p :: st) h Q := w_aload_n dX6_forgetPatch_7 rfl
theorem X6_forgetPatch_8 : iWp d mX6_forgetPatch 8 [a0] (.ref p :: st) h Q = iOb (iGet h p 6 3) (fun v => iWp d mX6_forgetPatch 11 [a0] (v :: st) h Q) := w_getf dX6_forgetPatch_8 fF_6_27
theorem X6_forgetPatch_11 : iWp d mX6_forgetPatch 11 [a0] st h Q = iWp d mX6_forgetPatch 13 [a0] (.int 16 :: st) h Q := w_bipush dX6_forgetPatch_11 rfl
theorem X6_forgetPatch_13 : iWp d mX6_forgetPatch 13 [a0] (.int y :: .int x :: st) h Q = if y < x then iWp d mX6_forgetPatch 36 [a0] st h Q else iWp d mX6_forgetPatch 16 [a0] st h Q := w_icmp_gt dX6_forgetPatch_13 rfl
theorem X6_forgetPatch_16 : iWp d mX6_forgetPatch 16 [.ref p] st h Q = iWp d mX6_forgetPatch 17 [.ref p] (.ref p :: st) h Q := w_aload_n dX6_forgetPatch_16 rfl
theorem X6_forgetPatch_17 : iWp d mX6_forgetPatch 17 [a0] (.ref p :: st) h Q = iWp d mX6_forgetPatch 18 [a0] (.ref p :: .ref p :: st) h Q := w_dup dX6_forgetPatch_17 rfl
theorem X6_forgetPatch_18 : iWp d mX6_forgetPatch 18 [a0] (.ref p :: st) h Q = iOb (iGet h p 6 3) (fun v => iWp d mX6_forgetPatch 21 [a0] (v :: st) h Q) := w_getf dX6_forgetPatch_18 fF_6_27
theorem X6_forgetPatch_21 : iWp d mX6_forgetPatch 21 [a0] st h Q = iWp d mX6_forgetPatch 22 [a0] (.int 1 :: st) h Q := w_iconst dX6_forgetPatch_21 rfl
theorem X6_forgetPatch_22 : iWp d mX6_forgetPatch 22 [a0] (.int y :: .int x :: st) h Q = iWp d mX6_forgetPatch 23 [a0] (.int (x - y) :: st) h Q := w_isub dX6_forgetPatch_22
theorem X6_forgetPatch_23 : iWp d mX6_forgetPatch 23 [a0] (.int x :: .ref p :: st) h Q = iOb (iPut h p 6 3 (.int x)) (fun g => iWp d mX6_forgetPatch 26 [a0] st g Q) := w_putf dX6_forgetPatch_23 fF_6_27 ⟨rfl, (Or.inl rfl)⟩
theorem X6_forgetPatch_26 : iWp d mX6_forgetPatch 26 [.ref p] st h Q = iWp d mX6_forgetPatch 27 [.ref p] (.ref p :: st) h Q := w_aload_n dX6_forgetPatch_26 rfl
theorem X6_forgetPatch_27 : iWp d mX6_forgetPatch 27 [a0] (.ref p :: st) h Q = iOb (iGet h p 6 1) (fun v => iWp d mX6_forgetPatch 30 [a0] (v :: st) h Q) := w_getf dX6_forgetPatch_27 fF_6_19
theorem X6_forgetPatch_30 : iWp d mX6_forgetPatch 30 [.ref p] st h Q = iWp d mX6_forgetPatch 31 [.ref p] (.ref p :: st) h Q := w_aload_n dX6_forgetPatch_30 rfl
theorem X6_forgetPatch_31 : iWp d mX6_forgetPatch 31 [a0] (.ref p :: st) h Q = iOb (iGet h p 6 3) (fun v => iWp d mX6_forgetPatch 34 [a0] (v :: st) h Q) := w_getf dX6_forgetPatch_31 fF_6_27
theorem X6_forgetPatch_34 : iWp d mX6_forgetPatch 34 [a0] st h Q = iWp d mX6_forgetPatch 35 [a0] (.null :: st) h Q := w_null dX6_forgetPatch_34
theorem X6_forgetPatch_35 : iWp d mX6_forgetPatch 35 [a0] (.ref q :: .int x :: .ref p :: st) h Q = iOb (iStQ h p x (some q)) (fun g => iWp d mX6_forgetPatch 36 [a0] st g Q) := w_aastore dX6_forgetPatch_35
theorem X6_forgetPatch_35n : iWp d mX6_forgetPatch 35 [a0] (.null :: .int x :: .ref p :: st) h Q = iOb (iStQ h p x none) (fun g => iWp d mX6_forgetPatch 36 [a0] st g Q) := w_aastoreN dX6_forgetPatch_35
theorem X6_forgetPatch_36 : iWp d mX6_forgetPatch 36 [a0] [] h Q = Q none h := w_ret dX6_forgetPatch_36 rfl
theorem I6_forgetPatch {Q : Option Value → iHp → Prop} (hw : iWp 1 mX6_forgetPatch 0 [.ref p] [] h Q) : ∃ r h1, iEv mX6_forgetPatch [.ref p] h r h1 ∧ Q r h1 := iEv_of (by rfl) rfl hw
theorem J6_forgetPatch {r : Option Value} {h1 : iHp} (hw : iWp 1 mX6_forgetPatch 0 [.ref p] [] h (fun r' h' => r' = r ∧ h' = h1)) : iEv mX6_forgetPatch [.ref p] h r h1 := iEv_ev (by rfl) rfl hw
theorem X6_init_0 : iWp d mX6_init 0 [.ref p] st h Q = iWp d mX6_init 1 [.ref p] (.ref p :: st) h Q := w_aload_n dX6_init_0 rfl
theorem X6_init_1 (hs : iSum st ≤ 8) : iWp d mX6_init 1 [a0] (.ref p :: st) h Q = iWp d mX6_init 4 [a0] st h Q := iWp_k dX6_init_1 rfl (fun _ _ => iObS hs fK_6_3 rfl rfl)
theorem X6_init_4 : iWp d mX6_init 4 [.ref p] st h Q = iWp d mX6_init 5 [.ref p] (.ref p :: st) h Q := w_aload_n dX6_init_4 rfl
theorem X6_init_5 : iWp d mX6_init 5 [a0] st h Q = iWp d mX6_init 7 [a0] (.int 16 :: st) h Q := w_bipush dX6_init_5 rfl
theorem X6_init_7 : iWp d mX6_init 7 [a0] (.int x :: st) h Q = iOb (iNewQ h 7 x) (fun g => iWp d mX6_init 10 [a0] (.ref h.2.1 :: st) g Q) := w_newq dX6_init_7 fC_6_9
theorem X6_init_10 : iWp d mX6_init 10 [a0] (.ref q :: .ref p :: st) h Q = iOb (iPut h p 6 0 (.ref q)) (fun g => iWp d mX6_init 13 [a0] st g Q) := w_putf dX6_init_10 fF_6_11 ⟨rfl, (Or.inr ⟨rfl, rfl⟩)⟩
theorem X6_init_10n : iWp d mX6_init 10 [a0] (.null :: .ref p :: st) h Q = iOb (iPut h p 6 0 (.null)) (fun g => iWp d mX6_init 13 [a0] st g Q) := w_putf dX6_init_10 fF_6_11 ⟨rfl, (Or.inr ⟨rfl, rfl⟩)⟩
theorem X6_init_13 : iWp d mX6_init 13 [.ref p] st h Q = iWp d mX6_init 14 [.ref p] (.ref p :: st) h Q := w_aload_n dX6_init_13 rfl
theorem X6_init_14 : iWp d mX6_init 14 [a0] st h Q = iWp d mX6_init 16 [a0] (.int 16 :: st) h Q := w_bipush dX6_init_14 rfl
theorem X6_init_16 : iWp d mX6_init 16 [a0] (.int x :: st) h Q = iOb (iNewQ h 3 x) (fun g => iWp d mX6_init 19 [a0] (.ref h.2.1 :: st) g Q) := w_newq dX6_init_16 fC_6_17
theorem X6_init_19 : iWp d mX6_init 19 [a0] (.ref q :: .ref p :: st) h Q = iOb (iPut h p 6 1 (.ref q)) (fun g => iWp d mX6_init 22 [a0] st g Q) := w_putf dX6_init_19 fF_6_19 ⟨rfl, (Or.inr ⟨rfl, rfl⟩)⟩
theorem X6_init_19n : iWp d mX6_init 19 [a0] (.null :: .ref p :: st) h Q = iOb (iPut h p 6 1 (.null)) (fun g => iWp d mX6_init 22 [a0] st g Q) := w_putf dX6_init_19 fF_6_19 ⟨rfl, (Or.inr ⟨rfl, rfl⟩)⟩
theorem X6_init_22 : iWp d mX6_init 22 [.ref p] st h Q = iWp d mX6_init 23 [.ref p] (.ref p :: st) h Q := w_aload_n dX6_init_22 rfl
theorem X6_init_23 : iWp d mX6_init 23 [a0] st h Q = iWp d mX6_init 24 [a0] (.int 0 :: st) h Q := w_iconst dX6_init_23 rfl
theorem X6_init_24 : iWp d mX6_init 24 [a0] (.int x :: .ref p :: st) h Q = iOb (iPut h p 6 2 (.int x)) (fun g => iWp d mX6_init 27 [a0] st g Q) := w_putf dX6_init_24 fF_6_23 ⟨rfl, (Or.inl rfl)⟩
theorem X6_init_27 : iWp d mX6_init 27 [.ref p] st h Q = iWp d mX6_init 28 [.ref p] (.ref p :: st) h Q := w_aload_n dX6_init_27 rfl
theorem X6_init_28 : iWp d mX6_init 28 [a0] st h Q = iWp d mX6_init 29 [a0] (.int 0 :: st) h Q := w_iconst dX6_init_28 rfl
theorem X6_init_29 : iWp d mX6_init 29 [a0] (.int x :: .ref p :: st) h Q = iOb (iPut h p 6 3 (.int x)) (fun g => iWp d mX6_init 32 [a0] st g Q) := w_putf dX6_init_29 fF_6_27 ⟨rfl, (Or.inl rfl)⟩
theorem X6_init_32 : iWp d mX6_init 32 [.ref p] st h Q = iWp d mX6_init 33 [.ref p] (.ref p :: st) h Q := w_aload_n dX6_init_32 rfl
theorem X6_init_33 : iWp d mX6_init 33 [a0] st h Q = iWp d mX6_init 34 [a0] (.int 1 :: st) h Q := w_iconst dX6_init_33 rfl
theorem X6_init_34 : iWp d mX6_init 34 [a0] (.int x :: .ref p :: st) h Q = iOb (iPut h p 6 4 (.int x)) (fun g => iWp d mX6_init 37 [a0] st g Q) := w_putf dX6_init_34 fF_6_30 ⟨rfl, (Or.inl rfl)⟩
theorem X6_init_37 : iWp d mX6_init 37 [a0] [] h Q = Q none h := w_ret dX6_init_37 rfl
theorem I6_init {Q : Option Value → iHp → Prop} (hw : iWp 1 mX6_init 0 [.ref p] [] h Q) : ∃ r h1, iEv mX6_init [.ref p] h r h1 ∧ Q r h1 := iEv_of (by rfl) rfl hw
theorem J6_init {r : Option Value} {h1 : iHp} (hw : iWp 1 mX6_init 0 [.ref p] [] h (fun r' h' => r' = r ∧ h' = h1)) : iEv mX6_init [.ref p] h r h1 := iEv_ev (by rfl) rfl hw
theorem X6_init__0 : iWp d mX6_init_ 0 [.ref p, a1, a2] st h Q = iWp d mX6_init_ 1 [.ref p, a1, a2] (.ref p :: st) h Q := w_aload_n dX6_init__0 rfl
theorem X6_init__1 (hs : iSum st ≤ 8) : iWp d mX6_init_ 1 [a0, a1, a2] (.ref p :: st) h Q = iWp d mX6_init_ 4 [a0, a1, a2] st h Q := iWp_k dX6_init__1 rfl (fun _ _ => iObS hs fK_6_3 rfl rfl)
theorem X6_init__4 : iWp d mX6_init_ 4 [.ref p, a1, a2] st h Q = iWp d mX6_init_ 5 [.ref p, a1, a2] (.ref p :: st) h Q := w_aload_n dX6_init__4 rfl
theorem X6_init__5 : iWp d mX6_init_ 5 [a0, a1, a2] st h Q = iWp d mX6_init_ 7 [a0, a1, a2] (.int 16 :: st) h Q := w_bipush dX6_init__5 rfl
theorem X6_init__7 : iWp d mX6_init_ 7 [a0, a1, a2] (.int x :: st) h Q = iOb (iNewQ h 7 x) (fun g => iWp d mX6_init_ 10 [a0, a1, a2] (.ref h.2.1 :: st) g Q) := w_newq dX6_init__7 fC_6_9
theorem X6_init__10 : iWp d mX6_init_ 10 [a0, a1, a2] (.ref q :: .ref p :: st) h Q = iOb (iPut h p 6 0 (.ref q)) (fun g => iWp d mX6_init_ 13 [a0, a1, a2] st g Q) := w_putf dX6_init__10 fF_6_11 ⟨rfl, (Or.inr ⟨rfl, rfl⟩)⟩
theorem X6_init__10n : iWp d mX6_init_ 10 [a0, a1, a2] (.null :: .ref p :: st) h Q = iOb (iPut h p 6 0 (.null)) (fun g => iWp d mX6_init_ 13 [a0, a1, a2] st g Q) := w_putf dX6_init__10 fF_6_11 ⟨rfl, (Or.inr ⟨rfl, rfl⟩)⟩
theorem X6_init__13 : iWp d mX6_init_ 13 [.ref p, a1, a2] st h Q = iWp d mX6_init_ 14 [.ref p, a1, a2] (.ref p :: st) h Q := w_aload_n dX6_init__13 rfl
theorem X6_init__14 : iWp d mX6_init_ 14 [a0, a1, a2] st h Q = iWp d mX6_init_ 16 [a0, a1, a2] (.int 16 :: st) h Q := w_bipush dX6_init__14 rfl
theorem X6_init__16 : iWp d mX6_init_ 16 [a0, a1, a2] (.int x :: st) h Q = iOb (iNewQ h 3 x) (fun g => iWp d mX6_init_ 19 [a0, a1, a2] (.ref h.2.1 :: st) g Q) := w_newq dX6_init__16 fC_6_17
theorem X6_init__19 : iWp d mX6_init_ 19 [a0, a1, a2] (.ref q :: .ref p :: st) h Q = iOb (iPut h p 6 1 (.ref q)) (fun g => iWp d mX6_init_ 22 [a0, a1, a2] st g Q) := w_putf dX6_init__19 fF_6_19 ⟨rfl, (Or.inr ⟨rfl, rfl⟩)⟩
theorem X6_init__19n : iWp d mX6_init_ 19 [a0, a1, a2] (.null :: .ref p :: st) h Q = iOb (iPut h p 6 1 (.null)) (fun g => iWp d mX6_init_ 22 [a0, a1, a2] st g Q) := w_putf dX6_init__19 fF_6_19 ⟨rfl, (Or.inr ⟨rfl, rfl⟩)⟩
theorem X6_init__22 : iWp d mX6_init_ 22 [.ref p, a1, a2] st h Q = iWp d mX6_init_ 23 [.ref p, a1, a2] (.ref p :: st) h Q := w_aload_n dX6_init__22 rfl
theorem X6_init__23 : iWp d mX6_init_ 23 [a0, a1, a2] st h Q = iWp d mX6_init_ 24 [a0, a1, a2] (.int 0 :: st) h Q := w_iconst dX6_init__23 rfl
theorem X6_init__24 : iWp d mX6_init_ 24 [a0, a1, a2] (.int x :: .ref p :: st) h Q = iOb (iPut h p 6 2 (.int x)) (fun g => iWp d mX6_init_ 27 [a0, a1, a2] st g Q) := w_putf dX6_init__24 fF_6_23 ⟨rfl, (Or.inl rfl)⟩
theorem X6_init__27 : iWp d mX6_init_ 27 [.ref p, a1, a2] st h Q = iWp d mX6_init_ 28 [.ref p, a1, a2] (.ref p :: st) h Q := w_aload_n dX6_init__27 rfl
theorem X6_init__28 : iWp d mX6_init_ 28 [a0, a1, a2] st h Q = iWp d mX6_init_ 29 [a0, a1, a2] (.int 0 :: st) h Q := w_iconst dX6_init__28 rfl
theorem X6_init__29 : iWp d mX6_init_ 29 [a0, a1, a2] (.int x :: .ref p :: st) h Q = iOb (iPut h p 6 3 (.int x)) (fun g => iWp d mX6_init_ 32 [a0, a1, a2] st g Q) := w_putf dX6_init__29 fF_6_27 ⟨rfl, (Or.inl rfl)⟩
theorem X6_init__32 : iWp d mX6_init_ 32 [.ref p, a1, a2] st h Q = iWp d mX6_init_ 33 [.ref p, a1, a2] (.ref p :: st) h Q := w_aload_n dX6_init__32 rfl
theorem X6_init__33 : iWp d mX6_init_ 33 [a0, a1, a2] st h Q = iWp d mX6_init_ 34 [a0, a1, a2] (.int 1 :: st) h Q := w_iconst dX6_init__33 rfl
theorem X6_init__34 : iWp d mX6_init_ 34 [a0, a1, a2] (.int x :: .ref p :: st) h Q = iOb (iPut h p 6 4 (.int x)) (fun g => iWp d mX6_init_ 37 [a0, a1, a2] st g Q) := w_putf dX6_init__34 fF_6_30 ⟨rfl, (Or.inl rfl)⟩
theorem X6_init__37 : iWp d mX6_init_ 37 [a0, a1, a2] st h Q = iWp d mX6_init_ 38 [a0, a1, a2] (.int 0 :: st) h Q := w_iconst dX6_init__37 rfl
theorem X6_init__38 : iWp d mX6_init_ 38 [a0, a1, a2] (.int x :: st) h Q = iWp d mX6_init_ 39 [a0, iClr a1, .int x] st h Q := w_istore_n dX6_init__38 (Nat.le_of_ble_eq_true rfl) rfl
theorem X6_init__39 : iWp d mX6_init_ 39 [a0, a1, .int x] st h Q = iWp d mX6_init_ 40 [a0, a1, .int x] (.int x :: st) h Q := w_iload_n dX6_init__39 rfl
theorem X6_init__40 : iWp d mX6_init_ 40 [a0, a1, a2] st h Q = iWp d mX6_init_ 42 [a0, a1, a2] (.int 16 :: st) h Q := w_bipush dX6_init__40 rfl
theorem X6_init__42 : iWp d mX6_init_ 42 [a0, a1, a2] (.int y :: .int x :: st) h Q = if y ≤ x then iWp d mX6_init_ 63 [a0, a1, a2] st h Q else iWp d mX6_init_ 45 [a0, a1, a2] st h Q := w_icmp_ge dX6_init__42 rfl
theorem X6_init__45 : iWp d mX6_init_ 45 [.ref p, a1, a2] st h Q = iWp d mX6_init_ 46 [.ref p, a1, a2] (.ref p :: st) h Q := w_aload_n dX6_init__45 rfl
theorem X6_init__46 : iWp d mX6_init_ 46 [a0, a1, a2] (.ref p :: st) h Q = iOb (iGet h p 6 0) (fun v => iWp d mX6_init_ 49 [a0, a1, a2] (v :: st) h Q) := w_getf dX6_init__46 fF_6_11
theorem X6_init__49 : iWp d mX6_init_ 49 [a0, a1, .int x] st h Q = iWp d mX6_init_ 50 [a0, a1, .int x] (.int x :: st) h Q := w_iload_n dX6_init__49 rfl
theorem X6_init__50 : iWp d mX6_init_ 50 [a0, .ref p, a2] st h Q = iWp d mX6_init_ 51 [a0, .ref p, a2] (.ref p :: st) h Q := w_aload_n dX6_init__50 rfl
theorem X6_init__50n : iWp d mX6_init_ 50 [a0, .null, a2] st h Q = iWp d mX6_init_ 51 [a0, .null, a2] (.null :: st) h Q := w_aload_nN dX6_init__50 rfl
theorem X6_init__51 : iWp d mX6_init_ 51 [a0, a1, a2] (.ref p :: st) h Q = iOb (iGet h p 6 0) (fun v => iWp d mX6_init_ 54 [a0, a1, a2] (v :: st) h Q) := w_getf dX6_init__51 fF_6_11
theorem X6_init__54 : iWp d mX6_init_ 54 [a0, a1, .int x] st h Q = iWp d mX6_init_ 55 [a0, a1, .int x] (.int x :: st) h Q := w_iload_n dX6_init__54 rfl
theorem X6_init__55 : iWp d mX6_init_ 55 [a0, a1, a2] (.int x :: .ref p :: st) h Q = iOb (iLdQ h p x) (fun v => iWp d mX6_init_ 56 [a0, a1, a2] (va_rf v :: st) h Q) := w_aaload dX6_init__55
theorem X6_init__56 : iWp d mX6_init_ 56 [a0, a1, a2] (.ref q :: .int x :: .ref p :: st) h Q = iOb (iStQ h p x (some q)) (fun g => iWp d mX6_init_ 57 [a0, a1, a2] st g Q) := w_aastore dX6_init__56
theorem X6_init__56n : iWp d mX6_init_ 56 [a0, a1, a2] (.null :: .int x :: .ref p :: st) h Q = iOb (iStQ h p x none) (fun g => iWp d mX6_init_ 57 [a0, a1, a2] st g Q) := w_aastoreN dX6_init__56
theorem X6_init__57 : iWp d mX6_init_ 57 [a0, a1, .int x] st h Q = iWp d mX6_init_ 60 [a0, iClr a1, .int (x + 1)] st h Q := w_iinc dX6_init__57 rfl (Nat.le_of_ble_eq_true rfl) rfl
theorem X6_init__60 : iWp d mX6_init_ 60 [a0, a1, a2] st h Q = iWp d mX6_init_ 39 [a0, a1, a2] st h Q := w_goto dX6_init__60 rfl
theorem X6_init__63 : iWp d mX6_init_ 63 [a0, a1, a2] st h Q = iWp d mX6_init_ 64 [a0, a1, a2] (.int 0 :: st) h Q := w_iconst dX6_init__63 rfl
theorem X6_init__64 : iWp d mX6_init_ 64 [a0, a1, a2] (.int x :: st) h Q = iWp d mX6_init_ 65 [a0, iClr a1, .int x] st h Q := w_istore_n dX6_init__64 (Nat.le_of_ble_eq_true rfl) rfl
theorem X6_init__65 : iWp d mX6_init_ 65 [a0, a1, .int x] st h Q = iWp d mX6_init_ 66 [a0, a1, .int x] (.int x :: st) h Q := w_iload_n dX6_init__65 rfl
theorem X6_init__66 : iWp d mX6_init_ 66 [a0, a1, a2] st h Q = iWp d mX6_init_ 68 [a0, a1, a2] (.int 16 :: st) h Q := w_bipush dX6_init__66 rfl
theorem X6_init__68 : iWp d mX6_init_ 68 [a0, a1, a2] (.int y :: .int x :: st) h Q = if y ≤ x then iWp d mX6_init_ 89 [a0, a1, a2] st h Q else iWp d mX6_init_ 71 [a0, a1, a2] st h Q := w_icmp_ge dX6_init__68 rfl
theorem X6_init__71 : iWp d mX6_init_ 71 [.ref p, a1, a2] st h Q = iWp d mX6_init_ 72 [.ref p, a1, a2] (.ref p :: st) h Q := w_aload_n dX6_init__71 rfl
theorem X6_init__72 : iWp d mX6_init_ 72 [a0, a1, a2] (.ref p :: st) h Q = iOb (iGet h p 6 1) (fun v => iWp d mX6_init_ 75 [a0, a1, a2] (v :: st) h Q) := w_getf dX6_init__72 fF_6_19
theorem X6_init__75 : iWp d mX6_init_ 75 [a0, a1, .int x] st h Q = iWp d mX6_init_ 76 [a0, a1, .int x] (.int x :: st) h Q := w_iload_n dX6_init__75 rfl
theorem X6_init__76 : iWp d mX6_init_ 76 [a0, .ref p, a2] st h Q = iWp d mX6_init_ 77 [a0, .ref p, a2] (.ref p :: st) h Q := w_aload_n dX6_init__76 rfl
theorem X6_init__76n : iWp d mX6_init_ 76 [a0, .null, a2] st h Q = iWp d mX6_init_ 77 [a0, .null, a2] (.null :: st) h Q := w_aload_nN dX6_init__76 rfl
theorem X6_init__77 : iWp d mX6_init_ 77 [a0, a1, a2] (.ref p :: st) h Q = iOb (iGet h p 6 1) (fun v => iWp d mX6_init_ 80 [a0, a1, a2] (v :: st) h Q) := w_getf dX6_init__77 fF_6_19
theorem X6_init__80 : iWp d mX6_init_ 80 [a0, a1, .int x] st h Q = iWp d mX6_init_ 81 [a0, a1, .int x] (.int x :: st) h Q := w_iload_n dX6_init__80 rfl
theorem X6_init__81 : iWp d mX6_init_ 81 [a0, a1, a2] (.int x :: .ref p :: st) h Q = iOb (iLdQ h p x) (fun v => iWp d mX6_init_ 82 [a0, a1, a2] (va_rf v :: st) h Q) := w_aaload dX6_init__81
theorem X6_init__82 : iWp d mX6_init_ 82 [a0, a1, a2] (.ref q :: .int x :: .ref p :: st) h Q = iOb (iStQ h p x (some q)) (fun g => iWp d mX6_init_ 83 [a0, a1, a2] st g Q) := w_aastore dX6_init__82
theorem X6_init__82n : iWp d mX6_init_ 82 [a0, a1, a2] (.null :: .int x :: .ref p :: st) h Q = iOb (iStQ h p x none) (fun g => iWp d mX6_init_ 83 [a0, a1, a2] st g Q) := w_aastoreN dX6_init__82
theorem X6_init__83 : iWp d mX6_init_ 83 [a0, a1, .int x] st h Q = iWp d mX6_init_ 86 [a0, iClr a1, .int (x + 1)] st h Q := w_iinc dX6_init__83 rfl (Nat.le_of_ble_eq_true rfl) rfl
theorem X6_init__86 : iWp d mX6_init_ 86 [a0, a1, a2] st h Q = iWp d mX6_init_ 65 [a0, a1, a2] st h Q := w_goto dX6_init__86 rfl
theorem X6_init__89 : iWp d mX6_init_ 89 [.ref p, a1, a2] st h Q = iWp d mX6_init_ 90 [.ref p, a1, a2] (.ref p :: st) h Q := w_aload_n dX6_init__89 rfl
theorem X6_init__90 : iWp d mX6_init_ 90 [a0, .ref p, a2] st h Q = iWp d mX6_init_ 91 [a0, .ref p, a2] (.ref p :: st) h Q := w_aload_n dX6_init__90 rfl
theorem X6_init__90n : iWp d mX6_init_ 90 [a0, .null, a2] st h Q = iWp d mX6_init_ 91 [a0, .null, a2] (.null :: st) h Q := w_aload_nN dX6_init__90 rfl
theorem X6_init__91 : iWp d mX6_init_ 91 [a0, a1, a2] (.ref p :: st) h Q = iOb (iGet h p 6 2) (fun v => iWp d mX6_init_ 94 [a0, a1, a2] (v :: st) h Q) := w_getf dX6_init__91 fF_6_23
theorem X6_init__94 : iWp d mX6_init_ 94 [a0, a1, a2] (.int x :: .ref p :: st) h Q = iOb (iPut h p 6 2 (.int x)) (fun g => iWp d mX6_init_ 97 [a0, a1, a2] st g Q) := w_putf dX6_init__94 fF_6_23 ⟨rfl, (Or.inl rfl)⟩
theorem X6_init__97 : iWp d mX6_init_ 97 [.ref p, a1, a2] st h Q = iWp d mX6_init_ 98 [.ref p, a1, a2] (.ref p :: st) h Q := w_aload_n dX6_init__97 rfl
theorem X6_init__98 : iWp d mX6_init_ 98 [a0, .ref p, a2] st h Q = iWp d mX6_init_ 99 [a0, .ref p, a2] (.ref p :: st) h Q := w_aload_n dX6_init__98 rfl
theorem X6_init__98n : iWp d mX6_init_ 98 [a0, .null, a2] st h Q = iWp d mX6_init_ 99 [a0, .null, a2] (.null :: st) h Q := w_aload_nN dX6_init__98 rfl
theorem X6_init__99 : iWp d mX6_init_ 99 [a0, a1, a2] (.ref p :: st) h Q = iOb (iGet h p 6 3) (fun v => iWp d mX6_init_ 102 [a0, a1, a2] (v :: st) h Q) := w_getf dX6_init__99 fF_6_27
theorem X6_init__102 : iWp d mX6_init_ 102 [a0, a1, a2] (.int x :: .ref p :: st) h Q = iOb (iPut h p 6 3 (.int x)) (fun g => iWp d mX6_init_ 105 [a0, a1, a2] st g Q) := w_putf dX6_init__102 fF_6_27 ⟨rfl, (Or.inl rfl)⟩
theorem X6_init__105 : iWp d mX6_init_ 105 [.ref p, a1, a2] st h Q = iWp d mX6_init_ 106 [.ref p, a1, a2] (.ref p :: st) h Q := w_aload_n dX6_init__105 rfl
theorem X6_init__106 : iWp d mX6_init_ 106 [a0, .ref p, a2] st h Q = iWp d mX6_init_ 107 [a0, .ref p, a2] (.ref p :: st) h Q := w_aload_n dX6_init__106 rfl
theorem X6_init__106n : iWp d mX6_init_ 106 [a0, .null, a2] st h Q = iWp d mX6_init_ 107 [a0, .null, a2] (.null :: st) h Q := w_aload_nN dX6_init__106 rfl
theorem X6_init__107 : iWp d mX6_init_ 107 [a0, a1, a2] (.ref p :: st) h Q = iOb (iGet h p 6 4) (fun v => iWp d mX6_init_ 110 [a0, a1, a2] (v :: st) h Q) := w_getf dX6_init__107 fF_6_30
theorem X6_init__110 : iWp d mX6_init_ 110 [a0, a1, a2] (.int x :: .ref p :: st) h Q = iOb (iPut h p 6 4 (.int x)) (fun g => iWp d mX6_init_ 113 [a0, a1, a2] st g Q) := w_putf dX6_init__110 fF_6_30 ⟨rfl, (Or.inl rfl)⟩
theorem X6_init__113 : iWp d mX6_init_ 113 [a0, a1, a2] [] h Q = Q none h := w_ret dX6_init__113 rfl
theorem I6_init_ {Q : Option Value → iHp → Prop} (c0 : b0.category = 1) (hw : iWp 1 mX6_init_ 0 [.ref p, b0, iU] [] h Q) : ∃ r h1, iEv mX6_init_ [.ref p, b0] h r h1 ∧ Q r h1 := iEv_of (by rfl) (by simp [iInit, cat_i, cat_r, cat_l, mX6_init_, c0]) hw
theorem J6_init_ {r : Option Value} {h1 : iHp} (c0 : b0.category = 1) (hw : iWp 1 mX6_init_ 0 [.ref p, b0, iU] [] h (fun r' h' => r' = r ∧ h' = h1)) : iEv mX6_init_ [.ref p, b0] h r h1 := iEv_ev (by rfl) (by simp [iInit, cat_i, cat_r, cat_l, mX6_init_, c0]) hw
theorem X6_nodeCount_0 : iWp d mX6_nodeCount 0 [a0, a1, a2, a3] st h Q = iWp d mX6_nodeCount 1 [a0, a1, a2, a3] (.int 0 :: st) h Q := w_iconst dX6_nodeCount_0 rfl
theorem X6_nodeCount_1 : iWp d mX6_nodeCount 1 [a0, a1, a2, a3] (.int x :: st) h Q = iWp d mX6_nodeCount 2 [iClr a0, .int x, a2, a3] st h Q := w_istore_n dX6_nodeCount_1 (Nat.le_of_ble_eq_true rfl) rfl
theorem X6_nodeCount_2 : iWp d mX6_nodeCount 2 [a0, a1, a2, a3] st h Q = iWp d mX6_nodeCount 3 [a0, a1, a2, a3] (.int 0 :: st) h Q := w_iconst dX6_nodeCount_2 rfl
theorem X6_nodeCount_3 : iWp d mX6_nodeCount 3 [a0, a1, a2, a3] (.int x :: st) h Q = iWp d mX6_nodeCount 4 [a0, iClr a1, .int x, a3] st h Q := w_istore_n dX6_nodeCount_3 (Nat.le_of_ble_eq_true rfl) rfl
theorem X6_nodeCount_4 : iWp d mX6_nodeCount 4 [a0, a1, .int x, a3] st h Q = iWp d mX6_nodeCount 5 [a0, a1, .int x, a3] (.int x :: st) h Q := w_iload_n dX6_nodeCount_4 rfl
theorem X6_nodeCount_5 : iWp d mX6_nodeCount 5 [.ref p, a1, a2, a3] st h Q = iWp d mX6_nodeCount 6 [.ref p, a1, a2, a3] (.ref p :: st) h Q := w_aload_n dX6_nodeCount_5 rfl
theorem X6_nodeCount_6 : iWp d mX6_nodeCount 6 [a0, a1, a2, a3] (.ref p :: st) h Q = iOb (iGet h p 6 2) (fun v => iWp d mX6_nodeCount 9 [a0, a1, a2, a3] (v :: st) h Q) := w_getf dX6_nodeCount_6 fF_6_23
theorem X6_nodeCount_9 : iWp d mX6_nodeCount 9 [a0, a1, a2, a3] (.int y :: .int x :: st) h Q = if y ≤ x then iWp d mX6_nodeCount 39 [a0, a1, a2, a3] st h Q else iWp d mX6_nodeCount 12 [a0, a1, a2, a3] st h Q := w_icmp_ge dX6_nodeCount_9 rfl
theorem X6_nodeCount_12 : iWp d mX6_nodeCount 12 [.ref p, a1, a2, a3] st h Q = iWp d mX6_nodeCount 13 [.ref p, a1, a2, a3] (.ref p :: st) h Q := w_aload_n dX6_nodeCount_12 rfl
theorem X6_nodeCount_13 : iWp d mX6_nodeCount 13 [a0, a1, .int x, a3] st h Q = iWp d mX6_nodeCount 14 [a0, a1, .int x, a3] (.int x :: st) h Q := w_iload_n dX6_nodeCount_13 rfl
theorem X6_nodeCount_14 (he : iEv mX6_treeAt [.ref p, .int x0] h (some rw) h2) (ho : iObj h p 6 = true) : iWp 2 mX6_nodeCount 14 [a0, a1, a2, a3] [.int x0, .ref p] h Q = iWp 2 mX6_nodeCount 17 [a0, a1, a2, a3] [rw] h2 Q := iWp_cV dX6_nodeCount_14 fK_6_33 rfl rfl ho (Nat.le_of_ble_eq_true rfl) (Nat.le_of_ble_eq_true rfl) rfl (Nat.le_of_ble_eq_true rfl) he rfl
theorem X6_nodeCount_17 : iWp d mX6_nodeCount 17 [a0, a1, a2, a3] (.ref p :: st) h Q = iWp d mX6_nodeCount 18 [a0, a1, iClr a2, .ref p] st h Q := w_astore_n dX6_nodeCount_17 (Nat.le_of_ble_eq_true rfl) rfl
theorem X6_nodeCount_17n : iWp d mX6_nodeCount 17 [a0, a1, a2, a3] (.null :: st) h Q = iWp d mX6_nodeCount 18 [a0, a1, iClr a2, .null] st h Q := w_astore_nN dX6_nodeCount_17 (Nat.le_of_ble_eq_true rfl) rfl
theorem X6_nodeCount_18 : iWp d mX6_nodeCount 18 [a0, .int x, a2, a3] st h Q = iWp d mX6_nodeCount 19 [a0, .int x, a2, a3] (.int x :: st) h Q := w_iload_n dX6_nodeCount_18 rfl
theorem X6_nodeCount_19 : iWp d mX6_nodeCount 19 [a0, a1, a2, .ref p] st h Q = iWp d mX6_nodeCount 20 [a0, a1, a2, .ref p] (.ref p :: st) h Q := w_aload_n dX6_nodeCount_19 rfl
theorem X6_nodeCount_19n : iWp d mX6_nodeCount 19 [a0, a1, a2, .null] st h Q = iWp d mX6_nodeCount 20 [a0, a1, a2, .null] (.null :: st) h Q := w_aload_nN dX6_nodeCount_19 rfl
theorem X6_nodeCount_20 : iWp d mX6_nodeCount 20 [a0, a1, a2, a3] (.ref p :: st) h Q = iWp d mX6_nodeCount 27 [a0, a1, a2, a3] st h Q := w_ifnonnull dX6_nodeCount_20 rfl
theorem X6_nodeCount_20n : iWp d mX6_nodeCount 20 [a0, a1, a2, a3] (.null :: st) h Q = iWp d mX6_nodeCount 23 [a0, a1, a2, a3] st h Q := w_ifnonnullN dX6_nodeCount_20
theorem X6_nodeCount_23 : iWp d mX6_nodeCount 23 [a0, a1, a2, a3] st h Q = iWp d mX6_nodeCount 24 [a0, a1, a2, a3] (.int 0 :: st) h Q := w_iconst dX6_nodeCount_23 rfl
theorem X6_nodeCount_24 : iWp d mX6_nodeCount 24 [a0, a1, a2, a3] st h Q = iWp d mX6_nodeCount 31 [a0, a1, a2, a3] st h Q := w_goto dX6_nodeCount_24 rfl
theorem X6_nodeCount_27 : iWp d mX6_nodeCount 27 [a0, a1, a2, .ref p] st h Q = iWp d mX6_nodeCount 28 [a0, a1, a2, .ref p] (.ref p :: st) h Q := w_aload_n dX6_nodeCount_27 rfl
theorem X6_nodeCount_27n : iWp d mX6_nodeCount 27 [a0, a1, a2, .null] st h Q = iWp d mX6_nodeCount 28 [a0, a1, a2, .null] (.null :: st) h Q := w_aload_nN dX6_nodeCount_27 rfl
theorem X6_nodeCount_28 : iWp d mX6_nodeCount 28 [a0, a1, a2, a3] (.ref p :: st) h Q = iOb (iGet h p 7 3) (fun v => iWp d mX6_nodeCount 31 [a0, a1, a2, a3] (v :: st) h Q) := w_getf dX6_nodeCount_28 fF_6_37
theorem X6_nodeCount_31 : iWp d mX6_nodeCount 31 [a0, a1, a2, a3] (.int y :: .int x :: st) h Q = iWp d mX6_nodeCount 32 [a0, a1, a2, a3] (.int (x + y) :: st) h Q := w_iadd dX6_nodeCount_31
theorem X6_nodeCount_32 : iWp d mX6_nodeCount 32 [a0, a1, a2, a3] (.int x :: st) h Q = iWp d mX6_nodeCount 33 [iClr a0, .int x, a2, a3] st h Q := w_istore_n dX6_nodeCount_32 (Nat.le_of_ble_eq_true rfl) rfl
theorem X6_nodeCount_33 : iWp d mX6_nodeCount 33 [a0, a1, .int x, a3] st h Q = iWp d mX6_nodeCount 36 [a0, iClr a1, .int (x + 1), a3] st h Q := w_iinc dX6_nodeCount_33 rfl (Nat.le_of_ble_eq_true rfl) rfl
theorem X6_nodeCount_36 : iWp d mX6_nodeCount 36 [a0, a1, a2, a3] st h Q = iWp d mX6_nodeCount 4 [a0, a1, a2, a3] st h Q := w_goto dX6_nodeCount_36 rfl
theorem X6_nodeCount_39 : iWp d mX6_nodeCount 39 [a0, .int x, a2, a3] st h Q = iWp d mX6_nodeCount 40 [a0, .int x, a2, a3] (.int x :: st) h Q := w_iload_n dX6_nodeCount_39 rfl
theorem X6_nodeCount_40 : iWp d mX6_nodeCount 40 [a0, a1, a2, a3] [.int x] h Q = Q (some (.int x)) h := w_ireti dX6_nodeCount_40 rfl
theorem I6_nodeCount {Q : Option Value → iHp → Prop} (hw : iWp 2 mX6_nodeCount 0 [.ref p, iU, iU, iU] [] h Q) : ∃ r h1, iEv mX6_nodeCount [.ref p] h r h1 ∧ Q r h1 := iEv_of (by rfl) rfl hw
theorem J6_nodeCount {r : Option Value} {h1 : iHp} (hw : iWp 2 mX6_nodeCount 0 [.ref p, iU, iU, iU] [] h (fun r' h' => r' = r ∧ h' = h1)) : iEv mX6_nodeCount [.ref p] h r h1 := iEv_ev (by rfl) rfl hw
theorem X6_patchAt_0 : iWp d mX6_patchAt 0 [a0, .int x] st h Q = iWp d mX6_patchAt 1 [a0, .int x] (.int x :: st) h Q := w_iload_n dX6_patchAt_0 rfl
theorem X6_patchAt_1 : iWp d mX6_patchAt 1 [a0, a1] (.int x :: st) h Q = if x < 0 then iWp d mX6_patchAt 27 [a0, a1] st h Q else iWp d mX6_patchAt 4 [a0, a1] st h Q := w_ifc_lt dX6_patchAt_1 rfl
theorem X6_patchAt_4 : iWp d mX6_patchAt 4 [a0, .int x] st h Q = iWp d mX6_patchAt 5 [a0, .int x] (.int x :: st) h Q := w_iload_n dX6_patchAt_4 rfl
theorem X6_patchAt_5 : iWp d mX6_patchAt 5 [.ref p, a1] st h Q = iWp d mX6_patchAt 6 [.ref p, a1] (.ref p :: st) h Q := w_aload_n dX6_patchAt_5 rfl
theorem X6_patchAt_6 : iWp d mX6_patchAt 6 [a0, a1] (.ref p :: st) h Q = iOb (iGet h p 6 3) (fun v => iWp d mX6_patchAt 9 [a0, a1] (v :: st) h Q) := w_getf dX6_patchAt_6 fF_6_27
theorem X6_patchAt_9 : iWp d mX6_patchAt 9 [a0, a1] (.int y :: .int x :: st) h Q = if y ≤ x then iWp d mX6_patchAt 27 [a0, a1] st h Q else iWp d mX6_patchAt 12 [a0, a1] st h Q := w_icmp_ge dX6_patchAt_9 rfl
theorem X6_patchAt_12 : iWp d mX6_patchAt 12 [a0, .int x] st h Q = iWp d mX6_patchAt 13 [a0, .int x] (.int x :: st) h Q := w_iload_n dX6_patchAt_12 rfl
theorem X6_patchAt_13 : iWp d mX6_patchAt 13 [a0, a1] st h Q = iWp d mX6_patchAt 15 [a0, a1] (.int 16 :: st) h Q := w_bipush dX6_patchAt_13 rfl
theorem X6_patchAt_15 : iWp d mX6_patchAt 15 [a0, a1] (.int y :: .int x :: st) h Q = if y ≤ x then iWp d mX6_patchAt 27 [a0, a1] st h Q else iWp d mX6_patchAt 18 [a0, a1] st h Q := w_icmp_ge dX6_patchAt_15 rfl
theorem X6_patchAt_18 : iWp d mX6_patchAt 18 [.ref p, a1] st h Q = iWp d mX6_patchAt 19 [.ref p, a1] (.ref p :: st) h Q := w_aload_n dX6_patchAt_18 rfl
theorem X6_patchAt_19 : iWp d mX6_patchAt 19 [a0, a1] (.ref p :: st) h Q = iOb (iGet h p 6 1) (fun v => iWp d mX6_patchAt 22 [a0, a1] (v :: st) h Q) := w_getf dX6_patchAt_19 fF_6_19
theorem X6_patchAt_22 : iWp d mX6_patchAt 22 [a0, .int x] st h Q = iWp d mX6_patchAt 23 [a0, .int x] (.int x :: st) h Q := w_iload_n dX6_patchAt_22 rfl
theorem X6_patchAt_23 : iWp d mX6_patchAt 23 [a0, a1] (.int x :: .ref p :: st) h Q = iOb (iLdQ h p x) (fun v => iWp d mX6_patchAt 24 [a0, a1] (va_rf v :: st) h Q) := w_aaload dX6_patchAt_23
theorem X6_patchAt_24 : iWp d mX6_patchAt 24 [a0, a1] st h Q = iWp d mX6_patchAt 28 [a0, a1] st h Q := w_goto dX6_patchAt_24 rfl
theorem X6_patchAt_27 : iWp d mX6_patchAt 27 [a0, a1] st h Q = iWp d mX6_patchAt 28 [a0, a1] (.null :: st) h Q := w_null dX6_patchAt_27
theorem X6_patchAt_28 : iWp d mX6_patchAt 28 [a0, a1] [.ref p] h Q = Q (some (.ref p)) h := w_aret dX6_patchAt_28 rfl
theorem X6_patchAt_28n : iWp d mX6_patchAt 28 [a0, a1] [.null] h Q = Q (some .null) h := w_aretN dX6_patchAt_28 rfl
theorem I6_patchAt {Q : Option Value → iHp → Prop} (hw : iWp 1 mX6_patchAt 0 [.ref p, .int x0] [] h Q) : ∃ r h1, iEv mX6_patchAt [.ref p, .int x0] h r h1 ∧ Q r h1 := iEv_of (by rfl) rfl hw
theorem J6_patchAt {r : Option Value} {h1 : iHp} (hw : iWp 1 mX6_patchAt 0 [.ref p, .int x0] [] h (fun r' h' => r' = r ∧ h' = h1)) : iEv mX6_patchAt [.ref p, .int x0] h r h1 := iEv_ev (by rfl) rfl hw
theorem X6_replaceTree_0 : iWp d mX6_replaceTree 0 [a0, .int x, a2] st h Q = iWp d mX6_replaceTree 1 [a0, .int x, a2] (.int x :: st) h Q := w_iload_n dX6_replaceTree_0 rfl
theorem X6_replaceTree_1 : iWp d mX6_replaceTree 1 [a0, a1, a2] (.int x :: st) h Q = if x < 0 then iWp d mX6_replaceTree 25 [a0, a1, a2] st h Q else iWp d mX6_replaceTree 4 [a0, a1, a2] st h Q := w_ifc_lt dX6_replaceTree_1 rfl
theorem X6_replaceTree_4 : iWp d mX6_replaceTree 4 [a0, .int x, a2] st h Q = iWp d mX6_replaceTree 5 [a0, .int x, a2] (.int x :: st) h Q := w_iload_n dX6_replaceTree_4 rfl
theorem X6_replaceTree_5 : iWp d mX6_replaceTree 5 [.ref p, a1, a2] st h Q = iWp d mX6_replaceTree 6 [.ref p, a1, a2] (.ref p :: st) h Q := w_aload_n dX6_replaceTree_5 rfl
theorem X6_replaceTree_6 : iWp d mX6_replaceTree 6 [a0, a1, a2] (.ref p :: st) h Q = iOb (iGet h p 6 2) (fun v => iWp d mX6_replaceTree 9 [a0, a1, a2] (v :: st) h Q) := w_getf dX6_replaceTree_6 fF_6_23
theorem X6_replaceTree_9 : iWp d mX6_replaceTree 9 [a0, a1, a2] (.int y :: .int x :: st) h Q = if y ≤ x then iWp d mX6_replaceTree 25 [a0, a1, a2] st h Q else iWp d mX6_replaceTree 12 [a0, a1, a2] st h Q := w_icmp_ge dX6_replaceTree_9 rfl
theorem X6_replaceTree_12 : iWp d mX6_replaceTree 12 [a0, .int x, a2] st h Q = iWp d mX6_replaceTree 13 [a0, .int x, a2] (.int x :: st) h Q := w_iload_n dX6_replaceTree_12 rfl
theorem X6_replaceTree_13 : iWp d mX6_replaceTree 13 [a0, a1, a2] st h Q = iWp d mX6_replaceTree 15 [a0, a1, a2] (.int 16 :: st) h Q := w_bipush dX6_replaceTree_13 rfl
theorem X6_replaceTree_15 : iWp d mX6_replaceTree 15 [a0, a1, a2] (.int y :: .int x :: st) h Q = if y ≤ x then iWp d mX6_replaceTree 25 [a0, a1, a2] st h Q else iWp d mX6_replaceTree 18 [a0, a1, a2] st h Q := w_icmp_ge dX6_replaceTree_15 rfl
theorem X6_replaceTree_18 : iWp d mX6_replaceTree 18 [.ref p, a1, a2] st h Q = iWp d mX6_replaceTree 19 [.ref p, a1, a2] (.ref p :: st) h Q := w_aload_n dX6_replaceTree_18 rfl
theorem X6_replaceTree_19 : iWp d mX6_replaceTree 19 [a0, a1, a2] (.ref p :: st) h Q = iOb (iGet h p 6 0) (fun v => iWp d mX6_replaceTree 22 [a0, a1, a2] (v :: st) h Q) := w_getf dX6_replaceTree_19 fF_6_11
theorem X6_replaceTree_22 : iWp d mX6_replaceTree 22 [a0, .int x, a2] st h Q = iWp d mX6_replaceTree 23 [a0, .int x, a2] (.int x :: st) h Q := w_iload_n dX6_replaceTree_22 rfl
theorem X6_replaceTree_23 : iWp d mX6_replaceTree 23 [a0, a1, .ref p] st h Q = iWp d mX6_replaceTree 24 [a0, a1, .ref p] (.ref p :: st) h Q := w_aload_n dX6_replaceTree_23 rfl
theorem X6_replaceTree_23n : iWp d mX6_replaceTree 23 [a0, a1, .null] st h Q = iWp d mX6_replaceTree 24 [a0, a1, .null] (.null :: st) h Q := w_aload_nN dX6_replaceTree_23 rfl
theorem X6_replaceTree_24 : iWp d mX6_replaceTree 24 [a0, a1, a2] (.ref q :: .int x :: .ref p :: st) h Q = iOb (iStQ h p x (some q)) (fun g => iWp d mX6_replaceTree 25 [a0, a1, a2] st g Q) := w_aastore dX6_replaceTree_24
theorem X6_replaceTree_24n : iWp d mX6_replaceTree 24 [a0, a1, a2] (.null :: .int x :: .ref p :: st) h Q = iOb (iStQ h p x none) (fun g => iWp d mX6_replaceTree 25 [a0, a1, a2] st g Q) := w_aastoreN dX6_replaceTree_24
theorem X6_replaceTree_25 : iWp d mX6_replaceTree 25 [a0, a1, a2] [] h Q = Q none h := w_ret dX6_replaceTree_25 rfl
theorem I6_replaceTree {Q : Option Value → iHp → Prop} (c1 : b1.category = 1) (hw : iWp 1 mX6_replaceTree 0 [.ref p, .int x0, b1] [] h Q) : ∃ r h1, iEv mX6_replaceTree [.ref p, .int x0, b1] h r h1 ∧ Q r h1 := iEv_of (by rfl) (by simp [iInit, cat_i, cat_r, cat_l, mX6_replaceTree, c1]) hw
theorem J6_replaceTree {r : Option Value} {h1 : iHp} (c1 : b1.category = 1) (hw : iWp 1 mX6_replaceTree 0 [.ref p, .int x0, b1] [] h (fun r' h' => r' = r ∧ h' = h1)) : iEv mX6_replaceTree [.ref p, .int x0, b1] h r h1 := iEv_ev (by rfl) (by simp [iInit, cat_i, cat_r, cat_l, mX6_replaceTree, c1]) hw
theorem X6_treeAt_0 : iWp d mX6_treeAt 0 [a0, .int x] st h Q = iWp d mX6_treeAt 1 [a0, .int x] (.int x :: st) h Q := w_iload_n dX6_treeAt_0 rfl
theorem X6_treeAt_1 : iWp d mX6_treeAt 1 [a0, a1] (.int x :: st) h Q = if x < 0 then iWp d mX6_treeAt 27 [a0, a1] st h Q else iWp d mX6_treeAt 4 [a0, a1] st h Q := w_ifc_lt dX6_treeAt_1 rfl
theorem X6_treeAt_4 : iWp d mX6_treeAt 4 [a0, .int x] st h Q = iWp d mX6_treeAt 5 [a0, .int x] (.int x :: st) h Q := w_iload_n dX6_treeAt_4 rfl
theorem X6_treeAt_5 : iWp d mX6_treeAt 5 [.ref p, a1] st h Q = iWp d mX6_treeAt 6 [.ref p, a1] (.ref p :: st) h Q := w_aload_n dX6_treeAt_5 rfl
theorem X6_treeAt_6 : iWp d mX6_treeAt 6 [a0, a1] (.ref p :: st) h Q = iOb (iGet h p 6 2) (fun v => iWp d mX6_treeAt 9 [a0, a1] (v :: st) h Q) := w_getf dX6_treeAt_6 fF_6_23
theorem X6_treeAt_9 : iWp d mX6_treeAt 9 [a0, a1] (.int y :: .int x :: st) h Q = if y ≤ x then iWp d mX6_treeAt 27 [a0, a1] st h Q else iWp d mX6_treeAt 12 [a0, a1] st h Q := w_icmp_ge dX6_treeAt_9 rfl
theorem X6_treeAt_12 : iWp d mX6_treeAt 12 [a0, .int x] st h Q = iWp d mX6_treeAt 13 [a0, .int x] (.int x :: st) h Q := w_iload_n dX6_treeAt_12 rfl
theorem X6_treeAt_13 : iWp d mX6_treeAt 13 [a0, a1] st h Q = iWp d mX6_treeAt 15 [a0, a1] (.int 16 :: st) h Q := w_bipush dX6_treeAt_13 rfl
theorem X6_treeAt_15 : iWp d mX6_treeAt 15 [a0, a1] (.int y :: .int x :: st) h Q = if y ≤ x then iWp d mX6_treeAt 27 [a0, a1] st h Q else iWp d mX6_treeAt 18 [a0, a1] st h Q := w_icmp_ge dX6_treeAt_15 rfl
theorem X6_treeAt_18 : iWp d mX6_treeAt 18 [.ref p, a1] st h Q = iWp d mX6_treeAt 19 [.ref p, a1] (.ref p :: st) h Q := w_aload_n dX6_treeAt_18 rfl
theorem X6_treeAt_19 : iWp d mX6_treeAt 19 [a0, a1] (.ref p :: st) h Q = iOb (iGet h p 6 0) (fun v => iWp d mX6_treeAt 22 [a0, a1] (v :: st) h Q) := w_getf dX6_treeAt_19 fF_6_11
theorem X6_treeAt_22 : iWp d mX6_treeAt 22 [a0, .int x] st h Q = iWp d mX6_treeAt 23 [a0, .int x] (.int x :: st) h Q := w_iload_n dX6_treeAt_22 rfl
theorem X6_treeAt_23 : iWp d mX6_treeAt 23 [a0, a1] (.int x :: .ref p :: st) h Q = iOb (iLdQ h p x) (fun v => iWp d mX6_treeAt 24 [a0, a1] (va_rf v :: st) h Q) := w_aaload dX6_treeAt_23
theorem X6_treeAt_24 : iWp d mX6_treeAt 24 [a0, a1] st h Q = iWp d mX6_treeAt 28 [a0, a1] st h Q := w_goto dX6_treeAt_24 rfl
theorem X6_treeAt_27 : iWp d mX6_treeAt 27 [a0, a1] st h Q = iWp d mX6_treeAt 28 [a0, a1] (.null :: st) h Q := w_null dX6_treeAt_27
theorem X6_treeAt_28 : iWp d mX6_treeAt 28 [a0, a1] [.ref p] h Q = Q (some (.ref p)) h := w_aret dX6_treeAt_28 rfl
theorem X6_treeAt_28n : iWp d mX6_treeAt 28 [a0, a1] [.null] h Q = Q (some .null) h := w_aretN dX6_treeAt_28 rfl
theorem I6_treeAt {Q : Option Value → iHp → Prop} (hw : iWp 1 mX6_treeAt 0 [.ref p, .int x0] [] h Q) : ∃ r h1, iEv mX6_treeAt [.ref p, .int x0] h r h1 ∧ Q r h1 := iEv_of (by rfl) rfl hw
theorem J6_treeAt {r : Option Value} {h1 : iHp} (hw : iWp 1 mX6_treeAt 0 [.ref p, .int x0] [] h (fun r' h' => r' = r ∧ h' = h1)) : iEv mX6_treeAt [.ref p, .int x0] h r h1 := iEv_ev (by rfl) rfl hw
theorem X7_carry_0 : iWp d mX7_carry 0 [.ref p, a1, a2, a3, a4, a5, a6] st h Q = iWp d mX7_carry 1 [.ref p, a1, a2, a3, a4, a5, a6] (.ref p :: st) h Q := w_aload_n dX7_carry_0 rfl
theorem X7_carry_1 : iWp d mX7_carry 1 [a0, .int x, a2, a3, a4, a5, a6] st h Q = iWp d mX7_carry 2 [a0, .int x, a2, a3, a4, a5, a6] (.int x :: st) h Q := w_iload_n dX7_carry_1 rfl
theorem X7_carry_2 (he : iEv mX7_has [.ref p, .int x0] h (some (.int rv)) h2) (ho : iObj h p 7 = true) : iWp 3 mX7_carry 2 [a0, a1, a2, a3, a4, a5, a6] [.int x0, .ref p] h Q = iWp 3 mX7_carry 5 [a0, a1, a2, a3, a4, a5, a6] [.int rv] h2 Q := iWp_cV dX7_carry_2 fK_7_31 rfl rfl ho (Nat.le_of_ble_eq_true rfl) (Nat.le_of_ble_eq_true rfl) rfl (Nat.le_of_ble_eq_true rfl) he rfl
theorem X7_carry_5 : iWp d mX7_carry 5 [a0, a1, a2, a3, a4, a5, a6] (.int x :: st) h Q = if x = 0 then iWp d mX7_carry 20 [a0, a1, a2, a3, a4, a5, a6] st h Q else iWp d mX7_carry 8 [a0, a1, a2, a3, a4, a5, a6] st h Q := w_ifc_eq dX7_carry_5 rfl
theorem X7_carry_8 : iWp d mX7_carry 8 [a0, a1, .int x, a3, a4, a5, a6] st h Q = iWp d mX7_carry 9 [a0, a1, .int x, a3, a4, a5, a6] (.int x :: st) h Q := w_iload_n dX7_carry_8 rfl
theorem X7_carry_9 : iWp d mX7_carry 9 [a0, a1, a2, a3, a4, a5, a6] (.int x :: st) h Q = if x < 0 then iWp d mX7_carry 20 [a0, a1, a2, a3, a4, a5, a6] st h Q else iWp d mX7_carry 12 [a0, a1, a2, a3, a4, a5, a6] st h Q := w_ifc_lt dX7_carry_9 rfl
theorem X7_carry_12 : iWp d mX7_carry 12 [a0, a1, .int x, a3, a4, a5, a6] st h Q = iWp d mX7_carry 13 [a0, a1, .int x, a3, a4, a5, a6] (.int x :: st) h Q := w_iload_n dX7_carry_12 rfl
theorem X7_carry_13 : iWp d mX7_carry 13 [.ref p, a1, a2, a3, a4, a5, a6] st h Q = iWp d mX7_carry 14 [.ref p, a1, a2, a3, a4, a5, a6] (.ref p :: st) h Q := w_aload_n dX7_carry_13 rfl
theorem X7_carry_14 : iWp d mX7_carry 14 [a0, a1, a2, a3, a4, a5, a6] (.ref p :: st) h Q = iOb (iGet h p 7 3) (fun v => iWp d mX7_carry 17 [a0, a1, a2, a3, a4, a5, a6] (v :: st) h Q) := w_getf dX7_carry_14 fF_7_21
theorem X7_carry_17 : iWp d mX7_carry 17 [a0, a1, a2, a3, a4, a5, a6] (.int y :: .int x :: st) h Q = if x ≤ y then iWp d mX7_carry 21 [a0, a1, a2, a3, a4, a5, a6] st h Q else iWp d mX7_carry 20 [a0, a1, a2, a3, a4, a5, a6] st h Q := w_icmp_le dX7_carry_17 rfl
theorem X7_carry_20 : iWp d mX7_carry 20 [a0, a1, a2, a3, a4, a5, a6] [] h Q = Q none h := w_ret dX7_carry_20 rfl
theorem X7_carry_21 : iWp d mX7_carry 21 [.ref p, a1, a2, a3, a4, a5, a6] st h Q = iWp d mX7_carry 22 [.ref p, a1, a2, a3, a4, a5, a6] (.ref p :: st) h Q := w_aload_n dX7_carry_21 rfl
theorem X7_carry_22 : iWp d mX7_carry 22 [a0, .int x, a2, a3, a4, a5, a6] st h Q = iWp d mX7_carry 23 [a0, .int x, a2, a3, a4, a5, a6] (.int x :: st) h Q := w_iload_n dX7_carry_22 rfl
theorem X7_carry_23 (he : iEv mX7_endOf [.ref p, .int x0] h (some (.int rv)) h2) (ho : iObj h p 7 = true) : iWp 3 mX7_carry 23 [a0, a1, a2, a3, a4, a5, a6] [.int x0, .ref p] h Q = iWp 3 mX7_carry 26 [a0, a1, a2, a3, a4, a5, a6] [.int rv] h2 Q := iWp_cV dX7_carry_23 fK_7_42 rfl rfl ho (Nat.le_of_ble_eq_true rfl) (Nat.le_of_ble_eq_true rfl) rfl (Nat.le_of_ble_eq_true rfl) he rfl
theorem X7_carry_26 : iWp d mX7_carry 26 [a0, a1, a2, a3, a4, a5, a6] (.int x :: st) h Q = iWp d mX7_carry 28 [a0, a1, a2, iClr a3, .int x, a5, a6] st h Q := w_istore dX7_carry_26 (Nat.le_of_ble_eq_true rfl) rfl
theorem X7_carry_28 : iWp d mX7_carry 28 [a0, a1, a2, .int x, a4, a5, a6] st h Q = iWp d mX7_carry 29 [a0, a1, a2, .int x, a4, a5, a6] (.int x :: st) h Q := w_iload_n dX7_carry_28 rfl
theorem X7_carry_29 : iWp d mX7_carry 29 [.ref p, a1, a2, a3, a4, a5, a6] st h Q = iWp d mX7_carry 30 [.ref p, a1, a2, a3, a4, a5, a6] (.ref p :: st) h Q := w_aload_n dX7_carry_29 rfl
theorem X7_carry_30 : iWp d mX7_carry 30 [a0, a1, a2, a3, a4, a5, a6] (.ref p :: st) h Q = iOb (iGet h p 7 2) (fun v => iWp d mX7_carry 33 [a0, a1, a2, a3, a4, a5, a6] (v :: st) h Q) := w_getf dX7_carry_30 fF_7_18
theorem X7_carry_33 : iWp d mX7_carry 33 [a0, .int x, a2, a3, a4, a5, a6] st h Q = iWp d mX7_carry 34 [a0, .int x, a2, a3, a4, a5, a6] (.int x :: st) h Q := w_iload_n dX7_carry_33 rfl
theorem X7_carry_34 : iWp d mX7_carry 34 [a0, a1, a2, a3, a4, a5, a6] (.int x :: .ref p :: st) h Q = iOb (iLdI h p x) (fun v => iWp d mX7_carry 35 [a0, a1, a2, a3, a4, a5, a6] (.int v :: st) h Q) := w_iaload dX7_carry_34
theorem X7_carry_35 : iWp d mX7_carry 35 [a0, a1, a2, a3, a4, a5, a6] (.int y :: .int x :: st) h Q = iWp d mX7_carry 36 [a0, a1, a2, a3, a4, a5, a6] (.int (x - y) :: st) h Q := w_isub dX7_carry_35
theorem X7_carry_36 : iWp d mX7_carry 36 [a0, a1, a2, a3, a4, a5, a6] (.int x :: st) h Q = iWp d mX7_carry 38 [a0, a1, a2, a3, iClr a4, .int x, a6] st h Q := w_istore dX7_carry_36 (Nat.le_of_ble_eq_true rfl) rfl
theorem X7_carry_38 : iWp d mX7_carry 38 [a0, .int x, a2, a3, a4, a5, a6] st h Q = iWp d mX7_carry 39 [a0, .int x, a2, a3, a4, a5, a6] (.int x :: st) h Q := w_iload_n dX7_carry_38 rfl
theorem X7_carry_39 : iWp d mX7_carry 39 [a0, a1, a2, a3, a4, a5, a6] (.int x :: st) h Q = iWp d mX7_carry 41 [a0, a1, a2, a3, a4, iClr a5, .int x] st h Q := w_istore dX7_carry_39 (Nat.le_of_ble_eq_true rfl) rfl
theorem X7_carry_41 : iWp d mX7_carry 41 [a0, a1, a2, a3, a4, a5, .int x] st h Q = iWp d mX7_carry 43 [a0, a1, a2, a3, a4, a5, .int x] (.int x :: st) h Q := w_iload dX7_carry_41 rfl
theorem X7_carry_43 : iWp d mX7_carry 43 [a0, a1, a2, a3, .int x, a5, a6] st h Q = iWp d mX7_carry 45 [a0, a1, a2, a3, .int x, a5, a6] (.int x :: st) h Q := w_iload dX7_carry_43 rfl
theorem X7_carry_45 : iWp d mX7_carry 45 [a0, a1, a2, a3, a4, a5, a6] (.int y :: .int x :: st) h Q = if y ≤ x then iWp d mX7_carry 66 [a0, a1, a2, a3, a4, a5, a6] st h Q else iWp d mX7_carry 48 [a0, a1, a2, a3, a4, a5, a6] st h Q := w_icmp_ge dX7_carry_45 rfl
theorem X7_carry_48 : iWp d mX7_carry 48 [.ref p, a1, a2, a3, a4, a5, a6] st h Q = iWp d mX7_carry 49 [.ref p, a1, a2, a3, a4, a5, a6] (.ref p :: st) h Q := w_aload_n dX7_carry_48 rfl
theorem X7_carry_49 : iWp d mX7_carry 49 [a0, a1, a2, a3, a4, a5, a6] (.ref p :: st) h Q = iOb (iGet h p 7 2) (fun v => iWp d mX7_carry 52 [a0, a1, a2, a3, a4, a5, a6] (v :: st) h Q) := w_getf dX7_carry_49 fF_7_18
theorem X7_carry_52 : iWp d mX7_carry 52 [a0, a1, a2, a3, a4, a5, .int x] st h Q = iWp d mX7_carry 54 [a0, a1, a2, a3, a4, a5, .int x] (.int x :: st) h Q := w_iload dX7_carry_52 rfl
theorem X7_carry_54 : iWp d mX7_carry 54 [a0, a1, a2, a3, a4, a5, a6] (.int x :: .ref q :: st) h Q = iWp d mX7_carry 55 [a0, a1, a2, a3, a4, a5, a6] (.int x :: .ref q :: .int x :: .ref q :: st) h Q := w_dup2 dX7_carry_54 ⟨rfl, rfl⟩
theorem X7_carry_55 : iWp d mX7_carry 55 [a0, a1, a2, a3, a4, a5, a6] (.int x :: .ref p :: st) h Q = iOb (iLdI h p x) (fun v => iWp d mX7_carry 56 [a0, a1, a2, a3, a4, a5, a6] (.int v :: st) h Q) := w_iaload dX7_carry_55
theorem X7_carry_56 : iWp d mX7_carry 56 [a0, a1, a2, a3, a4, .int x, a6] st h Q = iWp d mX7_carry 58 [a0, a1, a2, a3, a4, .int x, a6] (.int x :: st) h Q := w_iload dX7_carry_56 rfl
theorem X7_carry_58 : iWp d mX7_carry 58 [a0, a1, a2, a3, a4, a5, a6] (.int y :: .int x :: st) h Q = iWp d mX7_carry 59 [a0, a1, a2, a3, a4, a5, a6] (.int (x + y) :: st) h Q := w_iadd dX7_carry_58
theorem X7_carry_59 : iWp d mX7_carry 59 [a0, a1, a2, a3, a4, a5, a6] (.int y :: .int x :: .ref p :: st) h Q = iOb (iStI h p x y) (fun g => iWp d mX7_carry 60 [a0, a1, a2, a3, a4, a5, a6] st g Q) := w_iastore dX7_carry_59
theorem X7_carry_60 : iWp d mX7_carry 60 [a0, a1, a2, a3, a4, a5, .int x] st h Q = iWp d mX7_carry 63 [a0, a1, a2, a3, a4, iClr a5, .int (x + 1)] st h Q := w_iinc dX7_carry_60 rfl (Nat.le_of_ble_eq_true rfl) rfl
theorem X7_carry_63 : iWp d mX7_carry 63 [a0, a1, a2, a3, a4, a5, a6] st h Q = iWp d mX7_carry 41 [a0, a1, a2, a3, a4, a5, a6] st h Q := w_goto dX7_carry_63 rfl
theorem X7_carry_66 : iWp d mX7_carry 66 [a0, a1, .int x, a3, a4, a5, a6] st h Q = iWp d mX7_carry 67 [a0, a1, .int x, a3, a4, a5, a6] (.int x :: st) h Q := w_iload_n dX7_carry_66 rfl
theorem X7_carry_67 : iWp d mX7_carry 67 [a0, .int x, a2, a3, a4, a5, a6] st h Q = iWp d mX7_carry 68 [a0, .int x, a2, a3, a4, a5, a6] (.int x :: st) h Q := w_iload_n dX7_carry_67 rfl
theorem X7_carry_68 : iWp d mX7_carry 68 [a0, a1, a2, a3, a4, a5, a6] (.int y :: .int x :: st) h Q = if y ≤ x then iWp d mX7_carry 94 [a0, a1, a2, a3, a4, a5, a6] st h Q else iWp d mX7_carry 71 [a0, a1, a2, a3, a4, a5, a6] st h Q := w_icmp_ge dX7_carry_68 rfl
theorem X7_carry_71 : iWp d mX7_carry 71 [.ref p, a1, a2, a3, a4, a5, a6] st h Q = iWp d mX7_carry 72 [.ref p, a1, a2, a3, a4, a5, a6] (.ref p :: st) h Q := w_aload_n dX7_carry_71 rfl
theorem X7_carry_72 : iWp d mX7_carry 72 [a0, a1, .int x, a3, a4, a5, a6] st h Q = iWp d mX7_carry 73 [a0, a1, .int x, a3, a4, a5, a6] (.int x :: st) h Q := w_iload_n dX7_carry_72 rfl
theorem X7_carry_73 : iWp d mX7_carry 73 [a0, .int x, a2, a3, a4, a5, a6] st h Q = iWp d mX7_carry 74 [a0, .int x, a2, a3, a4, a5, a6] (.int x :: st) h Q := w_iload_n dX7_carry_73 rfl
theorem X7_carry_74 (he : iEv mX7_turnRound [.ref p, .int x0, .int x1] h none h2) (ho : iObj h p 7 = true) : iWp 3 mX7_carry 74 [a0, a1, a2, a3, a4, a5, a6] [.int x1, .int x0, .ref p] h Q = iWp 3 mX7_carry 77 [a0, a1, a2, a3, a4, a5, a6] [] h2 Q := iWp_cV dX7_carry_74 fK_7_63 rfl rfl ho (Nat.le_of_ble_eq_true rfl) (Nat.le_of_ble_eq_true rfl) rfl (Nat.le_of_ble_eq_true rfl) he rfl
theorem X7_carry_77 : iWp d mX7_carry 77 [.ref p, a1, a2, a3, a4, a5, a6] st h Q = iWp d mX7_carry 78 [.ref p, a1, a2, a3, a4, a5, a6] (.ref p :: st) h Q := w_aload_n dX7_carry_77 rfl
theorem X7_carry_78 : iWp d mX7_carry 78 [a0, .int x, a2, a3, a4, a5, a6] st h Q = iWp d mX7_carry 79 [a0, .int x, a2, a3, a4, a5, a6] (.int x :: st) h Q := w_iload_n dX7_carry_78 rfl
theorem X7_carry_79 : iWp d mX7_carry 79 [a0, a1, a2, a3, .int x, a5, a6] st h Q = iWp d mX7_carry 81 [a0, a1, a2, a3, .int x, a5, a6] (.int x :: st) h Q := w_iload dX7_carry_79 rfl
theorem X7_carry_81 (he : iEv mX7_turnRound [.ref p, .int x0, .int x1] h none h2) (ho : iObj h p 7 = true) : iWp 3 mX7_carry 81 [a0, a1, a2, a3, a4, a5, a6] [.int x1, .int x0, .ref p] h Q = iWp 3 mX7_carry 84 [a0, a1, a2, a3, a4, a5, a6] [] h2 Q := iWp_cV dX7_carry_81 fK_7_63 rfl rfl ho (Nat.le_of_ble_eq_true rfl) (Nat.le_of_ble_eq_true rfl) rfl (Nat.le_of_ble_eq_true rfl) he rfl
theorem X7_carry_84 : iWp d mX7_carry 84 [.ref p, a1, a2, a3, a4, a5, a6] st h Q = iWp d mX7_carry 85 [.ref p, a1, a2, a3, a4, a5, a6] (.ref p :: st) h Q := w_aload_n dX7_carry_84 rfl
theorem X7_carry_85 : iWp d mX7_carry 85 [a0, a1, .int x, a3, a4, a5, a6] st h Q = iWp d mX7_carry 86 [a0, a1, .int x, a3, a4, a5, a6] (.int x :: st) h Q := w_iload_n dX7_carry_85 rfl
theorem X7_carry_86 : iWp d mX7_carry 86 [a0, a1, a2, a3, .int x, a5, a6] st h Q = iWp d mX7_carry 88 [a0, a1, a2, a3, .int x, a5, a6] (.int x :: st) h Q := w_iload dX7_carry_86 rfl
theorem X7_carry_88 (he : iEv mX7_turnRound [.ref p, .int x0, .int x1] h none h2) (ho : iObj h p 7 = true) : iWp 3 mX7_carry 88 [a0, a1, a2, a3, a4, a5, a6] [.int x1, .int x0, .ref p] h Q = iWp 3 mX7_carry 91 [a0, a1, a2, a3, a4, a5, a6] [] h2 Q := iWp_cV dX7_carry_88 fK_7_63 rfl rfl ho (Nat.le_of_ble_eq_true rfl) (Nat.le_of_ble_eq_true rfl) rfl (Nat.le_of_ble_eq_true rfl) he rfl
theorem X7_carry_91 : iWp d mX7_carry 91 [a0, a1, a2, a3, a4, a5, a6] st h Q = iWp d mX7_carry 120 [a0, a1, a2, a3, a4, a5, a6] st h Q := w_goto dX7_carry_91 rfl
theorem X7_carry_94 : iWp d mX7_carry 94 [a0, a1, .int x, a3, a4, a5, a6] st h Q = iWp d mX7_carry 95 [a0, a1, .int x, a3, a4, a5, a6] (.int x :: st) h Q := w_iload_n dX7_carry_94 rfl
theorem X7_carry_95 : iWp d mX7_carry 95 [a0, a1, a2, a3, .int x, a5, a6] st h Q = iWp d mX7_carry 97 [a0, a1, a2, a3, .int x, a5, a6] (.int x :: st) h Q := w_iload dX7_carry_95 rfl
theorem X7_carry_97 : iWp d mX7_carry 97 [a0, a1, a2, a3, a4, a5, a6] (.int y :: .int x :: st) h Q = if x ≤ y then iWp d mX7_carry 120 [a0, a1, a2, a3, a4, a5, a6] st h Q else iWp d mX7_carry 100 [a0, a1, a2, a3, a4, a5, a6] st h Q := w_icmp_le dX7_carry_97 rfl
theorem X7_carry_100 : iWp d mX7_carry 100 [.ref p, a1, a2, a3, a4, a5, a6] st h Q = iWp d mX7_carry 101 [.ref p, a1, a2, a3, a4, a5, a6] (.ref p :: st) h Q := w_aload_n dX7_carry_100 rfl
theorem X7_carry_101 : iWp d mX7_carry 101 [a0, .int x, a2, a3, a4, a5, a6] st h Q = iWp d mX7_carry 102 [a0, .int x, a2, a3, a4, a5, a6] (.int x :: st) h Q := w_iload_n dX7_carry_101 rfl
theorem X7_carry_102 : iWp d mX7_carry 102 [a0, a1, a2, a3, .int x, a5, a6] st h Q = iWp d mX7_carry 104 [a0, a1, a2, a3, .int x, a5, a6] (.int x :: st) h Q := w_iload dX7_carry_102 rfl
theorem X7_carry_104 (he : iEv mX7_turnRound [.ref p, .int x0, .int x1] h none h2) (ho : iObj h p 7 = true) : iWp 3 mX7_carry 104 [a0, a1, a2, a3, a4, a5, a6] [.int x1, .int x0, .ref p] h Q = iWp 3 mX7_carry 107 [a0, a1, a2, a3, a4, a5, a6] [] h2 Q := iWp_cV dX7_carry_104 fK_7_63 rfl rfl ho (Nat.le_of_ble_eq_true rfl) (Nat.le_of_ble_eq_true rfl) rfl (Nat.le_of_ble_eq_true rfl) he rfl
theorem X7_carry_107 : iWp d mX7_carry 107 [.ref p, a1, a2, a3, a4, a5, a6] st h Q = iWp d mX7_carry 108 [.ref p, a1, a2, a3, a4, a5, a6] (.ref p :: st) h Q := w_aload_n dX7_carry_107 rfl
theorem X7_carry_108 : iWp d mX7_carry 108 [a0, a1, a2, a3, .int x, a5, a6] st h Q = iWp d mX7_carry 110 [a0, a1, a2, a3, .int x, a5, a6] (.int x :: st) h Q := w_iload dX7_carry_108 rfl
theorem X7_carry_110 : iWp d mX7_carry 110 [a0, a1, .int x, a3, a4, a5, a6] st h Q = iWp d mX7_carry 111 [a0, a1, .int x, a3, a4, a5, a6] (.int x :: st) h Q := w_iload_n dX7_carry_110 rfl
theorem X7_carry_111 (he : iEv mX7_turnRound [.ref p, .int x0, .int x1] h none h2) (ho : iObj h p 7 = true) : iWp 3 mX7_carry 111 [a0, a1, a2, a3, a4, a5, a6] [.int x1, .int x0, .ref p] h Q = iWp 3 mX7_carry 114 [a0, a1, a2, a3, a4, a5, a6] [] h2 Q := iWp_cV dX7_carry_111 fK_7_63 rfl rfl ho (Nat.le_of_ble_eq_true rfl) (Nat.le_of_ble_eq_true rfl) rfl (Nat.le_of_ble_eq_true rfl) he rfl
theorem X7_carry_114 : iWp d mX7_carry 114 [.ref p, a1, a2, a3, a4, a5, a6] st h Q = iWp d mX7_carry 115 [.ref p, a1, a2, a3, a4, a5, a6] (.ref p :: st) h Q := w_aload_n dX7_carry_114 rfl
theorem X7_carry_115 : iWp d mX7_carry 115 [a0, .int x, a2, a3, a4, a5, a6] st h Q = iWp d mX7_carry 116 [a0, .int x, a2, a3, a4, a5, a6] (.int x :: st) h Q := w_iload_n dX7_carry_115 rfl
theorem X7_carry_116 : iWp d mX7_carry 116 [a0, a1, .int x, a3, a4, a5, a6] st h Q = iWp d mX7_carry 117 [a0, a1, .int x, a3, a4, a5, a6] (.int x :: st) h Q := w_iload_n dX7_carry_116 rfl
theorem X7_carry_117 (he : iEv mX7_turnRound [.ref p, .int x0, .int x1] h none h2) (ho : iObj h p 7 = true) : iWp 3 mX7_carry 117 [a0, a1, a2, a3, a4, a5, a6] [.int x1, .int x0, .ref p] h Q = iWp 3 mX7_carry 120 [a0, a1, a2, a3, a4, a5, a6] [] h2 Q := iWp_cV dX7_carry_117 fK_7_63 rfl rfl ho (Nat.le_of_ble_eq_true rfl) (Nat.le_of_ble_eq_true rfl) rfl (Nat.le_of_ble_eq_true rfl) he rfl
theorem X7_carry_120 : iWp d mX7_carry 120 [a0, a1, a2, a3, a4, a5, a6] [] h Q = Q none h := w_ret dX7_carry_120 rfl
theorem I7_carry {Q : Option Value → iHp → Prop} (hw : iWp 3 mX7_carry 0 [.ref p, .int x0, .int x1, .int x2, iU, iU, iU] [] h Q) : ∃ r h1, iEv mX7_carry [.ref p, .int x0, .int x1, .int x2] h r h1 ∧ Q r h1 := iEv_of (by rfl) rfl hw
theorem J7_carry {r : Option Value} {h1 : iHp} (hw : iWp 3 mX7_carry 0 [.ref p, .int x0, .int x1, .int x2, iU, iU, iU] [] h (fun r' h' => r' = r ∧ h' = h1)) : iEv mX7_carry [.ref p, .int x0, .int x1, .int x2] h r h1 := iEv_ev (by rfl) rfl hw
theorem X7_childCount_0 : iWp d mX7_childCount 0 [a0, a1, a2, a3] st h Q = iWp d mX7_childCount 1 [a0, a1, a2, a3] (.int 0 :: st) h Q := w_iconst dX7_childCount_0 rfl
theorem X7_childCount_1 : iWp d mX7_childCount 1 [a0, a1, a2, a3] (.int x :: st) h Q = iWp d mX7_childCount 2 [a0, iClr a1, .int x, a3] st h Q := w_istore_n dX7_childCount_1 (Nat.le_of_ble_eq_true rfl) rfl
theorem X7_childCount_2 : iWp d mX7_childCount 2 [.ref p, a1, a2, a3] st h Q = iWp d mX7_childCount 3 [.ref p, a1, a2, a3] (.ref p :: st) h Q := w_aload_n dX7_childCount_2 rfl
theorem X7_childCount_3 : iWp d mX7_childCount 3 [a0, .int x, a2, a3] st h Q = iWp d mX7_childCount 4 [a0, .int x, a2, a3] (.int x :: st) h Q := w_iload_n dX7_childCount_3 rfl
theorem X7_childCount_4 (he : iEv mX7_has [.ref p, .int x0] h (some (.int rv)) h2) (ho : iObj h p 7 = true) : iWp 2 mX7_childCount 4 [a0, a1, a2, a3] [.int x0, .ref p] h Q = iWp 2 mX7_childCount 7 [a0, a1, a2, a3] [.int rv] h2 Q := iWp_cV dX7_childCount_4 fK_7_31 rfl rfl ho (Nat.le_of_ble_eq_true rfl) (Nat.le_of_ble_eq_true rfl) rfl (Nat.le_of_ble_eq_true rfl) he rfl
theorem X7_childCount_7 : iWp d mX7_childCount 7 [a0, a1, a2, a3] (.int x :: st) h Q = if x = 0 then iWp d mX7_childCount 63 [a0, a1, a2, a3] st h Q else iWp d mX7_childCount 10 [a0, a1, a2, a3] st h Q := w_ifc_eq dX7_childCount_7 rfl
theorem X7_childCount_10 : iWp d mX7_childCount 10 [a0, .int x, a2, a3] st h Q = iWp d mX7_childCount 11 [a0, .int x, a2, a3] (.int x :: st) h Q := w_iload_n dX7_childCount_10 rfl
theorem X7_childCount_11 : iWp d mX7_childCount 11 [a0, a1, a2, a3] st h Q = iWp d mX7_childCount 12 [a0, a1, a2, a3] (.int 1 :: st) h Q := w_iconst dX7_childCount_11 rfl
theorem X7_childCount_12 : iWp d mX7_childCount 12 [a0, a1, a2, a3] (.int y :: .int x :: st) h Q = iWp d mX7_childCount 13 [a0, a1, a2, a3] (.int (x + y) :: st) h Q := w_iadd dX7_childCount_12
theorem X7_childCount_13 : iWp d mX7_childCount 13 [a0, a1, a2, a3] (.int x :: st) h Q = iWp d mX7_childCount 14 [a0, a1, iClr a2, .int x] st h Q := w_istore_n dX7_childCount_13 (Nat.le_of_ble_eq_true rfl) rfl
theorem X7_childCount_14 : iWp d mX7_childCount 14 [a0, a1, a2, .int x] st h Q = iWp d mX7_childCount 15 [a0, a1, a2, .int x] (.int x :: st) h Q := w_iload_n dX7_childCount_14 rfl
theorem X7_childCount_15 : iWp d mX7_childCount 15 [.ref p, a1, a2, a3] st h Q = iWp d mX7_childCount 16 [.ref p, a1, a2, a3] (.ref p :: st) h Q := w_aload_n dX7_childCount_15 rfl
theorem X7_childCount_16 : iWp d mX7_childCount 16 [a0, a1, a2, a3] (.ref p :: st) h Q = iOb (iGet h p 7 3) (fun v => iWp d mX7_childCount 19 [a0, a1, a2, a3] (v :: st) h Q) := w_getf dX7_childCount_16 fF_7_21
theorem X7_childCount_19 : iWp d mX7_childCount 19 [a0, a1, a2, a3] (.int y :: .int x :: st) h Q = if y ≤ x then iWp d mX7_childCount 63 [a0, a1, a2, a3] st h Q else iWp d mX7_childCount 22 [a0, a1, a2, a3] st h Q := w_icmp_ge dX7_childCount_19 rfl
theorem X7_childCount_22 : iWp d mX7_childCount 22 [.ref p, a1, a2, a3] st h Q = iWp d mX7_childCount 23 [.ref p, a1, a2, a3] (.ref p :: st) h Q := w_aload_n dX7_childCount_22 rfl
theorem X7_childCount_23 : iWp d mX7_childCount 23 [a0, a1, a2, a3] (.ref p :: st) h Q = iOb (iGet h p 7 2) (fun v => iWp d mX7_childCount 26 [a0, a1, a2, a3] (v :: st) h Q) := w_getf dX7_childCount_23 fF_7_18
theorem X7_childCount_26 : iWp d mX7_childCount 26 [a0, a1, a2, .int x] st h Q = iWp d mX7_childCount 27 [a0, a1, a2, .int x] (.int x :: st) h Q := w_iload_n dX7_childCount_26 rfl
theorem X7_childCount_27 : iWp d mX7_childCount 27 [a0, a1, a2, a3] (.int x :: .ref p :: st) h Q = iOb (iLdI h p x) (fun v => iWp d mX7_childCount 28 [a0, a1, a2, a3] (.int v :: st) h Q) := w_iaload dX7_childCount_27
theorem X7_childCount_28 : iWp d mX7_childCount 28 [.ref p, a1, a2, a3] st h Q = iWp d mX7_childCount 29 [.ref p, a1, a2, a3] (.ref p :: st) h Q := w_aload_n dX7_childCount_28 rfl
theorem X7_childCount_29 : iWp d mX7_childCount 29 [a0, a1, a2, a3] (.ref p :: st) h Q = iOb (iGet h p 7 2) (fun v => iWp d mX7_childCount 32 [a0, a1, a2, a3] (v :: st) h Q) := w_getf dX7_childCount_29 fF_7_18
theorem X7_childCount_32 : iWp d mX7_childCount 32 [a0, .int x, a2, a3] st h Q = iWp d mX7_childCount 33 [a0, .int x, a2, a3] (.int x :: st) h Q := w_iload_n dX7_childCount_32 rfl
theorem X7_childCount_33 : iWp d mX7_childCount 33 [a0, a1, a2, a3] (.int x :: .ref p :: st) h Q = iOb (iLdI h p x) (fun v => iWp d mX7_childCount 34 [a0, a1, a2, a3] (.int v :: st) h Q) := w_iaload dX7_childCount_33
theorem X7_childCount_34 : iWp d mX7_childCount 34 [a0, a1, a2, a3] (.int y :: .int x :: st) h Q = if x ≤ y then iWp d mX7_childCount 63 [a0, a1, a2, a3] st h Q else iWp d mX7_childCount 37 [a0, a1, a2, a3] st h Q := w_icmp_le dX7_childCount_34 rfl
theorem X7_childCount_37 : iWp d mX7_childCount 37 [.ref p, a1, a2, a3] st h Q = iWp d mX7_childCount 38 [.ref p, a1, a2, a3] (.ref p :: st) h Q := w_aload_n dX7_childCount_37 rfl
theorem X7_childCount_38 : iWp d mX7_childCount 38 [a0, a1, a2, a3] (.ref p :: st) h Q = iOb (iGet h p 7 2) (fun v => iWp d mX7_childCount 41 [a0, a1, a2, a3] (v :: st) h Q) := w_getf dX7_childCount_38 fF_7_18
theorem X7_childCount_41 : iWp d mX7_childCount 41 [a0, a1, a2, .int x] st h Q = iWp d mX7_childCount 42 [a0, a1, a2, .int x] (.int x :: st) h Q := w_iload_n dX7_childCount_41 rfl
theorem X7_childCount_42 : iWp d mX7_childCount 42 [a0, a1, a2, a3] (.int x :: .ref p :: st) h Q = iOb (iLdI h p x) (fun v => iWp d mX7_childCount 43 [a0, a1, a2, a3] (.int v :: st) h Q) := w_iaload dX7_childCount_42
theorem X7_childCount_43 : iWp d mX7_childCount 43 [.ref p, a1, a2, a3] st h Q = iWp d mX7_childCount 44 [.ref p, a1, a2, a3] (.ref p :: st) h Q := w_aload_n dX7_childCount_43 rfl
theorem X7_childCount_44 : iWp d mX7_childCount 44 [a0, a1, a2, a3] (.ref p :: st) h Q = iOb (iGet h p 7 2) (fun v => iWp d mX7_childCount 47 [a0, a1, a2, a3] (v :: st) h Q) := w_getf dX7_childCount_44 fF_7_18
theorem X7_childCount_47 : iWp d mX7_childCount 47 [a0, .int x, a2, a3] st h Q = iWp d mX7_childCount 48 [a0, .int x, a2, a3] (.int x :: st) h Q := w_iload_n dX7_childCount_47 rfl
theorem X7_childCount_48 : iWp d mX7_childCount 48 [a0, a1, a2, a3] (.int x :: .ref p :: st) h Q = iOb (iLdI h p x) (fun v => iWp d mX7_childCount 49 [a0, a1, a2, a3] (.int v :: st) h Q) := w_iaload dX7_childCount_48
theorem X7_childCount_49 : iWp d mX7_childCount 49 [a0, a1, a2, a3] st h Q = iWp d mX7_childCount 50 [a0, a1, a2, a3] (.int 1 :: st) h Q := w_iconst dX7_childCount_49 rfl
theorem X7_childCount_50 : iWp d mX7_childCount 50 [a0, a1, a2, a3] (.int y :: .int x :: st) h Q = iWp d mX7_childCount 51 [a0, a1, a2, a3] (.int (x + y) :: st) h Q := w_iadd dX7_childCount_50
theorem X7_childCount_51 : iWp d mX7_childCount 51 [a0, a1, a2, a3] (.int y :: .int x :: st) h Q = if x = y then iWp d mX7_childCount 54 [a0, a1, a2, a3] st h Q else iWp d mX7_childCount 57 [a0, a1, a2, a3] st h Q := w_icmp_ne dX7_childCount_51 rfl
theorem X7_childCount_54 : iWp d mX7_childCount 54 [a0, a1, .int x, a3] st h Q = iWp d mX7_childCount 57 [a0, iClr a1, .int (x + 1), a3] st h Q := w_iinc dX7_childCount_54 rfl (Nat.le_of_ble_eq_true rfl) rfl
theorem X7_childCount_57 : iWp d mX7_childCount 57 [a0, a1, a2, .int x] st h Q = iWp d mX7_childCount 60 [a0, a1, iClr a2, .int (x + 1)] st h Q := w_iinc dX7_childCount_57 rfl (Nat.le_of_ble_eq_true rfl) rfl
theorem X7_childCount_60 : iWp d mX7_childCount 60 [a0, a1, a2, a3] st h Q = iWp d mX7_childCount 14 [a0, a1, a2, a3] st h Q := w_goto dX7_childCount_60 rfl
theorem X7_childCount_63 : iWp d mX7_childCount 63 [a0, a1, .int x, a3] st h Q = iWp d mX7_childCount 64 [a0, a1, .int x, a3] (.int x :: st) h Q := w_iload_n dX7_childCount_63 rfl
theorem X7_childCount_64 : iWp d mX7_childCount 64 [a0, a1, a2, a3] [.int x] h Q = Q (some (.int x)) h := w_ireti dX7_childCount_64 rfl
theorem I7_childCount {Q : Option Value → iHp → Prop} (hw : iWp 2 mX7_childCount 0 [.ref p, .int x0, iU, iU] [] h Q) : ∃ r h1, iEv mX7_childCount [.ref p, .int x0] h r h1 ∧ Q r h1 := iEv_of (by rfl) rfl hw
theorem J7_childCount {r : Option Value} {h1 : iHp} (hw : iWp 2 mX7_childCount 0 [.ref p, .int x0, iU, iU] [] h (fun r' h' => r' = r ∧ h' = h1)) : iEv mX7_childCount [.ref p, .int x0] h r h1 := iEv_ev (by rfl) rfl hw
theorem X7_depthAt_0 : iWp d mX7_depthAt 0 [.ref p, a1] st h Q = iWp d mX7_depthAt 1 [.ref p, a1] (.ref p :: st) h Q := w_aload_n dX7_depthAt_0 rfl
theorem X7_depthAt_1 : iWp d mX7_depthAt 1 [a0, .int x] st h Q = iWp d mX7_depthAt 2 [a0, .int x] (.int x :: st) h Q := w_iload_n dX7_depthAt_1 rfl
theorem X7_depthAt_2 (he : iEv mX7_has [.ref p, .int x0] h (some (.int rv)) h2) (ho : iObj h p 7 = true) : iWp 2 mX7_depthAt 2 [a0, a1] [.int x0, .ref p] h Q = iWp 2 mX7_depthAt 5 [a0, a1] [.int rv] h2 Q := iWp_cV dX7_depthAt_2 fK_7_31 rfl rfl ho (Nat.le_of_ble_eq_true rfl) (Nat.le_of_ble_eq_true rfl) rfl (Nat.le_of_ble_eq_true rfl) he rfl
theorem X7_depthAt_5 : iWp d mX7_depthAt 5 [a0, a1] (.int x :: st) h Q = if x = 0 then iWp d mX7_depthAt 17 [a0, a1] st h Q else iWp d mX7_depthAt 8 [a0, a1] st h Q := w_ifc_eq dX7_depthAt_5 rfl
theorem X7_depthAt_8 : iWp d mX7_depthAt 8 [.ref p, a1] st h Q = iWp d mX7_depthAt 9 [.ref p, a1] (.ref p :: st) h Q := w_aload_n dX7_depthAt_8 rfl
theorem X7_depthAt_9 : iWp d mX7_depthAt 9 [a0, a1] (.ref p :: st) h Q = iOb (iGet h p 7 2) (fun v => iWp d mX7_depthAt 12 [a0, a1] (v :: st) h Q) := w_getf dX7_depthAt_9 fF_7_18
theorem X7_depthAt_12 : iWp d mX7_depthAt 12 [a0, .int x] st h Q = iWp d mX7_depthAt 13 [a0, .int x] (.int x :: st) h Q := w_iload_n dX7_depthAt_12 rfl
theorem X7_depthAt_13 : iWp d mX7_depthAt 13 [a0, a1] (.int x :: .ref p :: st) h Q = iOb (iLdI h p x) (fun v => iWp d mX7_depthAt 14 [a0, a1] (.int v :: st) h Q) := w_iaload dX7_depthAt_13
theorem X7_depthAt_14 : iWp d mX7_depthAt 14 [a0, a1] st h Q = iWp d mX7_depthAt 18 [a0, a1] st h Q := w_goto dX7_depthAt_14 rfl
theorem X7_depthAt_17 : iWp d mX7_depthAt 17 [a0, a1] st h Q = iWp d mX7_depthAt 18 [a0, a1] (.int 0 :: st) h Q := w_iconst dX7_depthAt_17 rfl
theorem X7_depthAt_18 : iWp d mX7_depthAt 18 [a0, a1] [.int x] h Q = Q (some (.int x)) h := w_ireti dX7_depthAt_18 rfl
theorem I7_depthAt {Q : Option Value → iHp → Prop} (hw : iWp 2 mX7_depthAt 0 [.ref p, .int x0] [] h Q) : ∃ r h1, iEv mX7_depthAt [.ref p, .int x0] h r h1 ∧ Q r h1 := iEv_of (by rfl) rfl hw
theorem J7_depthAt {r : Option Value} {h1 : iHp} (hw : iWp 2 mX7_depthAt 0 [.ref p, .int x0] [] h (fun r' h' => r' = r ∧ h' = h1)) : iEv mX7_depthAt [.ref p, .int x0] h r h1 := iEv_ev (by rfl) rfl hw
theorem X7_endOf_0 : iWp d mX7_endOf 0 [a0, .int x, a2] st h Q = iWp d mX7_endOf 1 [a0, .int x, a2] (.int x :: st) h Q := w_iload_n dX7_endOf_0 rfl
theorem X7_endOf_1 : iWp d mX7_endOf 1 [a0, a1, a2] st h Q = iWp d mX7_endOf 2 [a0, a1, a2] (.int 1 :: st) h Q := w_iconst dX7_endOf_1 rfl
theorem X7_endOf_2 : iWp d mX7_endOf 2 [a0, a1, a2] (.int y :: .int x :: st) h Q = iWp d mX7_endOf 3 [a0, a1, a2] (.int (x + y) :: st) h Q := w_iadd dX7_endOf_2
theorem X7_endOf_3 : iWp d mX7_endOf 3 [a0, a1, a2] (.int x :: st) h Q = iWp d mX7_endOf 4 [a0, iClr a1, .int x] st h Q := w_istore_n dX7_endOf_3 (Nat.le_of_ble_eq_true rfl) rfl
theorem X7_endOf_4 : iWp d mX7_endOf 4 [.ref p, a1, a2] st h Q = iWp d mX7_endOf 5 [.ref p, a1, a2] (.ref p :: st) h Q := w_aload_n dX7_endOf_4 rfl
theorem X7_endOf_5 : iWp d mX7_endOf 5 [a0, .int x, a2] st h Q = iWp d mX7_endOf 6 [a0, .int x, a2] (.int x :: st) h Q := w_iload_n dX7_endOf_5 rfl
theorem X7_endOf_6 (he : iEv mX7_has [.ref p, .int x0] h (some (.int rv)) h2) (ho : iObj h p 7 = true) : iWp 2 mX7_endOf 6 [a0, a1, a2] [.int x0, .ref p] h Q = iWp 2 mX7_endOf 9 [a0, a1, a2] [.int rv] h2 Q := iWp_cV dX7_endOf_6 fK_7_31 rfl rfl ho (Nat.le_of_ble_eq_true rfl) (Nat.le_of_ble_eq_true rfl) rfl (Nat.le_of_ble_eq_true rfl) he rfl
theorem X7_endOf_9 : iWp d mX7_endOf 9 [a0, a1, a2] (.int x :: st) h Q = if x = 0 then iWp d mX7_endOf 41 [a0, a1, a2] st h Q else iWp d mX7_endOf 12 [a0, a1, a2] st h Q := w_ifc_eq dX7_endOf_9 rfl
theorem X7_endOf_12 : iWp d mX7_endOf 12 [a0, a1, .int x] st h Q = iWp d mX7_endOf 13 [a0, a1, .int x] (.int x :: st) h Q := w_iload_n dX7_endOf_12 rfl
theorem X7_endOf_13 : iWp d mX7_endOf 13 [.ref p, a1, a2] st h Q = iWp d mX7_endOf 14 [.ref p, a1, a2] (.ref p :: st) h Q := w_aload_n dX7_endOf_13 rfl
theorem X7_endOf_14 : iWp d mX7_endOf 14 [a0, a1, a2] (.ref p :: st) h Q = iOb (iGet h p 7 3) (fun v => iWp d mX7_endOf 17 [a0, a1, a2] (v :: st) h Q) := w_getf dX7_endOf_14 fF_7_21
theorem X7_endOf_17 : iWp d mX7_endOf 17 [a0, a1, a2] (.int y :: .int x :: st) h Q = if y ≤ x then iWp d mX7_endOf 41 [a0, a1, a2] st h Q else iWp d mX7_endOf 20 [a0, a1, a2] st h Q := w_icmp_ge dX7_endOf_17 rfl
theorem X7_endOf_20 : iWp d mX7_endOf 20 [.ref p, a1, a2] st h Q = iWp d mX7_endOf 21 [.ref p, a1, a2] (.ref p :: st) h Q := w_aload_n dX7_endOf_20 rfl
theorem X7_endOf_21 : iWp d mX7_endOf 21 [a0, a1, a2] (.ref p :: st) h Q = iOb (iGet h p 7 2) (fun v => iWp d mX7_endOf 24 [a0, a1, a2] (v :: st) h Q) := w_getf dX7_endOf_21 fF_7_18
theorem X7_endOf_24 : iWp d mX7_endOf 24 [a0, a1, .int x] st h Q = iWp d mX7_endOf 25 [a0, a1, .int x] (.int x :: st) h Q := w_iload_n dX7_endOf_24 rfl
theorem X7_endOf_25 : iWp d mX7_endOf 25 [a0, a1, a2] (.int x :: .ref p :: st) h Q = iOb (iLdI h p x) (fun v => iWp d mX7_endOf 26 [a0, a1, a2] (.int v :: st) h Q) := w_iaload dX7_endOf_25
theorem X7_endOf_26 : iWp d mX7_endOf 26 [.ref p, a1, a2] st h Q = iWp d mX7_endOf 27 [.ref p, a1, a2] (.ref p :: st) h Q := w_aload_n dX7_endOf_26 rfl
theorem X7_endOf_27 : iWp d mX7_endOf 27 [a0, a1, a2] (.ref p :: st) h Q = iOb (iGet h p 7 2) (fun v => iWp d mX7_endOf 30 [a0, a1, a2] (v :: st) h Q) := w_getf dX7_endOf_27 fF_7_18
theorem X7_endOf_30 : iWp d mX7_endOf 30 [a0, .int x, a2] st h Q = iWp d mX7_endOf 31 [a0, .int x, a2] (.int x :: st) h Q := w_iload_n dX7_endOf_30 rfl
theorem X7_endOf_31 : iWp d mX7_endOf 31 [a0, a1, a2] (.int x :: .ref p :: st) h Q = iOb (iLdI h p x) (fun v => iWp d mX7_endOf 32 [a0, a1, a2] (.int v :: st) h Q) := w_iaload dX7_endOf_31
theorem X7_endOf_32 : iWp d mX7_endOf 32 [a0, a1, a2] (.int y :: .int x :: st) h Q = if x ≤ y then iWp d mX7_endOf 41 [a0, a1, a2] st h Q else iWp d mX7_endOf 35 [a0, a1, a2] st h Q := w_icmp_le dX7_endOf_32 rfl
theorem X7_endOf_35 : iWp d mX7_endOf 35 [a0, a1, .int x] st h Q = iWp d mX7_endOf 38 [a0, iClr a1, .int (x + 1)] st h Q := w_iinc dX7_endOf_35 rfl (Nat.le_of_ble_eq_true rfl) rfl
theorem X7_endOf_38 : iWp d mX7_endOf 38 [a0, a1, a2] st h Q = iWp d mX7_endOf 12 [a0, a1, a2] st h Q := w_goto dX7_endOf_38 rfl
theorem X7_endOf_41 : iWp d mX7_endOf 41 [a0, a1, .int x] st h Q = iWp d mX7_endOf 42 [a0, a1, .int x] (.int x :: st) h Q := w_iload_n dX7_endOf_41 rfl
theorem X7_endOf_42 : iWp d mX7_endOf 42 [a0, a1, a2] [.int x] h Q = Q (some (.int x)) h := w_ireti dX7_endOf_42 rfl
theorem I7_endOf {Q : Option Value → iHp → Prop} (hw : iWp 2 mX7_endOf 0 [.ref p, .int x0, iU] [] h Q) : ∃ r h1, iEv mX7_endOf [.ref p, .int x0] h r h1 ∧ Q r h1 := iEv_of (by rfl) rfl hw
theorem J7_endOf {r : Option Value} {h1 : iHp} (hw : iWp 2 mX7_endOf 0 [.ref p, .int x0, iU] [] h (fun r' h' => r' = r ∧ h' = h1)) : iEv mX7_endOf [.ref p, .int x0] h r h1 := iEv_ev (by rfl) rfl hw
theorem X7_firstUnlike_0 : iWp d mX7_firstUnlike 0 [.ref p, a1, a2, a3] st h Q = iWp d mX7_firstUnlike 1 [.ref p, a1, a2, a3] (.ref p :: st) h Q := w_aload_n dX7_firstUnlike_0 rfl
theorem X7_firstUnlike_1 : iWp d mX7_firstUnlike 1 [a0, a1, a2, a3] (.ref p :: st) h Q = iOb (iGet h p 7 3) (fun v => iWp d mX7_firstUnlike 4 [a0, a1, a2, a3] (v :: st) h Q) := w_getf dX7_firstUnlike_1 fF_7_21
theorem X7_firstUnlike_4 : iWp d mX7_firstUnlike 4 [a0, .ref p, a2, a3] st h Q = iWp d mX7_firstUnlike 5 [a0, .ref p, a2, a3] (.ref p :: st) h Q := w_aload_n dX7_firstUnlike_4 rfl
theorem X7_firstUnlike_4n : iWp d mX7_firstUnlike 4 [a0, .null, a2, a3] st h Q = iWp d mX7_firstUnlike 5 [a0, .null, a2, a3] (.null :: st) h Q := w_aload_nN dX7_firstUnlike_4 rfl
theorem X7_firstUnlike_5 : iWp d mX7_firstUnlike 5 [a0, a1, a2, a3] (.ref p :: st) h Q = iOb (iGet h p 7 3) (fun v => iWp d mX7_firstUnlike 8 [a0, a1, a2, a3] (v :: st) h Q) := w_getf dX7_firstUnlike_5 fF_7_21
theorem X7_firstUnlike_8 (hs : iSum st ≤ 8) : iWp d mX7_firstUnlike 8 [a0, a1, a2, a3] (.int y :: .int x :: st) h Q = iWp d mX7_firstUnlike 11 [a0, a1, a2, a3] (.int (if x < y then y else x) :: st) h Q := iWp_k dX7_firstUnlike_8 rfl (fun _ _ => iMaxS hs fK_7_52 rfl rfl rfl)
theorem X7_firstUnlike_11 : iWp d mX7_firstUnlike 11 [a0, a1, a2, a3] (.int x :: st) h Q = iWp d mX7_firstUnlike 12 [a0, iClr a1, .int x, a3] st h Q := w_istore_n dX7_firstUnlike_11 (Nat.le_of_ble_eq_true rfl) rfl
theorem X7_firstUnlike_12 : iWp d mX7_firstUnlike 12 [a0, a1, a2, a3] st h Q = iWp d mX7_firstUnlike 13 [a0, a1, a2, a3] (.int 0 :: st) h Q := w_iconst dX7_firstUnlike_12 rfl
theorem X7_firstUnlike_13 : iWp d mX7_firstUnlike 13 [a0, a1, a2, a3] (.int x :: st) h Q = iWp d mX7_firstUnlike 14 [a0, a1, iClr a2, .int x] st h Q := w_istore_n dX7_firstUnlike_13 (Nat.le_of_ble_eq_true rfl) rfl
theorem X7_firstUnlike_14 : iWp d mX7_firstUnlike 14 [a0, a1, a2, .int x] st h Q = iWp d mX7_firstUnlike 15 [a0, a1, a2, .int x] (.int x :: st) h Q := w_iload_n dX7_firstUnlike_14 rfl
theorem X7_firstUnlike_15 : iWp d mX7_firstUnlike 15 [a0, a1, .int x, a3] st h Q = iWp d mX7_firstUnlike 16 [a0, a1, .int x, a3] (.int x :: st) h Q := w_iload_n dX7_firstUnlike_15 rfl
theorem X7_firstUnlike_16 : iWp d mX7_firstUnlike 16 [a0, a1, a2, a3] (.int y :: .int x :: st) h Q = if y ≤ x then iWp d mX7_firstUnlike 88 [a0, a1, a2, a3] st h Q else iWp d mX7_firstUnlike 19 [a0, a1, a2, a3] st h Q := w_icmp_ge dX7_firstUnlike_16 rfl
theorem X7_firstUnlike_19 : iWp d mX7_firstUnlike 19 [.ref p, a1, a2, a3] st h Q = iWp d mX7_firstUnlike 20 [.ref p, a1, a2, a3] (.ref p :: st) h Q := w_aload_n dX7_firstUnlike_19 rfl
theorem X7_firstUnlike_20 : iWp d mX7_firstUnlike 20 [a0, a1, a2, .int x] st h Q = iWp d mX7_firstUnlike 21 [a0, a1, a2, .int x] (.int x :: st) h Q := w_iload_n dX7_firstUnlike_20 rfl
theorem X7_firstUnlike_21 (he : iEv mX7_has [.ref p, .int x0] h (some (.int rv)) h2) (ho : iObj h p 7 = true) : iWp 2 mX7_firstUnlike 21 [a0, a1, a2, a3] [.int x0, .ref p] h Q = iWp 2 mX7_firstUnlike 24 [a0, a1, a2, a3] [.int rv] h2 Q := iWp_cV dX7_firstUnlike_21 fK_7_31 rfl rfl ho (Nat.le_of_ble_eq_true rfl) (Nat.le_of_ble_eq_true rfl) rfl (Nat.le_of_ble_eq_true rfl) he rfl
theorem X7_firstUnlike_24 : iWp d mX7_firstUnlike 24 [a0, a1, a2, a3] (.int x :: st) h Q = if x = 0 then iWp d mX7_firstUnlike 80 [a0, a1, a2, a3] st h Q else iWp d mX7_firstUnlike 27 [a0, a1, a2, a3] st h Q := w_ifc_eq dX7_firstUnlike_24 rfl
theorem X7_firstUnlike_27 : iWp d mX7_firstUnlike 27 [a0, .ref p, a2, a3] st h Q = iWp d mX7_firstUnlike 28 [a0, .ref p, a2, a3] (.ref p :: st) h Q := w_aload_n dX7_firstUnlike_27 rfl
theorem X7_firstUnlike_27n : iWp d mX7_firstUnlike 27 [a0, .null, a2, a3] st h Q = iWp d mX7_firstUnlike 28 [a0, .null, a2, a3] (.null :: st) h Q := w_aload_nN dX7_firstUnlike_27 rfl
theorem X7_firstUnlike_28 : iWp d mX7_firstUnlike 28 [a0, a1, a2, .int x] st h Q = iWp d mX7_firstUnlike 29 [a0, a1, a2, .int x] (.int x :: st) h Q := w_iload_n dX7_firstUnlike_28 rfl
theorem X7_firstUnlike_29 (he : iEv mX7_has [.ref p, .int x0] h (some (.int rv)) h2) (ho : iObj h p 7 = true) : iWp 2 mX7_firstUnlike 29 [a0, a1, a2, a3] [.int x0, .ref p] h Q = iWp 2 mX7_firstUnlike 32 [a0, a1, a2, a3] [.int rv] h2 Q := iWp_cV dX7_firstUnlike_29 fK_7_31 rfl rfl ho (Nat.le_of_ble_eq_true rfl) (Nat.le_of_ble_eq_true rfl) rfl (Nat.le_of_ble_eq_true rfl) he rfl
theorem X7_firstUnlike_32 : iWp d mX7_firstUnlike 32 [a0, a1, a2, a3] (.int x :: st) h Q = if x = 0 then iWp d mX7_firstUnlike 80 [a0, a1, a2, a3] st h Q else iWp d mX7_firstUnlike 35 [a0, a1, a2, a3] st h Q := w_ifc_eq dX7_firstUnlike_32 rfl
theorem X7_firstUnlike_35 : iWp d mX7_firstUnlike 35 [.ref p, a1, a2, a3] st h Q = iWp d mX7_firstUnlike 36 [.ref p, a1, a2, a3] (.ref p :: st) h Q := w_aload_n dX7_firstUnlike_35 rfl
theorem X7_firstUnlike_36 : iWp d mX7_firstUnlike 36 [a0, a1, a2, a3] (.ref p :: st) h Q = iOb (iGet h p 7 0) (fun v => iWp d mX7_firstUnlike 39 [a0, a1, a2, a3] (v :: st) h Q) := w_getf dX7_firstUnlike_36 fF_7_9
theorem X7_firstUnlike_39 : iWp d mX7_firstUnlike 39 [a0, a1, a2, .int x] st h Q = iWp d mX7_firstUnlike 40 [a0, a1, a2, .int x] (.int x :: st) h Q := w_iload_n dX7_firstUnlike_39 rfl
theorem X7_firstUnlike_40 : iWp d mX7_firstUnlike 40 [a0, a1, a2, a3] (.int x :: .ref p :: st) h Q = iOb (iLdI h p x) (fun v => iWp d mX7_firstUnlike 41 [a0, a1, a2, a3] (.int v :: st) h Q) := w_iaload dX7_firstUnlike_40
theorem X7_firstUnlike_41 : iWp d mX7_firstUnlike 41 [a0, .ref p, a2, a3] st h Q = iWp d mX7_firstUnlike 42 [a0, .ref p, a2, a3] (.ref p :: st) h Q := w_aload_n dX7_firstUnlike_41 rfl
theorem X7_firstUnlike_41n : iWp d mX7_firstUnlike 41 [a0, .null, a2, a3] st h Q = iWp d mX7_firstUnlike 42 [a0, .null, a2, a3] (.null :: st) h Q := w_aload_nN dX7_firstUnlike_41 rfl
theorem X7_firstUnlike_42 : iWp d mX7_firstUnlike 42 [a0, a1, a2, a3] (.ref p :: st) h Q = iOb (iGet h p 7 0) (fun v => iWp d mX7_firstUnlike 45 [a0, a1, a2, a3] (v :: st) h Q) := w_getf dX7_firstUnlike_42 fF_7_9
theorem X7_firstUnlike_45 : iWp d mX7_firstUnlike 45 [a0, a1, a2, .int x] st h Q = iWp d mX7_firstUnlike 46 [a0, a1, a2, .int x] (.int x :: st) h Q := w_iload_n dX7_firstUnlike_45 rfl
theorem X7_firstUnlike_46 : iWp d mX7_firstUnlike 46 [a0, a1, a2, a3] (.int x :: .ref p :: st) h Q = iOb (iLdI h p x) (fun v => iWp d mX7_firstUnlike 47 [a0, a1, a2, a3] (.int v :: st) h Q) := w_iaload dX7_firstUnlike_46
theorem X7_firstUnlike_47 : iWp d mX7_firstUnlike 47 [a0, a1, a2, a3] (.int y :: .int x :: st) h Q = if x = y then iWp d mX7_firstUnlike 50 [a0, a1, a2, a3] st h Q else iWp d mX7_firstUnlike 80 [a0, a1, a2, a3] st h Q := w_icmp_ne dX7_firstUnlike_47 rfl
theorem X7_firstUnlike_50 : iWp d mX7_firstUnlike 50 [.ref p, a1, a2, a3] st h Q = iWp d mX7_firstUnlike 51 [.ref p, a1, a2, a3] (.ref p :: st) h Q := w_aload_n dX7_firstUnlike_50 rfl
theorem X7_firstUnlike_51 : iWp d mX7_firstUnlike 51 [a0, a1, a2, a3] (.ref p :: st) h Q = iOb (iGet h p 7 1) (fun v => iWp d mX7_firstUnlike 54 [a0, a1, a2, a3] (v :: st) h Q) := w_getf dX7_firstUnlike_51 fF_7_15
theorem X7_firstUnlike_54 : iWp d mX7_firstUnlike 54 [a0, a1, a2, .int x] st h Q = iWp d mX7_firstUnlike 55 [a0, a1, a2, .int x] (.int x :: st) h Q := w_iload_n dX7_firstUnlike_54 rfl
theorem X7_firstUnlike_55 : iWp d mX7_firstUnlike 55 [a0, a1, a2, a3] (.int x :: .ref p :: st) h Q = iOb (iLdI h p x) (fun v => iWp d mX7_firstUnlike 56 [a0, a1, a2, a3] (.int v :: st) h Q) := w_iaload dX7_firstUnlike_55
theorem X7_firstUnlike_56 : iWp d mX7_firstUnlike 56 [a0, .ref p, a2, a3] st h Q = iWp d mX7_firstUnlike 57 [a0, .ref p, a2, a3] (.ref p :: st) h Q := w_aload_n dX7_firstUnlike_56 rfl
theorem X7_firstUnlike_56n : iWp d mX7_firstUnlike 56 [a0, .null, a2, a3] st h Q = iWp d mX7_firstUnlike 57 [a0, .null, a2, a3] (.null :: st) h Q := w_aload_nN dX7_firstUnlike_56 rfl
theorem X7_firstUnlike_57 : iWp d mX7_firstUnlike 57 [a0, a1, a2, a3] (.ref p :: st) h Q = iOb (iGet h p 7 1) (fun v => iWp d mX7_firstUnlike 60 [a0, a1, a2, a3] (v :: st) h Q) := w_getf dX7_firstUnlike_57 fF_7_15
theorem X7_firstUnlike_60 : iWp d mX7_firstUnlike 60 [a0, a1, a2, .int x] st h Q = iWp d mX7_firstUnlike 61 [a0, a1, a2, .int x] (.int x :: st) h Q := w_iload_n dX7_firstUnlike_60 rfl
theorem X7_firstUnlike_61 : iWp d mX7_firstUnlike 61 [a0, a1, a2, a3] (.int x :: .ref p :: st) h Q = iOb (iLdI h p x) (fun v => iWp d mX7_firstUnlike 62 [a0, a1, a2, a3] (.int v :: st) h Q) := w_iaload dX7_firstUnlike_61
theorem X7_firstUnlike_62 : iWp d mX7_firstUnlike 62 [a0, a1, a2, a3] (.int y :: .int x :: st) h Q = if x = y then iWp d mX7_firstUnlike 65 [a0, a1, a2, a3] st h Q else iWp d mX7_firstUnlike 80 [a0, a1, a2, a3] st h Q := w_icmp_ne dX7_firstUnlike_62 rfl
theorem X7_firstUnlike_65 : iWp d mX7_firstUnlike 65 [.ref p, a1, a2, a3] st h Q = iWp d mX7_firstUnlike 66 [.ref p, a1, a2, a3] (.ref p :: st) h Q := w_aload_n dX7_firstUnlike_65 rfl
theorem X7_firstUnlike_66 : iWp d mX7_firstUnlike 66 [a0, a1, a2, a3] (.ref p :: st) h Q = iOb (iGet h p 7 2) (fun v => iWp d mX7_firstUnlike 69 [a0, a1, a2, a3] (v :: st) h Q) := w_getf dX7_firstUnlike_66 fF_7_18
theorem X7_firstUnlike_69 : iWp d mX7_firstUnlike 69 [a0, a1, a2, .int x] st h Q = iWp d mX7_firstUnlike 70 [a0, a1, a2, .int x] (.int x :: st) h Q := w_iload_n dX7_firstUnlike_69 rfl
theorem X7_firstUnlike_70 : iWp d mX7_firstUnlike 70 [a0, a1, a2, a3] (.int x :: .ref p :: st) h Q = iOb (iLdI h p x) (fun v => iWp d mX7_firstUnlike 71 [a0, a1, a2, a3] (.int v :: st) h Q) := w_iaload dX7_firstUnlike_70
theorem X7_firstUnlike_71 : iWp d mX7_firstUnlike 71 [a0, .ref p, a2, a3] st h Q = iWp d mX7_firstUnlike 72 [a0, .ref p, a2, a3] (.ref p :: st) h Q := w_aload_n dX7_firstUnlike_71 rfl
theorem X7_firstUnlike_71n : iWp d mX7_firstUnlike 71 [a0, .null, a2, a3] st h Q = iWp d mX7_firstUnlike 72 [a0, .null, a2, a3] (.null :: st) h Q := w_aload_nN dX7_firstUnlike_71 rfl
theorem X7_firstUnlike_72 : iWp d mX7_firstUnlike 72 [a0, a1, a2, a3] (.ref p :: st) h Q = iOb (iGet h p 7 2) (fun v => iWp d mX7_firstUnlike 75 [a0, a1, a2, a3] (v :: st) h Q) := w_getf dX7_firstUnlike_72 fF_7_18
theorem X7_firstUnlike_75 : iWp d mX7_firstUnlike 75 [a0, a1, a2, .int x] st h Q = iWp d mX7_firstUnlike 76 [a0, a1, a2, .int x] (.int x :: st) h Q := w_iload_n dX7_firstUnlike_75 rfl
theorem X7_firstUnlike_76 : iWp d mX7_firstUnlike 76 [a0, a1, a2, a3] (.int x :: .ref p :: st) h Q = iOb (iLdI h p x) (fun v => iWp d mX7_firstUnlike 77 [a0, a1, a2, a3] (.int v :: st) h Q) := w_iaload dX7_firstUnlike_76
theorem X7_firstUnlike_77 : iWp d mX7_firstUnlike 77 [a0, a1, a2, a3] (.int y :: .int x :: st) h Q = if x = y then iWp d mX7_firstUnlike 82 [a0, a1, a2, a3] st h Q else iWp d mX7_firstUnlike 80 [a0, a1, a2, a3] st h Q := w_icmp_eq dX7_firstUnlike_77 rfl
theorem X7_firstUnlike_80 : iWp d mX7_firstUnlike 80 [a0, a1, a2, .int x] st h Q = iWp d mX7_firstUnlike 81 [a0, a1, a2, .int x] (.int x :: st) h Q := w_iload_n dX7_firstUnlike_80 rfl
theorem X7_firstUnlike_81 : iWp d mX7_firstUnlike 81 [a0, a1, a2, a3] [.int x] h Q = Q (some (.int x)) h := w_ireti dX7_firstUnlike_81 rfl
theorem X7_firstUnlike_82 : iWp d mX7_firstUnlike 82 [a0, a1, a2, .int x] st h Q = iWp d mX7_firstUnlike 85 [a0, a1, iClr a2, .int (x + 1)] st h Q := w_iinc dX7_firstUnlike_82 rfl (Nat.le_of_ble_eq_true rfl) rfl
theorem X7_firstUnlike_85 : iWp d mX7_firstUnlike 85 [a0, a1, a2, a3] st h Q = iWp d mX7_firstUnlike 14 [a0, a1, a2, a3] st h Q := w_goto dX7_firstUnlike_85 rfl
theorem X7_firstUnlike_88 : iWp d mX7_firstUnlike 88 [a0, a1, a2, a3] st h Q = iWp d mX7_firstUnlike 89 [a0, a1, a2, a3] (.int (-1) :: st) h Q := w_iconst dX7_firstUnlike_88 rfl
theorem X7_firstUnlike_89 : iWp d mX7_firstUnlike 89 [a0, a1, a2, a3] [.int x] h Q = Q (some (.int x)) h := w_ireti dX7_firstUnlike_89 rfl
theorem I7_firstUnlike {Q : Option Value → iHp → Prop} (c0 : b0.category = 1) (hw : iWp 2 mX7_firstUnlike 0 [.ref p, b0, iU, iU] [] h Q) : ∃ r h1, iEv mX7_firstUnlike [.ref p, b0] h r h1 ∧ Q r h1 := iEv_of (by rfl) (by simp [iInit, cat_i, cat_r, cat_l, mX7_firstUnlike, c0]) hw
theorem J7_firstUnlike {r : Option Value} {h1 : iHp} (c0 : b0.category = 1) (hw : iWp 2 mX7_firstUnlike 0 [.ref p, b0, iU, iU] [] h (fun r' h' => r' = r ∧ h' = h1)) : iEv mX7_firstUnlike [.ref p, b0] h r h1 := iEv_ev (by rfl) (by simp [iInit, cat_i, cat_r, cat_l, mX7_firstUnlike, c0]) hw
theorem X7_firstWrong_0 : iWp d mX7_firstWrong 0 [a0, a1, a2, a3] st h Q = iWp d mX7_firstWrong 1 [a0, a1, a2, a3] (.int 0 :: st) h Q := w_iconst dX7_firstWrong_0 rfl
theorem X7_firstWrong_1 : iWp d mX7_firstWrong 1 [a0, a1, a2, a3] (.int x :: st) h Q = iWp d mX7_firstWrong 2 [a0, a1, iClr a2, .int x] st h Q := w_istore_n dX7_firstWrong_1 (Nat.le_of_ble_eq_true rfl) rfl
theorem X7_firstWrong_2 : iWp d mX7_firstWrong 2 [a0, a1, a2, .int x] st h Q = iWp d mX7_firstWrong 3 [a0, a1, a2, .int x] (.int x :: st) h Q := w_iload_n dX7_firstWrong_2 rfl
theorem X7_firstWrong_3 : iWp d mX7_firstWrong 3 [a0, a1, .int x, a3] st h Q = iWp d mX7_firstWrong 4 [a0, a1, .int x, a3] (.int x :: st) h Q := w_iload_n dX7_firstWrong_3 rfl
theorem X7_firstWrong_4 : iWp d mX7_firstWrong 4 [a0, a1, a2, a3] (.int y :: .int x :: st) h Q = if y ≤ x then iWp d mX7_firstWrong 37 [a0, a1, a2, a3] st h Q else iWp d mX7_firstWrong 7 [a0, a1, a2, a3] st h Q := w_icmp_ge dX7_firstWrong_4 rfl
theorem X7_firstWrong_7 : iWp d mX7_firstWrong 7 [.ref p, a1, a2, a3] st h Q = iWp d mX7_firstWrong 8 [.ref p, a1, a2, a3] (.ref p :: st) h Q := w_aload_n dX7_firstWrong_7 rfl
theorem X7_firstWrong_8 : iWp d mX7_firstWrong 8 [a0, a1, a2, .int x] st h Q = iWp d mX7_firstWrong 9 [a0, a1, a2, .int x] (.int x :: st) h Q := w_iload_n dX7_firstWrong_8 rfl
theorem X7_firstWrong_9 (he : iEv mX7_has [.ref p, .int x0] h (some (.int rv)) h2) (ho : iObj h p 7 = true) : iWp 4 mX7_firstWrong 9 [a0, a1, a2, a3] [.int x0, .ref p] h Q = iWp 4 mX7_firstWrong 12 [a0, a1, a2, a3] [.int rv] h2 Q := iWp_cV dX7_firstWrong_9 fK_7_31 rfl rfl ho (Nat.le_of_ble_eq_true rfl) (Nat.le_of_ble_eq_true rfl) rfl (Nat.le_of_ble_eq_true rfl) he rfl
theorem X7_firstWrong_12 : iWp d mX7_firstWrong 12 [a0, a1, a2, a3] (.int x :: st) h Q = if x = 0 then iWp d mX7_firstWrong 29 [a0, a1, a2, a3] st h Q else iWp d mX7_firstWrong 15 [a0, a1, a2, a3] st h Q := w_ifc_eq dX7_firstWrong_12 rfl
theorem X7_firstWrong_15 : iWp d mX7_firstWrong 15 [a0, .ref p, a2, a3] st h Q = iWp d mX7_firstWrong 16 [a0, .ref p, a2, a3] (.ref p :: st) h Q := w_aload_n dX7_firstWrong_15 rfl
theorem X7_firstWrong_15n : iWp d mX7_firstWrong 15 [a0, .null, a2, a3] st h Q = iWp d mX7_firstWrong 16 [a0, .null, a2, a3] (.null :: st) h Q := w_aload_nN dX7_firstWrong_15 rfl
theorem X7_firstWrong_16 : iWp d mX7_firstWrong 16 [a0, a1, a2, .int x] st h Q = iWp d mX7_firstWrong 17 [a0, a1, a2, .int x] (.int x :: st) h Q := w_iload_n dX7_firstWrong_16 rfl
theorem X7_firstWrong_17 (he : iEv mX5_intAt [.ref p, .int x0] h (some (.int rv)) h2) (ho : iObj h p 5 = true) : iWp 4 mX7_firstWrong 17 [a0, a1, a2, a3] [.int x0, .ref p] h Q = iWp 4 mX7_firstWrong 20 [a0, a1, a2, a3] [.int rv] h2 Q := iWp_cV dX7_firstWrong_17 fK_7_58 rfl rfl ho (Nat.le_of_ble_eq_true rfl) (Nat.le_of_ble_eq_true rfl) rfl (Nat.le_of_ble_eq_true rfl) he rfl
theorem X7_firstWrong_20 : iWp d mX7_firstWrong 20 [.ref p, a1, a2, a3] st h Q = iWp d mX7_firstWrong 21 [.ref p, a1, a2, a3] (.ref p :: st) h Q := w_aload_n dX7_firstWrong_20 rfl
theorem X7_firstWrong_21 : iWp d mX7_firstWrong 21 [a0, a1, a2, a3] (.ref p :: st) h Q = iOb (iGet h p 7 0) (fun v => iWp d mX7_firstWrong 24 [a0, a1, a2, a3] (v :: st) h Q) := w_getf dX7_firstWrong_21 fF_7_9
theorem X7_firstWrong_24 : iWp d mX7_firstWrong 24 [a0, a1, a2, .int x] st h Q = iWp d mX7_firstWrong 25 [a0, a1, a2, .int x] (.int x :: st) h Q := w_iload_n dX7_firstWrong_24 rfl
theorem X7_firstWrong_25 : iWp d mX7_firstWrong 25 [a0, a1, a2, a3] (.int x :: .ref p :: st) h Q = iOb (iLdI h p x) (fun v => iWp d mX7_firstWrong 26 [a0, a1, a2, a3] (.int v :: st) h Q) := w_iaload dX7_firstWrong_25
theorem X7_firstWrong_26 : iWp d mX7_firstWrong 26 [a0, a1, a2, a3] (.int y :: .int x :: st) h Q = if x = y then iWp d mX7_firstWrong 31 [a0, a1, a2, a3] st h Q else iWp d mX7_firstWrong 29 [a0, a1, a2, a3] st h Q := w_icmp_eq dX7_firstWrong_26 rfl
theorem X7_firstWrong_29 : iWp d mX7_firstWrong 29 [a0, a1, a2, .int x] st h Q = iWp d mX7_firstWrong 30 [a0, a1, a2, .int x] (.int x :: st) h Q := w_iload_n dX7_firstWrong_29 rfl
theorem X7_firstWrong_30 : iWp d mX7_firstWrong 30 [a0, a1, a2, a3] [.int x] h Q = Q (some (.int x)) h := w_ireti dX7_firstWrong_30 rfl
theorem X7_firstWrong_31 : iWp d mX7_firstWrong 31 [a0, a1, a2, .int x] st h Q = iWp d mX7_firstWrong 34 [a0, a1, iClr a2, .int (x + 1)] st h Q := w_iinc dX7_firstWrong_31 rfl (Nat.le_of_ble_eq_true rfl) rfl
theorem X7_firstWrong_34 : iWp d mX7_firstWrong 34 [a0, a1, a2, a3] st h Q = iWp d mX7_firstWrong 2 [a0, a1, a2, a3] st h Q := w_goto dX7_firstWrong_34 rfl
theorem X7_firstWrong_37 : iWp d mX7_firstWrong 37 [.ref p, a1, a2, a3] st h Q = iWp d mX7_firstWrong 38 [.ref p, a1, a2, a3] (.ref p :: st) h Q := w_aload_n dX7_firstWrong_37 rfl
theorem X7_firstWrong_38 : iWp d mX7_firstWrong 38 [a0, a1, a2, a3] (.ref p :: st) h Q = iOb (iGet h p 7 3) (fun v => iWp d mX7_firstWrong 41 [a0, a1, a2, a3] (v :: st) h Q) := w_getf dX7_firstWrong_38 fF_7_21
theorem X7_firstWrong_41 : iWp d mX7_firstWrong 41 [a0, a1, .int x, a3] st h Q = iWp d mX7_firstWrong 42 [a0, a1, .int x, a3] (.int x :: st) h Q := w_iload_n dX7_firstWrong_41 rfl
theorem X7_firstWrong_42 : iWp d mX7_firstWrong 42 [a0, a1, a2, a3] (.int y :: .int x :: st) h Q = if x ≤ y then iWp d mX7_firstWrong 49 [a0, a1, a2, a3] st h Q else iWp d mX7_firstWrong 45 [a0, a1, a2, a3] st h Q := w_icmp_le dX7_firstWrong_42 rfl
theorem X7_firstWrong_45 : iWp d mX7_firstWrong 45 [a0, a1, .int x, a3] st h Q = iWp d mX7_firstWrong 46 [a0, a1, .int x, a3] (.int x :: st) h Q := w_iload_n dX7_firstWrong_45 rfl
theorem X7_firstWrong_46 : iWp d mX7_firstWrong 46 [a0, a1, a2, a3] st h Q = iWp d mX7_firstWrong 50 [a0, a1, a2, a3] st h Q := w_goto dX7_firstWrong_46 rfl
theorem X7_firstWrong_49 : iWp d mX7_firstWrong 49 [a0, a1, a2, a3] st h Q = iWp d mX7_firstWrong 50 [a0, a1, a2, a3] (.int (-1) :: st) h Q := w_iconst dX7_firstWrong_49 rfl
theorem X7_firstWrong_50 : iWp d mX7_firstWrong 50 [a0, a1, a2, a3] [.int x] h Q = Q (some (.int x)) h := w_ireti dX7_firstWrong_50 rfl
theorem I7_firstWrong {Q : Option Value → iHp → Prop} (c0 : b0.category = 1) (hw : iWp 4 mX7_firstWrong 0 [.ref p, b0, .int x1, iU] [] h Q) : ∃ r h1, iEv mX7_firstWrong [.ref p, b0, .int x1] h r h1 ∧ Q r h1 := iEv_of (by rfl) (by simp [iInit, cat_i, cat_r, cat_l, mX7_firstWrong, c0]) hw
theorem J7_firstWrong {r : Option Value} {h1 : iHp} (c0 : b0.category = 1) (hw : iWp 4 mX7_firstWrong 0 [.ref p, b0, .int x1, iU] [] h (fun r' h' => r' = r ∧ h' = h1)) : iEv mX7_firstWrong [.ref p, b0, .int x1] h r h1 := iEv_ev (by rfl) (by simp [iInit, cat_i, cat_r, cat_l, mX7_firstWrong, c0]) hw
theorem X7_has_0 : iWp d mX7_has 0 [a0, .int x] st h Q = iWp d mX7_has 1 [a0, .int x] (.int x :: st) h Q := w_iload_n dX7_has_0 rfl
theorem X7_has_1 : iWp d mX7_has 1 [a0, a1] (.int x :: st) h Q = if x < 0 then iWp d mX7_has 16 [a0, a1] st h Q else iWp d mX7_has 4 [a0, a1] st h Q := w_ifc_lt dX7_has_1 rfl
theorem X7_has_4 : iWp d mX7_has 4 [a0, .int x] st h Q = iWp d mX7_has 5 [a0, .int x] (.int x :: st) h Q := w_iload_n dX7_has_4 rfl
theorem X7_has_5 : iWp d mX7_has 5 [.ref p, a1] st h Q = iWp d mX7_has 6 [.ref p, a1] (.ref p :: st) h Q := w_aload_n dX7_has_5 rfl
theorem X7_has_6 : iWp d mX7_has 6 [a0, a1] (.ref p :: st) h Q = iOb (iGet h p 7 3) (fun v => iWp d mX7_has 9 [a0, a1] (v :: st) h Q) := w_getf dX7_has_6 fF_7_21
theorem X7_has_9 : iWp d mX7_has 9 [a0, a1] (.int y :: .int x :: st) h Q = if y ≤ x then iWp d mX7_has 16 [a0, a1] st h Q else iWp d mX7_has 12 [a0, a1] st h Q := w_icmp_ge dX7_has_9 rfl
theorem X7_has_12 : iWp d mX7_has 12 [a0, a1] st h Q = iWp d mX7_has 13 [a0, a1] (.int 1 :: st) h Q := w_iconst dX7_has_12 rfl
theorem X7_has_13 : iWp d mX7_has 13 [a0, a1] st h Q = iWp d mX7_has 17 [a0, a1] st h Q := w_goto dX7_has_13 rfl
theorem X7_has_16 : iWp d mX7_has 16 [a0, a1] st h Q = iWp d mX7_has 17 [a0, a1] (.int 0 :: st) h Q := w_iconst dX7_has_16 rfl
theorem X7_has_17 : iWp d mX7_has 17 [a0, a1] [.int (iB b)] h Q = Q (some (.int (iB b))) h := w_iretb dX7_has_17 rfl
theorem X7_has_17z : iWp d mX7_has 17 [a0, a1] [.int 0] h Q = Q (some (.int (iB false))) h := w_iretb (bb := false) dX7_has_17 rfl
theorem X7_has_17o : iWp d mX7_has 17 [a0, a1] [.int 1] h Q = Q (some (.int (iB true))) h := w_iretb (bb := true) dX7_has_17 rfl
theorem I7_has {Q : Option Value → iHp → Prop} (hw : iWp 1 mX7_has 0 [.ref p, .int x0] [] h Q) : ∃ r h1, iEv mX7_has [.ref p, .int x0] h r h1 ∧ Q r h1 := iEv_of (by rfl) rfl hw
theorem J7_has {r : Option Value} {h1 : iHp} (hw : iWp 1 mX7_has 0 [.ref p, .int x0] [] h (fun r' h' => r' = r ∧ h' = h1)) : iEv mX7_has [.ref p, .int x0] h r h1 := iEv_ev (by rfl) rfl hw
theorem X7_init_0 : iWp d mX7_init 0 [.ref p] st h Q = iWp d mX7_init 1 [.ref p] (.ref p :: st) h Q := w_aload_n dX7_init_0 rfl
theorem X7_init_1 (hs : iSum st ≤ 8) : iWp d mX7_init 1 [a0] (.ref p :: st) h Q = iWp d mX7_init 4 [a0] st h Q := iWp_k dX7_init_1 rfl (fun _ _ => iObS hs fK_7_3 rfl rfl)
theorem X7_init_4 : iWp d mX7_init 4 [.ref p] st h Q = iWp d mX7_init 5 [.ref p] (.ref p :: st) h Q := w_aload_n dX7_init_4 rfl
theorem X7_init_5 : iWp d mX7_init 5 [a0] st h Q = iWp d mX7_init 7 [a0] (.int 80 :: st) h Q := w_bipush dX7_init_5 rfl
theorem X7_init_7 : iWp d mX7_init 7 [a0] (.int x :: st) h Q = iOb (iNewA h .int x) (fun g => iWp d mX7_init 9 [a0] (.ref h.2.1 :: st) g Q) := w_newa dX7_init_7
theorem X7_init_9 : iWp d mX7_init 9 [a0] (.ref q :: .ref p :: st) h Q = iOb (iPut h p 7 0 (.ref q)) (fun g => iWp d mX7_init 12 [a0] st g Q) := w_putf dX7_init_9 fF_7_9 ⟨rfl, (Or.inr ⟨rfl, rfl⟩)⟩
theorem X7_init_9n : iWp d mX7_init 9 [a0] (.null :: .ref p :: st) h Q = iOb (iPut h p 7 0 (.null)) (fun g => iWp d mX7_init 12 [a0] st g Q) := w_putf dX7_init_9 fF_7_9 ⟨rfl, (Or.inr ⟨rfl, rfl⟩)⟩
theorem X7_init_12 : iWp d mX7_init 12 [.ref p] st h Q = iWp d mX7_init 13 [.ref p] (.ref p :: st) h Q := w_aload_n dX7_init_12 rfl
theorem X7_init_13 : iWp d mX7_init 13 [a0] st h Q = iWp d mX7_init 15 [a0] (.int 80 :: st) h Q := w_bipush dX7_init_13 rfl
theorem X7_init_15 : iWp d mX7_init 15 [a0] (.int x :: st) h Q = iOb (iNewA h .int x) (fun g => iWp d mX7_init 17 [a0] (.ref h.2.1 :: st) g Q) := w_newa dX7_init_15
theorem X7_init_17 : iWp d mX7_init 17 [a0] (.ref q :: .ref p :: st) h Q = iOb (iPut h p 7 1 (.ref q)) (fun g => iWp d mX7_init 20 [a0] st g Q) := w_putf dX7_init_17 fF_7_15 ⟨rfl, (Or.inr ⟨rfl, rfl⟩)⟩
theorem X7_init_17n : iWp d mX7_init 17 [a0] (.null :: .ref p :: st) h Q = iOb (iPut h p 7 1 (.null)) (fun g => iWp d mX7_init 20 [a0] st g Q) := w_putf dX7_init_17 fF_7_15 ⟨rfl, (Or.inr ⟨rfl, rfl⟩)⟩
theorem X7_init_20 : iWp d mX7_init 20 [.ref p] st h Q = iWp d mX7_init 21 [.ref p] (.ref p :: st) h Q := w_aload_n dX7_init_20 rfl
theorem X7_init_21 : iWp d mX7_init 21 [a0] st h Q = iWp d mX7_init 23 [a0] (.int 80 :: st) h Q := w_bipush dX7_init_21 rfl
theorem X7_init_23 : iWp d mX7_init 23 [a0] (.int x :: st) h Q = iOb (iNewA h .int x) (fun g => iWp d mX7_init 25 [a0] (.ref h.2.1 :: st) g Q) := w_newa dX7_init_23
theorem X7_init_25 : iWp d mX7_init 25 [a0] (.ref q :: .ref p :: st) h Q = iOb (iPut h p 7 2 (.ref q)) (fun g => iWp d mX7_init 28 [a0] st g Q) := w_putf dX7_init_25 fF_7_18 ⟨rfl, (Or.inr ⟨rfl, rfl⟩)⟩
theorem X7_init_25n : iWp d mX7_init 25 [a0] (.null :: .ref p :: st) h Q = iOb (iPut h p 7 2 (.null)) (fun g => iWp d mX7_init 28 [a0] st g Q) := w_putf dX7_init_25 fF_7_18 ⟨rfl, (Or.inr ⟨rfl, rfl⟩)⟩
theorem X7_init_28 : iWp d mX7_init 28 [.ref p] st h Q = iWp d mX7_init 29 [.ref p] (.ref p :: st) h Q := w_aload_n dX7_init_28 rfl
theorem X7_init_29 : iWp d mX7_init 29 [a0] st h Q = iWp d mX7_init 30 [a0] (.int 0 :: st) h Q := w_iconst dX7_init_29 rfl
theorem X7_init_30 : iWp d mX7_init 30 [a0] (.int x :: .ref p :: st) h Q = iOb (iPut h p 7 3 (.int x)) (fun g => iWp d mX7_init 33 [a0] st g Q) := w_putf dX7_init_30 fF_7_21 ⟨rfl, (Or.inl rfl)⟩
theorem X7_init_33 : iWp d mX7_init 33 [a0] [] h Q = Q none h := w_ret dX7_init_33 rfl
theorem I7_init {Q : Option Value → iHp → Prop} (hw : iWp 1 mX7_init 0 [.ref p] [] h Q) : ∃ r h1, iEv mX7_init [.ref p] h r h1 ∧ Q r h1 := iEv_of (by rfl) rfl hw
theorem J7_init {r : Option Value} {h1 : iHp} (hw : iWp 1 mX7_init 0 [.ref p] [] h (fun r' h' => r' = r ∧ h' = h1)) : iEv mX7_init [.ref p] h r h1 := iEv_ev (by rfl) rfl hw
theorem X7_init__0 : iWp d mX7_init_ 0 [.ref p, a1] st h Q = iWp d mX7_init_ 1 [.ref p, a1] (.ref p :: st) h Q := w_aload_n dX7_init__0 rfl
theorem X7_init__1 (hs : iSum st ≤ 8) : iWp d mX7_init_ 1 [a0, a1] (.ref p :: st) h Q = iWp d mX7_init_ 4 [a0, a1] st h Q := iWp_k dX7_init__1 rfl (fun _ _ => iObS hs fK_7_3 rfl rfl)
theorem X7_init__4 : iWp d mX7_init_ 4 [.ref p, a1] st h Q = iWp d mX7_init_ 5 [.ref p, a1] (.ref p :: st) h Q := w_aload_n dX7_init__4 rfl
theorem X7_init__5 : iWp d mX7_init_ 5 [a0, a1] st h Q = iWp d mX7_init_ 7 [a0, a1] (.int 80 :: st) h Q := w_bipush dX7_init__5 rfl
theorem X7_init__7 : iWp d mX7_init_ 7 [a0, a1] (.int x :: st) h Q = iOb (iNewA h .int x) (fun g => iWp d mX7_init_ 9 [a0, a1] (.ref h.2.1 :: st) g Q) := w_newa dX7_init__7
theorem X7_init__9 : iWp d mX7_init_ 9 [a0, a1] (.ref q :: .ref p :: st) h Q = iOb (iPut h p 7 0 (.ref q)) (fun g => iWp d mX7_init_ 12 [a0, a1] st g Q) := w_putf dX7_init__9 fF_7_9 ⟨rfl, (Or.inr ⟨rfl, rfl⟩)⟩
theorem X7_init__9n : iWp d mX7_init_ 9 [a0, a1] (.null :: .ref p :: st) h Q = iOb (iPut h p 7 0 (.null)) (fun g => iWp d mX7_init_ 12 [a0, a1] st g Q) := w_putf dX7_init__9 fF_7_9 ⟨rfl, (Or.inr ⟨rfl, rfl⟩)⟩
theorem X7_init__12 : iWp d mX7_init_ 12 [.ref p, a1] st h Q = iWp d mX7_init_ 13 [.ref p, a1] (.ref p :: st) h Q := w_aload_n dX7_init__12 rfl
theorem X7_init__13 : iWp d mX7_init_ 13 [a0, a1] st h Q = iWp d mX7_init_ 15 [a0, a1] (.int 80 :: st) h Q := w_bipush dX7_init__13 rfl
theorem X7_init__15 : iWp d mX7_init_ 15 [a0, a1] (.int x :: st) h Q = iOb (iNewA h .int x) (fun g => iWp d mX7_init_ 17 [a0, a1] (.ref h.2.1 :: st) g Q) := w_newa dX7_init__15
theorem X7_init__17 : iWp d mX7_init_ 17 [a0, a1] (.ref q :: .ref p :: st) h Q = iOb (iPut h p 7 1 (.ref q)) (fun g => iWp d mX7_init_ 20 [a0, a1] st g Q) := w_putf dX7_init__17 fF_7_15 ⟨rfl, (Or.inr ⟨rfl, rfl⟩)⟩
theorem X7_init__17n : iWp d mX7_init_ 17 [a0, a1] (.null :: .ref p :: st) h Q = iOb (iPut h p 7 1 (.null)) (fun g => iWp d mX7_init_ 20 [a0, a1] st g Q) := w_putf dX7_init__17 fF_7_15 ⟨rfl, (Or.inr ⟨rfl, rfl⟩)⟩
theorem X7_init__20 : iWp d mX7_init_ 20 [.ref p, a1] st h Q = iWp d mX7_init_ 21 [.ref p, a1] (.ref p :: st) h Q := w_aload_n dX7_init__20 rfl
theorem X7_init__21 : iWp d mX7_init_ 21 [a0, a1] st h Q = iWp d mX7_init_ 23 [a0, a1] (.int 80 :: st) h Q := w_bipush dX7_init__21 rfl
theorem X7_init__23 : iWp d mX7_init_ 23 [a0, a1] (.int x :: st) h Q = iOb (iNewA h .int x) (fun g => iWp d mX7_init_ 25 [a0, a1] (.ref h.2.1 :: st) g Q) := w_newa dX7_init__23
theorem X7_init__25 : iWp d mX7_init_ 25 [a0, a1] (.ref q :: .ref p :: st) h Q = iOb (iPut h p 7 2 (.ref q)) (fun g => iWp d mX7_init_ 28 [a0, a1] st g Q) := w_putf dX7_init__25 fF_7_18 ⟨rfl, (Or.inr ⟨rfl, rfl⟩)⟩
theorem X7_init__25n : iWp d mX7_init_ 25 [a0, a1] (.null :: .ref p :: st) h Q = iOb (iPut h p 7 2 (.null)) (fun g => iWp d mX7_init_ 28 [a0, a1] st g Q) := w_putf dX7_init__25 fF_7_18 ⟨rfl, (Or.inr ⟨rfl, rfl⟩)⟩
theorem X7_init__28 : iWp d mX7_init_ 28 [.ref p, a1] st h Q = iWp d mX7_init_ 29 [.ref p, a1] (.ref p :: st) h Q := w_aload_n dX7_init__28 rfl
theorem X7_init__29 : iWp d mX7_init_ 29 [a0, a1] st h Q = iWp d mX7_init_ 30 [a0, a1] (.int 0 :: st) h Q := w_iconst dX7_init__29 rfl
theorem X7_init__30 : iWp d mX7_init_ 30 [a0, a1] (.int x :: .ref p :: st) h Q = iOb (iPut h p 7 3 (.int x)) (fun g => iWp d mX7_init_ 33 [a0, a1] st g Q) := w_putf dX7_init__30 fF_7_21 ⟨rfl, (Or.inl rfl)⟩
theorem X7_init__33 : iWp d mX7_init_ 33 [a0, .ref p] st h Q = iWp d mX7_init_ 34 [a0, .ref p] (.ref p :: st) h Q := w_aload_n dX7_init__33 rfl
theorem X7_init__33n : iWp d mX7_init_ 33 [a0, .null] st h Q = iWp d mX7_init_ 34 [a0, .null] (.null :: st) h Q := w_aload_nN dX7_init__33 rfl
theorem X7_init__34 : iWp d mX7_init_ 34 [a0, a1] (.ref p :: st) h Q = iOb (iGet h p 7 0) (fun v => iWp d mX7_init_ 37 [a0, a1] (v :: st) h Q) := w_getf dX7_init__34 fF_7_9
theorem X7_init__37 : iWp d mX7_init_ 37 [a0, a1] st h Q = iWp d mX7_init_ 38 [a0, a1] (.int 0 :: st) h Q := w_iconst dX7_init__37 rfl
theorem X7_init__38 : iWp d mX7_init_ 38 [.ref p, a1] st h Q = iWp d mX7_init_ 39 [.ref p, a1] (.ref p :: st) h Q := w_aload_n dX7_init__38 rfl
theorem X7_init__39 : iWp d mX7_init_ 39 [a0, a1] (.ref p :: st) h Q = iOb (iGet h p 7 0) (fun v => iWp d mX7_init_ 42 [a0, a1] (v :: st) h Q) := w_getf dX7_init__39 fF_7_9
theorem X7_init__42 : iWp d mX7_init_ 42 [a0, a1] st h Q = iWp d mX7_init_ 43 [a0, a1] (.int 0 :: st) h Q := w_iconst dX7_init__42 rfl
theorem X7_init__43 : iWp d mX7_init_ 43 [a0, a1] st h Q = iWp d mX7_init_ 45 [a0, a1] (.int 80 :: st) h Q := w_bipush dX7_init__43 rfl
theorem X7_init__45 (hs : iSum st ≤ 8) : iWp d mX7_init_ 45 [a0, a1] (.int z :: .int y :: .ref q :: .int x :: .ref p :: st) h Q = iOb (iCpy h p x q y z) (fun g => iWp d mX7_init_ 48 [a0, a1] st g Q) := w_cpy dX7_init__45 hs fK_7_25 rfl rfl
theorem X7_init__48 : iWp d mX7_init_ 48 [a0, .ref p] st h Q = iWp d mX7_init_ 49 [a0, .ref p] (.ref p :: st) h Q := w_aload_n dX7_init__48 rfl
theorem X7_init__48n : iWp d mX7_init_ 48 [a0, .null] st h Q = iWp d mX7_init_ 49 [a0, .null] (.null :: st) h Q := w_aload_nN dX7_init__48 rfl
theorem X7_init__49 : iWp d mX7_init_ 49 [a0, a1] (.ref p :: st) h Q = iOb (iGet h p 7 1) (fun v => iWp d mX7_init_ 52 [a0, a1] (v :: st) h Q) := w_getf dX7_init__49 fF_7_15
theorem X7_init__52 : iWp d mX7_init_ 52 [a0, a1] st h Q = iWp d mX7_init_ 53 [a0, a1] (.int 0 :: st) h Q := w_iconst dX7_init__52 rfl
theorem X7_init__53 : iWp d mX7_init_ 53 [.ref p, a1] st h Q = iWp d mX7_init_ 54 [.ref p, a1] (.ref p :: st) h Q := w_aload_n dX7_init__53 rfl
theorem X7_init__54 : iWp d mX7_init_ 54 [a0, a1] (.ref p :: st) h Q = iOb (iGet h p 7 1) (fun v => iWp d mX7_init_ 57 [a0, a1] (v :: st) h Q) := w_getf dX7_init__54 fF_7_15
theorem X7_init__57 : iWp d mX7_init_ 57 [a0, a1] st h Q = iWp d mX7_init_ 58 [a0, a1] (.int 0 :: st) h Q := w_iconst dX7_init__57 rfl
theorem X7_init__58 : iWp d mX7_init_ 58 [a0, a1] st h Q = iWp d mX7_init_ 60 [a0, a1] (.int 80 :: st) h Q := w_bipush dX7_init__58 rfl
theorem X7_init__60 (hs : iSum st ≤ 8) : iWp d mX7_init_ 60 [a0, a1] (.int z :: .int y :: .ref q :: .int x :: .ref p :: st) h Q = iOb (iCpy h p x q y z) (fun g => iWp d mX7_init_ 63 [a0, a1] st g Q) := w_cpy dX7_init__60 hs fK_7_25 rfl rfl
theorem X7_init__63 : iWp d mX7_init_ 63 [a0, .ref p] st h Q = iWp d mX7_init_ 64 [a0, .ref p] (.ref p :: st) h Q := w_aload_n dX7_init__63 rfl
theorem X7_init__63n : iWp d mX7_init_ 63 [a0, .null] st h Q = iWp d mX7_init_ 64 [a0, .null] (.null :: st) h Q := w_aload_nN dX7_init__63 rfl
theorem X7_init__64 : iWp d mX7_init_ 64 [a0, a1] (.ref p :: st) h Q = iOb (iGet h p 7 2) (fun v => iWp d mX7_init_ 67 [a0, a1] (v :: st) h Q) := w_getf dX7_init__64 fF_7_18
theorem X7_init__67 : iWp d mX7_init_ 67 [a0, a1] st h Q = iWp d mX7_init_ 68 [a0, a1] (.int 0 :: st) h Q := w_iconst dX7_init__67 rfl
theorem X7_init__68 : iWp d mX7_init_ 68 [.ref p, a1] st h Q = iWp d mX7_init_ 69 [.ref p, a1] (.ref p :: st) h Q := w_aload_n dX7_init__68 rfl
theorem X7_init__69 : iWp d mX7_init_ 69 [a0, a1] (.ref p :: st) h Q = iOb (iGet h p 7 2) (fun v => iWp d mX7_init_ 72 [a0, a1] (v :: st) h Q) := w_getf dX7_init__69 fF_7_18
theorem X7_init__72 : iWp d mX7_init_ 72 [a0, a1] st h Q = iWp d mX7_init_ 73 [a0, a1] (.int 0 :: st) h Q := w_iconst dX7_init__72 rfl
theorem X7_init__73 : iWp d mX7_init_ 73 [a0, a1] st h Q = iWp d mX7_init_ 75 [a0, a1] (.int 80 :: st) h Q := w_bipush dX7_init__73 rfl
theorem X7_init__75 (hs : iSum st ≤ 8) : iWp d mX7_init_ 75 [a0, a1] (.int z :: .int y :: .ref q :: .int x :: .ref p :: st) h Q = iOb (iCpy h p x q y z) (fun g => iWp d mX7_init_ 78 [a0, a1] st g Q) := w_cpy dX7_init__75 hs fK_7_25 rfl rfl
theorem X7_init__78 : iWp d mX7_init_ 78 [.ref p, a1] st h Q = iWp d mX7_init_ 79 [.ref p, a1] (.ref p :: st) h Q := w_aload_n dX7_init__78 rfl
theorem X7_init__79 : iWp d mX7_init_ 79 [a0, .ref p] st h Q = iWp d mX7_init_ 80 [a0, .ref p] (.ref p :: st) h Q := w_aload_n dX7_init__79 rfl
theorem X7_init__79n : iWp d mX7_init_ 79 [a0, .null] st h Q = iWp d mX7_init_ 80 [a0, .null] (.null :: st) h Q := w_aload_nN dX7_init__79 rfl
theorem X7_init__80 : iWp d mX7_init_ 80 [a0, a1] (.ref p :: st) h Q = iOb (iGet h p 7 3) (fun v => iWp d mX7_init_ 83 [a0, a1] (v :: st) h Q) := w_getf dX7_init__80 fF_7_21
theorem X7_init__83 : iWp d mX7_init_ 83 [a0, a1] (.int x :: .ref p :: st) h Q = iOb (iPut h p 7 3 (.int x)) (fun g => iWp d mX7_init_ 86 [a0, a1] st g Q) := w_putf dX7_init__83 fF_7_21 ⟨rfl, (Or.inl rfl)⟩
theorem X7_init__86 : iWp d mX7_init_ 86 [a0, a1] [] h Q = Q none h := w_ret dX7_init__86 rfl
theorem I7_init_ {Q : Option Value → iHp → Prop} (c0 : b0.category = 1) (hw : iWp 1 mX7_init_ 0 [.ref p, b0] [] h Q) : ∃ r h1, iEv mX7_init_ [.ref p, b0] h r h1 ∧ Q r h1 := iEv_of (by rfl) (by simp [iInit, cat_i, cat_r, cat_l, mX7_init_, c0]) hw
theorem J7_init_ {r : Option Value} {h1 : iHp} (c0 : b0.category = 1) (hw : iWp 1 mX7_init_ 0 [.ref p, b0] [] h (fun r' h' => r' = r ∧ h' = h1)) : iEv mX7_init_ [.ref p, b0] h r h1 := iEv_ev (by rfl) (by simp [iInit, cat_i, cat_r, cat_l, mX7_init_, c0]) hw
theorem X7_insert_0 : iWp d mX7_insert 0 [a0, .int x, a2, a3, a4, a5] st h Q = iWp d mX7_insert 1 [a0, .int x, a2, a3, a4, a5] (.int x :: st) h Q := w_iload_n dX7_insert_0 rfl
theorem X7_insert_1 : iWp d mX7_insert 1 [a0, a1, a2, a3, a4, a5] (.int x :: st) h Q = if x < 0 then iWp d mX7_insert 21 [a0, a1, a2, a3, a4, a5] st h Q else iWp d mX7_insert 4 [a0, a1, a2, a3, a4, a5] st h Q := w_ifc_lt dX7_insert_1 rfl
theorem X7_insert_4 : iWp d mX7_insert 4 [a0, .int x, a2, a3, a4, a5] st h Q = iWp d mX7_insert 5 [a0, .int x, a2, a3, a4, a5] (.int x :: st) h Q := w_iload_n dX7_insert_4 rfl
theorem X7_insert_5 : iWp d mX7_insert 5 [.ref p, a1, a2, a3, a4, a5] st h Q = iWp d mX7_insert 6 [.ref p, a1, a2, a3, a4, a5] (.ref p :: st) h Q := w_aload_n dX7_insert_5 rfl
theorem X7_insert_6 : iWp d mX7_insert 6 [a0, a1, a2, a3, a4, a5] (.ref p :: st) h Q = iOb (iGet h p 7 3) (fun v => iWp d mX7_insert 9 [a0, a1, a2, a3, a4, a5] (v :: st) h Q) := w_getf dX7_insert_6 fF_7_21
theorem X7_insert_9 : iWp d mX7_insert 9 [a0, a1, a2, a3, a4, a5] (.int y :: .int x :: st) h Q = if y < x then iWp d mX7_insert 21 [a0, a1, a2, a3, a4, a5] st h Q else iWp d mX7_insert 12 [a0, a1, a2, a3, a4, a5] st h Q := w_icmp_gt dX7_insert_9 rfl
theorem X7_insert_12 : iWp d mX7_insert 12 [.ref p, a1, a2, a3, a4, a5] st h Q = iWp d mX7_insert 13 [.ref p, a1, a2, a3, a4, a5] (.ref p :: st) h Q := w_aload_n dX7_insert_12 rfl
theorem X7_insert_13 : iWp d mX7_insert 13 [a0, a1, a2, a3, a4, a5] (.ref p :: st) h Q = iOb (iGet h p 7 3) (fun v => iWp d mX7_insert 16 [a0, a1, a2, a3, a4, a5] (v :: st) h Q) := w_getf dX7_insert_13 fF_7_21
theorem X7_insert_16 : iWp d mX7_insert 16 [a0, a1, a2, a3, a4, a5] st h Q = iWp d mX7_insert 18 [a0, a1, a2, a3, a4, a5] (.int 80 :: st) h Q := w_bipush dX7_insert_16 rfl
theorem X7_insert_18 : iWp d mX7_insert 18 [a0, a1, a2, a3, a4, a5] (.int y :: .int x :: st) h Q = if x < y then iWp d mX7_insert 22 [a0, a1, a2, a3, a4, a5] st h Q else iWp d mX7_insert 21 [a0, a1, a2, a3, a4, a5] st h Q := w_icmp_lt dX7_insert_18 rfl
theorem X7_insert_21 : iWp d mX7_insert 21 [a0, a1, a2, a3, a4, a5] [] h Q = Q none h := w_ret dX7_insert_21 rfl
theorem X7_insert_22 : iWp d mX7_insert 22 [.ref p, a1, a2, a3, a4, a5] st h Q = iWp d mX7_insert 23 [.ref p, a1, a2, a3, a4, a5] (.ref p :: st) h Q := w_aload_n dX7_insert_22 rfl
theorem X7_insert_23 : iWp d mX7_insert 23 [a0, a1, a2, a3, a4, a5] (.ref p :: st) h Q = iOb (iGet h p 7 3) (fun v => iWp d mX7_insert 26 [a0, a1, a2, a3, a4, a5] (v :: st) h Q) := w_getf dX7_insert_23 fF_7_21
theorem X7_insert_26 : iWp d mX7_insert 26 [a0, .int x, a2, a3, a4, a5] st h Q = iWp d mX7_insert 27 [a0, .int x, a2, a3, a4, a5] (.int x :: st) h Q := w_iload_n dX7_insert_26 rfl
theorem X7_insert_27 : iWp d mX7_insert 27 [a0, a1, a2, a3, a4, a5] (.int y :: .int x :: st) h Q = iWp d mX7_insert 28 [a0, a1, a2, a3, a4, a5] (.int (x - y) :: st) h Q := w_isub dX7_insert_27
theorem X7_insert_28 : iWp d mX7_insert 28 [a0, a1, a2, a3, a4, a5] (.int x :: st) h Q = iWp d mX7_insert 30 [a0, a1, a2, a3, iClr a4, .int x] st h Q := w_istore dX7_insert_28 (Nat.le_of_ble_eq_true rfl) rfl
theorem X7_insert_30 : iWp d mX7_insert 30 [.ref p, a1, a2, a3, a4, a5] st h Q = iWp d mX7_insert 31 [.ref p, a1, a2, a3, a4, a5] (.ref p :: st) h Q := w_aload_n dX7_insert_30 rfl
theorem X7_insert_31 : iWp d mX7_insert 31 [a0, a1, a2, a3, a4, a5] (.ref p :: st) h Q = iOb (iGet h p 7 0) (fun v => iWp d mX7_insert 34 [a0, a1, a2, a3, a4, a5] (v :: st) h Q) := w_getf dX7_insert_31 fF_7_9
theorem X7_insert_34 : iWp d mX7_insert 34 [a0, .int x, a2, a3, a4, a5] st h Q = iWp d mX7_insert 35 [a0, .int x, a2, a3, a4, a5] (.int x :: st) h Q := w_iload_n dX7_insert_34 rfl
theorem X7_insert_35 : iWp d mX7_insert 35 [.ref p, a1, a2, a3, a4, a5] st h Q = iWp d mX7_insert 36 [.ref p, a1, a2, a3, a4, a5] (.ref p :: st) h Q := w_aload_n dX7_insert_35 rfl
theorem X7_insert_36 : iWp d mX7_insert 36 [a0, a1, a2, a3, a4, a5] (.ref p :: st) h Q = iOb (iGet h p 7 0) (fun v => iWp d mX7_insert 39 [a0, a1, a2, a3, a4, a5] (v :: st) h Q) := w_getf dX7_insert_36 fF_7_9
theorem X7_insert_39 : iWp d mX7_insert 39 [a0, .int x, a2, a3, a4, a5] st h Q = iWp d mX7_insert 40 [a0, .int x, a2, a3, a4, a5] (.int x :: st) h Q := w_iload_n dX7_insert_39 rfl
theorem X7_insert_40 : iWp d mX7_insert 40 [a0, a1, a2, a3, a4, a5] st h Q = iWp d mX7_insert 41 [a0, a1, a2, a3, a4, a5] (.int 1 :: st) h Q := w_iconst dX7_insert_40 rfl
theorem X7_insert_41 : iWp d mX7_insert 41 [a0, a1, a2, a3, a4, a5] (.int y :: .int x :: st) h Q = iWp d mX7_insert 42 [a0, a1, a2, a3, a4, a5] (.int (x + y) :: st) h Q := w_iadd dX7_insert_41
theorem X7_insert_42 : iWp d mX7_insert 42 [a0, a1, a2, a3, a4, .int x] st h Q = iWp d mX7_insert 44 [a0, a1, a2, a3, a4, .int x] (.int x :: st) h Q := w_iload dX7_insert_42 rfl
theorem X7_insert_44 (hs : iSum st ≤ 8) : iWp d mX7_insert 44 [a0, a1, a2, a3, a4, a5] (.int z :: .int y :: .ref q :: .int x :: .ref p :: st) h Q = iOb (iCpy h p x q y z) (fun g => iWp d mX7_insert 47 [a0, a1, a2, a3, a4, a5] st g Q) := w_cpy dX7_insert_44 hs fK_7_25 rfl rfl
theorem X7_insert_47 : iWp d mX7_insert 47 [.ref p, a1, a2, a3, a4, a5] st h Q = iWp d mX7_insert 48 [.ref p, a1, a2, a3, a4, a5] (.ref p :: st) h Q := w_aload_n dX7_insert_47 rfl
theorem X7_insert_48 : iWp d mX7_insert 48 [a0, a1, a2, a3, a4, a5] (.ref p :: st) h Q = iOb (iGet h p 7 1) (fun v => iWp d mX7_insert 51 [a0, a1, a2, a3, a4, a5] (v :: st) h Q) := w_getf dX7_insert_48 fF_7_15
theorem X7_insert_51 : iWp d mX7_insert 51 [a0, .int x, a2, a3, a4, a5] st h Q = iWp d mX7_insert 52 [a0, .int x, a2, a3, a4, a5] (.int x :: st) h Q := w_iload_n dX7_insert_51 rfl
theorem X7_insert_52 : iWp d mX7_insert 52 [.ref p, a1, a2, a3, a4, a5] st h Q = iWp d mX7_insert 53 [.ref p, a1, a2, a3, a4, a5] (.ref p :: st) h Q := w_aload_n dX7_insert_52 rfl
theorem X7_insert_53 : iWp d mX7_insert 53 [a0, a1, a2, a3, a4, a5] (.ref p :: st) h Q = iOb (iGet h p 7 1) (fun v => iWp d mX7_insert 56 [a0, a1, a2, a3, a4, a5] (v :: st) h Q) := w_getf dX7_insert_53 fF_7_15
theorem X7_insert_56 : iWp d mX7_insert 56 [a0, .int x, a2, a3, a4, a5] st h Q = iWp d mX7_insert 57 [a0, .int x, a2, a3, a4, a5] (.int x :: st) h Q := w_iload_n dX7_insert_56 rfl
theorem X7_insert_57 : iWp d mX7_insert 57 [a0, a1, a2, a3, a4, a5] st h Q = iWp d mX7_insert 58 [a0, a1, a2, a3, a4, a5] (.int 1 :: st) h Q := w_iconst dX7_insert_57 rfl
theorem X7_insert_58 : iWp d mX7_insert 58 [a0, a1, a2, a3, a4, a5] (.int y :: .int x :: st) h Q = iWp d mX7_insert 59 [a0, a1, a2, a3, a4, a5] (.int (x + y) :: st) h Q := w_iadd dX7_insert_58
theorem X7_insert_59 : iWp d mX7_insert 59 [a0, a1, a2, a3, a4, .int x] st h Q = iWp d mX7_insert 61 [a0, a1, a2, a3, a4, .int x] (.int x :: st) h Q := w_iload dX7_insert_59 rfl
theorem X7_insert_61 (hs : iSum st ≤ 8) : iWp d mX7_insert 61 [a0, a1, a2, a3, a4, a5] (.int z :: .int y :: .ref q :: .int x :: .ref p :: st) h Q = iOb (iCpy h p x q y z) (fun g => iWp d mX7_insert 64 [a0, a1, a2, a3, a4, a5] st g Q) := w_cpy dX7_insert_61 hs fK_7_25 rfl rfl
theorem X7_insert_64 : iWp d mX7_insert 64 [.ref p, a1, a2, a3, a4, a5] st h Q = iWp d mX7_insert 65 [.ref p, a1, a2, a3, a4, a5] (.ref p :: st) h Q := w_aload_n dX7_insert_64 rfl
theorem X7_insert_65 : iWp d mX7_insert 65 [a0, a1, a2, a3, a4, a5] (.ref p :: st) h Q = iOb (iGet h p 7 2) (fun v => iWp d mX7_insert 68 [a0, a1, a2, a3, a4, a5] (v :: st) h Q) := w_getf dX7_insert_65 fF_7_18
theorem X7_insert_68 : iWp d mX7_insert 68 [a0, .int x, a2, a3, a4, a5] st h Q = iWp d mX7_insert 69 [a0, .int x, a2, a3, a4, a5] (.int x :: st) h Q := w_iload_n dX7_insert_68 rfl
theorem X7_insert_69 : iWp d mX7_insert 69 [.ref p, a1, a2, a3, a4, a5] st h Q = iWp d mX7_insert 70 [.ref p, a1, a2, a3, a4, a5] (.ref p :: st) h Q := w_aload_n dX7_insert_69 rfl
theorem X7_insert_70 : iWp d mX7_insert 70 [a0, a1, a2, a3, a4, a5] (.ref p :: st) h Q = iOb (iGet h p 7 2) (fun v => iWp d mX7_insert 73 [a0, a1, a2, a3, a4, a5] (v :: st) h Q) := w_getf dX7_insert_70 fF_7_18
theorem X7_insert_73 : iWp d mX7_insert 73 [a0, .int x, a2, a3, a4, a5] st h Q = iWp d mX7_insert 74 [a0, .int x, a2, a3, a4, a5] (.int x :: st) h Q := w_iload_n dX7_insert_73 rfl
theorem X7_insert_74 : iWp d mX7_insert 74 [a0, a1, a2, a3, a4, a5] st h Q = iWp d mX7_insert 75 [a0, a1, a2, a3, a4, a5] (.int 1 :: st) h Q := w_iconst dX7_insert_74 rfl
theorem X7_insert_75 : iWp d mX7_insert 75 [a0, a1, a2, a3, a4, a5] (.int y :: .int x :: st) h Q = iWp d mX7_insert 76 [a0, a1, a2, a3, a4, a5] (.int (x + y) :: st) h Q := w_iadd dX7_insert_75
theorem X7_insert_76 : iWp d mX7_insert 76 [a0, a1, a2, a3, a4, .int x] st h Q = iWp d mX7_insert 78 [a0, a1, a2, a3, a4, .int x] (.int x :: st) h Q := w_iload dX7_insert_76 rfl
theorem X7_insert_78 (hs : iSum st ≤ 8) : iWp d mX7_insert 78 [a0, a1, a2, a3, a4, a5] (.int z :: .int y :: .ref q :: .int x :: .ref p :: st) h Q = iOb (iCpy h p x q y z) (fun g => iWp d mX7_insert 81 [a0, a1, a2, a3, a4, a5] st g Q) := w_cpy dX7_insert_78 hs fK_7_25 rfl rfl
theorem X7_insert_81 : iWp d mX7_insert 81 [.ref p, a1, a2, a3, a4, a5] st h Q = iWp d mX7_insert 82 [.ref p, a1, a2, a3, a4, a5] (.ref p :: st) h Q := w_aload_n dX7_insert_81 rfl
theorem X7_insert_82 : iWp d mX7_insert 82 [a0, a1, a2, a3, a4, a5] (.ref p :: st) h Q = iOb (iGet h p 7 0) (fun v => iWp d mX7_insert 85 [a0, a1, a2, a3, a4, a5] (v :: st) h Q) := w_getf dX7_insert_82 fF_7_9
theorem X7_insert_85 : iWp d mX7_insert 85 [a0, .int x, a2, a3, a4, a5] st h Q = iWp d mX7_insert 86 [a0, .int x, a2, a3, a4, a5] (.int x :: st) h Q := w_iload_n dX7_insert_85 rfl
theorem X7_insert_86 : iWp d mX7_insert 86 [a0, a1, .int x, a3, a4, a5] st h Q = iWp d mX7_insert 87 [a0, a1, .int x, a3, a4, a5] (.int x :: st) h Q := w_iload_n dX7_insert_86 rfl
theorem X7_insert_87 : iWp d mX7_insert 87 [a0, a1, a2, a3, a4, a5] (.int y :: .int x :: .ref p :: st) h Q = iOb (iStI h p x y) (fun g => iWp d mX7_insert 88 [a0, a1, a2, a3, a4, a5] st g Q) := w_iastore dX7_insert_87
theorem X7_insert_88 : iWp d mX7_insert 88 [.ref p, a1, a2, a3, a4, a5] st h Q = iWp d mX7_insert 89 [.ref p, a1, a2, a3, a4, a5] (.ref p :: st) h Q := w_aload_n dX7_insert_88 rfl
theorem X7_insert_89 : iWp d mX7_insert 89 [a0, a1, a2, a3, a4, a5] (.ref p :: st) h Q = iOb (iGet h p 7 1) (fun v => iWp d mX7_insert 92 [a0, a1, a2, a3, a4, a5] (v :: st) h Q) := w_getf dX7_insert_89 fF_7_15
theorem X7_insert_92 : iWp d mX7_insert 92 [a0, .int x, a2, a3, a4, a5] st h Q = iWp d mX7_insert 93 [a0, .int x, a2, a3, a4, a5] (.int x :: st) h Q := w_iload_n dX7_insert_92 rfl
theorem X7_insert_93 : iWp d mX7_insert 93 [a0, a1, a2, .int x, a4, a5] st h Q = iWp d mX7_insert 94 [a0, a1, a2, .int x, a4, a5] (.int x :: st) h Q := w_iload_n dX7_insert_93 rfl
theorem X7_insert_94 : iWp d mX7_insert 94 [a0, a1, a2, a3, a4, a5] (.int y :: .int x :: .ref p :: st) h Q = iOb (iStI h p x y) (fun g => iWp d mX7_insert 95 [a0, a1, a2, a3, a4, a5] st g Q) := w_iastore dX7_insert_94
theorem X7_insert_95 : iWp d mX7_insert 95 [.ref p, a1, a2, a3, a4, a5] st h Q = iWp d mX7_insert 96 [.ref p, a1, a2, a3, a4, a5] (.ref p :: st) h Q := w_aload_n dX7_insert_95 rfl
theorem X7_insert_96 : iWp d mX7_insert 96 [a0, a1, a2, a3, a4, a5] (.ref p :: st) h Q = iOb (iGet h p 7 2) (fun v => iWp d mX7_insert 99 [a0, a1, a2, a3, a4, a5] (v :: st) h Q) := w_getf dX7_insert_96 fF_7_18
theorem X7_insert_99 : iWp d mX7_insert 99 [a0, .int x, a2, a3, a4, a5] st h Q = iWp d mX7_insert 100 [a0, .int x, a2, a3, a4, a5] (.int x :: st) h Q := w_iload_n dX7_insert_99 rfl
theorem X7_insert_100 : iWp d mX7_insert 100 [a0, a1, a2, a3, .int x, a5] st h Q = iWp d mX7_insert 102 [a0, a1, a2, a3, .int x, a5] (.int x :: st) h Q := w_iload dX7_insert_100 rfl
theorem X7_insert_102 : iWp d mX7_insert 102 [a0, a1, a2, a3, a4, a5] (.int y :: .int x :: .ref p :: st) h Q = iOb (iStI h p x y) (fun g => iWp d mX7_insert 103 [a0, a1, a2, a3, a4, a5] st g Q) := w_iastore dX7_insert_102
theorem X7_insert_103 : iWp d mX7_insert 103 [.ref p, a1, a2, a3, a4, a5] st h Q = iWp d mX7_insert 104 [.ref p, a1, a2, a3, a4, a5] (.ref p :: st) h Q := w_aload_n dX7_insert_103 rfl
theorem X7_insert_104 : iWp d mX7_insert 104 [a0, a1, a2, a3, a4, a5] (.ref p :: st) h Q = iWp d mX7_insert 105 [a0, a1, a2, a3, a4, a5] (.ref p :: .ref p :: st) h Q := w_dup dX7_insert_104 rfl
theorem X7_insert_105 : iWp d mX7_insert 105 [a0, a1, a2, a3, a4, a5] (.ref p :: st) h Q = iOb (iGet h p 7 3) (fun v => iWp d mX7_insert 108 [a0, a1, a2, a3, a4, a5] (v :: st) h Q) := w_getf dX7_insert_105 fF_7_21
theorem X7_insert_108 : iWp d mX7_insert 108 [a0, a1, a2, a3, a4, a5] st h Q = iWp d mX7_insert 109 [a0, a1, a2, a3, a4, a5] (.int 1 :: st) h Q := w_iconst dX7_insert_108 rfl
theorem X7_insert_109 : iWp d mX7_insert 109 [a0, a1, a2, a3, a4, a5] (.int y :: .int x :: st) h Q = iWp d mX7_insert 110 [a0, a1, a2, a3, a4, a5] (.int (x + y) :: st) h Q := w_iadd dX7_insert_109
theorem X7_insert_110 : iWp d mX7_insert 110 [a0, a1, a2, a3, a4, a5] (.int x :: .ref p :: st) h Q = iOb (iPut h p 7 3 (.int x)) (fun g => iWp d mX7_insert 113 [a0, a1, a2, a3, a4, a5] st g Q) := w_putf dX7_insert_110 fF_7_21 ⟨rfl, (Or.inl rfl)⟩
theorem X7_insert_113 : iWp d mX7_insert 113 [a0, a1, a2, a3, a4, a5] [] h Q = Q none h := w_ret dX7_insert_113 rfl
theorem I7_insert {Q : Option Value → iHp → Prop} (hw : iWp 1 mX7_insert 0 [.ref p, .int x0, .int x1, .int x2, .int x3, iU] [] h Q) : ∃ r h1, iEv mX7_insert [.ref p, .int x0, .int x1, .int x2, .int x3] h r h1 ∧ Q r h1 := iEv_of (by rfl) rfl hw
theorem J7_insert {r : Option Value} {h1 : iHp} (hw : iWp 1 mX7_insert 0 [.ref p, .int x0, .int x1, .int x2, .int x3, iU] [] h (fun r' h' => r' = r ∧ h' = h1)) : iEv mX7_insert [.ref p, .int x0, .int x1, .int x2, .int x3] h r h1 := iEv_ev (by rfl) rfl hw
theorem X7_isWithin_0 : iWp d mX7_isWithin 0 [a0, .int x, a2] st h Q = iWp d mX7_isWithin 1 [a0, .int x, a2] (.int x :: st) h Q := w_iload_n dX7_isWithin_0 rfl
theorem X7_isWithin_1 : iWp d mX7_isWithin 1 [a0, a1, .int x] st h Q = iWp d mX7_isWithin 2 [a0, a1, .int x] (.int x :: st) h Q := w_iload_n dX7_isWithin_1 rfl
theorem X7_isWithin_2 : iWp d mX7_isWithin 2 [a0, a1, a2] (.int y :: .int x :: st) h Q = if x < y then iWp d mX7_isWithin 18 [a0, a1, a2] st h Q else iWp d mX7_isWithin 5 [a0, a1, a2] st h Q := w_icmp_lt dX7_isWithin_2 rfl
theorem X7_isWithin_5 : iWp d mX7_isWithin 5 [a0, .int x, a2] st h Q = iWp d mX7_isWithin 6 [a0, .int x, a2] (.int x :: st) h Q := w_iload_n dX7_isWithin_5 rfl
theorem X7_isWithin_6 : iWp d mX7_isWithin 6 [.ref p, a1, a2] st h Q = iWp d mX7_isWithin 7 [.ref p, a1, a2] (.ref p :: st) h Q := w_aload_n dX7_isWithin_6 rfl
theorem X7_isWithin_7 : iWp d mX7_isWithin 7 [a0, a1, .int x] st h Q = iWp d mX7_isWithin 8 [a0, a1, .int x] (.int x :: st) h Q := w_iload_n dX7_isWithin_7 rfl
theorem X7_isWithin_8 (he : iEv mX7_endOf [.ref p, .int x0] h (some (.int rv)) h2) (ho : iObj h p 7 = true) : iWp 3 mX7_isWithin 8 [a0, a1, a2] [.int x0, .ref p, .int r0] h Q = iWp 3 mX7_isWithin 11 [a0, a1, a2] [.int rv, .int r0] h2 Q := iWp_cV dX7_isWithin_8 fK_7_42 rfl rfl ho (Nat.le_of_ble_eq_true rfl) (Nat.le_of_ble_eq_true rfl) rfl (Nat.le_of_ble_eq_true rfl) he rfl
theorem X7_isWithin_11 : iWp d mX7_isWithin 11 [a0, a1, a2] (.int y :: .int x :: st) h Q = if y ≤ x then iWp d mX7_isWithin 18 [a0, a1, a2] st h Q else iWp d mX7_isWithin 14 [a0, a1, a2] st h Q := w_icmp_ge dX7_isWithin_11 rfl
theorem X7_isWithin_14 : iWp d mX7_isWithin 14 [a0, a1, a2] st h Q = iWp d mX7_isWithin 15 [a0, a1, a2] (.int 1 :: st) h Q := w_iconst dX7_isWithin_14 rfl
theorem X7_isWithin_15 : iWp d mX7_isWithin 15 [a0, a1, a2] st h Q = iWp d mX7_isWithin 19 [a0, a1, a2] st h Q := w_goto dX7_isWithin_15 rfl
theorem X7_isWithin_18 : iWp d mX7_isWithin 18 [a0, a1, a2] st h Q = iWp d mX7_isWithin 19 [a0, a1, a2] (.int 0 :: st) h Q := w_iconst dX7_isWithin_18 rfl
theorem X7_isWithin_19 : iWp d mX7_isWithin 19 [a0, a1, a2] [.int (iB b)] h Q = Q (some (.int (iB b))) h := w_iretb dX7_isWithin_19 rfl
theorem X7_isWithin_19z : iWp d mX7_isWithin 19 [a0, a1, a2] [.int 0] h Q = Q (some (.int (iB false))) h := w_iretb (bb := false) dX7_isWithin_19 rfl
theorem X7_isWithin_19o : iWp d mX7_isWithin 19 [a0, a1, a2] [.int 1] h Q = Q (some (.int (iB true))) h := w_iretb (bb := true) dX7_isWithin_19 rfl
theorem I7_isWithin {Q : Option Value → iHp → Prop} (hw : iWp 3 mX7_isWithin 0 [.ref p, .int x0, .int x1] [] h Q) : ∃ r h1, iEv mX7_isWithin [.ref p, .int x0, .int x1] h r h1 ∧ Q r h1 := iEv_of (by rfl) rfl hw
theorem J7_isWithin {r : Option Value} {h1 : iHp} (hw : iWp 3 mX7_isWithin 0 [.ref p, .int x0, .int x1] [] h (fun r' h' => r' = r ∧ h' = h1)) : iEv mX7_isWithin [.ref p, .int x0, .int x1] h r h1 := iEv_ev (by rfl) rfl hw
theorem X7_keyAt_0 : iWp d mX7_keyAt 0 [.ref p, a1] st h Q = iWp d mX7_keyAt 1 [.ref p, a1] (.ref p :: st) h Q := w_aload_n dX7_keyAt_0 rfl
theorem X7_keyAt_1 : iWp d mX7_keyAt 1 [a0, .int x] st h Q = iWp d mX7_keyAt 2 [a0, .int x] (.int x :: st) h Q := w_iload_n dX7_keyAt_1 rfl
theorem X7_keyAt_2 (he : iEv mX7_has [.ref p, .int x0] h (some (.int rv)) h2) (ho : iObj h p 7 = true) : iWp 2 mX7_keyAt 2 [a0, a1] [.int x0, .ref p] h Q = iWp 2 mX7_keyAt 5 [a0, a1] [.int rv] h2 Q := iWp_cV dX7_keyAt_2 fK_7_31 rfl rfl ho (Nat.le_of_ble_eq_true rfl) (Nat.le_of_ble_eq_true rfl) rfl (Nat.le_of_ble_eq_true rfl) he rfl
theorem X7_keyAt_5 : iWp d mX7_keyAt 5 [a0, a1] (.int x :: st) h Q = if x = 0 then iWp d mX7_keyAt 17 [a0, a1] st h Q else iWp d mX7_keyAt 8 [a0, a1] st h Q := w_ifc_eq dX7_keyAt_5 rfl
theorem X7_keyAt_8 : iWp d mX7_keyAt 8 [.ref p, a1] st h Q = iWp d mX7_keyAt 9 [.ref p, a1] (.ref p :: st) h Q := w_aload_n dX7_keyAt_8 rfl
theorem X7_keyAt_9 : iWp d mX7_keyAt 9 [a0, a1] (.ref p :: st) h Q = iOb (iGet h p 7 0) (fun v => iWp d mX7_keyAt 12 [a0, a1] (v :: st) h Q) := w_getf dX7_keyAt_9 fF_7_9
theorem X7_keyAt_12 : iWp d mX7_keyAt 12 [a0, .int x] st h Q = iWp d mX7_keyAt 13 [a0, .int x] (.int x :: st) h Q := w_iload_n dX7_keyAt_12 rfl
theorem X7_keyAt_13 : iWp d mX7_keyAt 13 [a0, a1] (.int x :: .ref p :: st) h Q = iOb (iLdI h p x) (fun v => iWp d mX7_keyAt 14 [a0, a1] (.int v :: st) h Q) := w_iaload dX7_keyAt_13
theorem X7_keyAt_14 : iWp d mX7_keyAt 14 [a0, a1] st h Q = iWp d mX7_keyAt 18 [a0, a1] st h Q := w_goto dX7_keyAt_14 rfl
theorem X7_keyAt_17 : iWp d mX7_keyAt 17 [a0, a1] st h Q = iWp d mX7_keyAt 18 [a0, a1] (.int 0 :: st) h Q := w_iconst dX7_keyAt_17 rfl
theorem X7_keyAt_18 : iWp d mX7_keyAt 18 [a0, a1] [.int x] h Q = Q (some (.int x)) h := w_ireti dX7_keyAt_18 rfl
theorem I7_keyAt {Q : Option Value → iHp → Prop} (hw : iWp 2 mX7_keyAt 0 [.ref p, .int x0] [] h Q) : ∃ r h1, iEv mX7_keyAt [.ref p, .int x0] h r h1 ∧ Q r h1 := iEv_of (by rfl) rfl hw
theorem J7_keyAt {r : Option Value} {h1 : iHp} (hw : iWp 2 mX7_keyAt 0 [.ref p, .int x0] [] h (fun r' h' => r' = r ∧ h' = h1)) : iEv mX7_keyAt [.ref p, .int x0] h r h1 := iEv_ev (by rfl) rfl hw
theorem X7_labelAt_0 : iWp d mX7_labelAt 0 [.ref p, a1] st h Q = iWp d mX7_labelAt 1 [.ref p, a1] (.ref p :: st) h Q := w_aload_n dX7_labelAt_0 rfl
theorem X7_labelAt_1 : iWp d mX7_labelAt 1 [a0, .int x] st h Q = iWp d mX7_labelAt 2 [a0, .int x] (.int x :: st) h Q := w_iload_n dX7_labelAt_1 rfl
theorem X7_labelAt_2 (he : iEv mX7_has [.ref p, .int x0] h (some (.int rv)) h2) (ho : iObj h p 7 = true) : iWp 2 mX7_labelAt 2 [a0, a1] [.int x0, .ref p] h Q = iWp 2 mX7_labelAt 5 [a0, a1] [.int rv] h2 Q := iWp_cV dX7_labelAt_2 fK_7_31 rfl rfl ho (Nat.le_of_ble_eq_true rfl) (Nat.le_of_ble_eq_true rfl) rfl (Nat.le_of_ble_eq_true rfl) he rfl
theorem X7_labelAt_5 : iWp d mX7_labelAt 5 [a0, a1] (.int x :: st) h Q = if x = 0 then iWp d mX7_labelAt 17 [a0, a1] st h Q else iWp d mX7_labelAt 8 [a0, a1] st h Q := w_ifc_eq dX7_labelAt_5 rfl
theorem X7_labelAt_8 : iWp d mX7_labelAt 8 [.ref p, a1] st h Q = iWp d mX7_labelAt 9 [.ref p, a1] (.ref p :: st) h Q := w_aload_n dX7_labelAt_8 rfl
theorem X7_labelAt_9 : iWp d mX7_labelAt 9 [a0, a1] (.ref p :: st) h Q = iOb (iGet h p 7 1) (fun v => iWp d mX7_labelAt 12 [a0, a1] (v :: st) h Q) := w_getf dX7_labelAt_9 fF_7_15
theorem X7_labelAt_12 : iWp d mX7_labelAt 12 [a0, .int x] st h Q = iWp d mX7_labelAt 13 [a0, .int x] (.int x :: st) h Q := w_iload_n dX7_labelAt_12 rfl
theorem X7_labelAt_13 : iWp d mX7_labelAt 13 [a0, a1] (.int x :: .ref p :: st) h Q = iOb (iLdI h p x) (fun v => iWp d mX7_labelAt 14 [a0, a1] (.int v :: st) h Q) := w_iaload dX7_labelAt_13
theorem X7_labelAt_14 : iWp d mX7_labelAt 14 [a0, a1] st h Q = iWp d mX7_labelAt 18 [a0, a1] st h Q := w_goto dX7_labelAt_14 rfl
theorem X7_labelAt_17 : iWp d mX7_labelAt 17 [a0, a1] st h Q = iWp d mX7_labelAt 18 [a0, a1] (.int 0 :: st) h Q := w_iconst dX7_labelAt_17 rfl
theorem X7_labelAt_18 : iWp d mX7_labelAt 18 [a0, a1] [.int x] h Q = Q (some (.int x)) h := w_ireti dX7_labelAt_18 rfl
theorem I7_labelAt {Q : Option Value → iHp → Prop} (hw : iWp 2 mX7_labelAt 0 [.ref p, .int x0] [] h Q) : ∃ r h1, iEv mX7_labelAt [.ref p, .int x0] h r h1 ∧ Q r h1 := iEv_of (by rfl) rfl hw
theorem J7_labelAt {r : Option Value} {h1 : iHp} (hw : iWp 2 mX7_labelAt 0 [.ref p, .int x0] [] h (fun r' h' => r' = r ∧ h' = h1)) : iEv mX7_labelAt [.ref p, .int x0] h r h1 := iEv_ev (by rfl) rfl hw
theorem X7_lowestOver_0 : iWp d mX7_lowestOver 0 [a0, .int x, a2, a3] st h Q = iWp d mX7_lowestOver 1 [a0, .int x, a2, a3] (.int x :: st) h Q := w_iload_n dX7_lowestOver_0 rfl
theorem X7_lowestOver_1 : iWp d mX7_lowestOver 1 [a0, a1, a2, a3] (.int x :: st) h Q = iWp d mX7_lowestOver 2 [a0, a1, iClr a2, .int x] st h Q := w_istore_n dX7_lowestOver_1 (Nat.le_of_ble_eq_true rfl) rfl
theorem X7_lowestOver_2 : iWp d mX7_lowestOver 2 [a0, a1, a2, .int x] st h Q = iWp d mX7_lowestOver 3 [a0, a1, a2, .int x] (.int x :: st) h Q := w_iload_n dX7_lowestOver_2 rfl
theorem X7_lowestOver_3 : iWp d mX7_lowestOver 3 [a0, a1, a2, a3] (.int x :: st) h Q = if x ≤ 0 then iWp d mX7_lowestOver 32 [a0, a1, a2, a3] st h Q else iWp d mX7_lowestOver 6 [a0, a1, a2, a3] st h Q := w_ifc_le dX7_lowestOver_3 rfl
theorem X7_lowestOver_6 : iWp d mX7_lowestOver 6 [.ref p, a1, a2, a3] st h Q = iWp d mX7_lowestOver 7 [.ref p, a1, a2, a3] (.ref p :: st) h Q := w_aload_n dX7_lowestOver_6 rfl
theorem X7_lowestOver_7 : iWp d mX7_lowestOver 7 [a0, .int x, a2, a3] st h Q = iWp d mX7_lowestOver 8 [a0, .int x, a2, a3] (.int x :: st) h Q := w_iload_n dX7_lowestOver_7 rfl
theorem X7_lowestOver_8 : iWp d mX7_lowestOver 8 [a0, a1, a2, .int x] st h Q = iWp d mX7_lowestOver 9 [a0, a1, a2, .int x] (.int x :: st) h Q := w_iload_n dX7_lowestOver_8 rfl
theorem X7_lowestOver_9 (he : iEv mX7_isWithin [.ref p, .int x0, .int x1] h (some (.int rv)) h2) (ho : iObj h p 7 = true) : iWp 4 mX7_lowestOver 9 [a0, a1, a2, a3] [.int x1, .int x0, .ref p] h Q = iWp 4 mX7_lowestOver 12 [a0, a1, a2, a3] [.int rv] h2 Q := iWp_cV dX7_lowestOver_9 fK_7_48 rfl rfl ho (Nat.le_of_ble_eq_true rfl) (Nat.le_of_ble_eq_true rfl) rfl (Nat.le_of_ble_eq_true rfl) he rfl
theorem X7_lowestOver_12 : iWp d mX7_lowestOver 12 [a0, a1, a2, a3] (.int x :: st) h Q = if x = 0 then iWp d mX7_lowestOver 26 [a0, a1, a2, a3] st h Q else iWp d mX7_lowestOver 15 [a0, a1, a2, a3] st h Q := w_ifc_eq dX7_lowestOver_12 rfl
theorem X7_lowestOver_15 : iWp d mX7_lowestOver 15 [.ref p, a1, a2, a3] st h Q = iWp d mX7_lowestOver 16 [.ref p, a1, a2, a3] (.ref p :: st) h Q := w_aload_n dX7_lowestOver_15 rfl
theorem X7_lowestOver_16 : iWp d mX7_lowestOver 16 [a0, a1, .int x, a3] st h Q = iWp d mX7_lowestOver 17 [a0, a1, .int x, a3] (.int x :: st) h Q := w_iload_n dX7_lowestOver_16 rfl
theorem X7_lowestOver_17 : iWp d mX7_lowestOver 17 [a0, a1, a2, .int x] st h Q = iWp d mX7_lowestOver 18 [a0, a1, a2, .int x] (.int x :: st) h Q := w_iload_n dX7_lowestOver_17 rfl
theorem X7_lowestOver_18 (he : iEv mX7_isWithin [.ref p, .int x0, .int x1] h (some (.int rv)) h2) (ho : iObj h p 7 = true) : iWp 4 mX7_lowestOver 18 [a0, a1, a2, a3] [.int x1, .int x0, .ref p] h Q = iWp 4 mX7_lowestOver 21 [a0, a1, a2, a3] [.int rv] h2 Q := iWp_cV dX7_lowestOver_18 fK_7_48 rfl rfl ho (Nat.le_of_ble_eq_true rfl) (Nat.le_of_ble_eq_true rfl) rfl (Nat.le_of_ble_eq_true rfl) he rfl
theorem X7_lowestOver_21 : iWp d mX7_lowestOver 21 [a0, a1, a2, a3] (.int x :: st) h Q = if x = 0 then iWp d mX7_lowestOver 26 [a0, a1, a2, a3] st h Q else iWp d mX7_lowestOver 24 [a0, a1, a2, a3] st h Q := w_ifc_eq dX7_lowestOver_21 rfl
theorem X7_lowestOver_24 : iWp d mX7_lowestOver 24 [a0, a1, a2, .int x] st h Q = iWp d mX7_lowestOver 25 [a0, a1, a2, .int x] (.int x :: st) h Q := w_iload_n dX7_lowestOver_24 rfl
theorem X7_lowestOver_25 : iWp d mX7_lowestOver 25 [a0, a1, a2, a3] [.int x] h Q = Q (some (.int x)) h := w_ireti dX7_lowestOver_25 rfl
theorem X7_lowestOver_26 : iWp d mX7_lowestOver 26 [a0, a1, a2, .int x] st h Q = iWp d mX7_lowestOver 29 [a0, a1, iClr a2, .int (x + (-1))] st h Q := w_iinc dX7_lowestOver_26 rfl (Nat.le_of_ble_eq_true rfl) rfl
theorem X7_lowestOver_29 : iWp d mX7_lowestOver 29 [a0, a1, a2, a3] st h Q = iWp d mX7_lowestOver 2 [a0, a1, a2, a3] st h Q := w_goto dX7_lowestOver_29 rfl
theorem X7_lowestOver_32 : iWp d mX7_lowestOver 32 [a0, a1, a2, a3] st h Q = iWp d mX7_lowestOver 33 [a0, a1, a2, a3] (.int 0 :: st) h Q := w_iconst dX7_lowestOver_32 rfl
theorem X7_lowestOver_33 : iWp d mX7_lowestOver 33 [a0, a1, a2, a3] [.int x] h Q = Q (some (.int x)) h := w_ireti dX7_lowestOver_33 rfl
theorem I7_lowestOver {Q : Option Value → iHp → Prop} (hw : iWp 4 mX7_lowestOver 0 [.ref p, .int x0, .int x1, iU] [] h Q) : ∃ r h1, iEv mX7_lowestOver [.ref p, .int x0, .int x1] h r h1 ∧ Q r h1 := iEv_of (by rfl) rfl hw
theorem J7_lowestOver {r : Option Value} {h1 : iHp} (hw : iWp 4 mX7_lowestOver 0 [.ref p, .int x0, .int x1, iU] [] h (fun r' h' => r' = r ∧ h' = h1)) : iEv mX7_lowestOver [.ref p, .int x0, .int x1] h r h1 := iEv_ev (by rfl) rfl hw
theorem X7_parentAt_0 : iWp d mX7_parentAt 0 [.ref p, a1, a2] st h Q = iWp d mX7_parentAt 1 [.ref p, a1, a2] (.ref p :: st) h Q := w_aload_n dX7_parentAt_0 rfl
theorem X7_parentAt_1 : iWp d mX7_parentAt 1 [a0, .int x, a2] st h Q = iWp d mX7_parentAt 2 [a0, .int x, a2] (.int x :: st) h Q := w_iload_n dX7_parentAt_1 rfl
theorem X7_parentAt_2 (he : iEv mX7_has [.ref p, .int x0] h (some (.int rv)) h2) (ho : iObj h p 7 = true) : iWp 2 mX7_parentAt 2 [a0, a1, a2] [.int x0, .ref p] h Q = iWp 2 mX7_parentAt 5 [a0, a1, a2] [.int rv] h2 Q := iWp_cV dX7_parentAt_2 fK_7_31 rfl rfl ho (Nat.le_of_ble_eq_true rfl) (Nat.le_of_ble_eq_true rfl) rfl (Nat.le_of_ble_eq_true rfl) he rfl
theorem X7_parentAt_5 : iWp d mX7_parentAt 5 [a0, a1, a2] (.int x :: st) h Q = if x = 0 then iWp d mX7_parentAt 39 [a0, a1, a2] st h Q else iWp d mX7_parentAt 8 [a0, a1, a2] st h Q := w_ifc_eq dX7_parentAt_5 rfl
theorem X7_parentAt_8 : iWp d mX7_parentAt 8 [a0, .int x, a2] st h Q = iWp d mX7_parentAt 9 [a0, .int x, a2] (.int x :: st) h Q := w_iload_n dX7_parentAt_8 rfl
theorem X7_parentAt_9 : iWp d mX7_parentAt 9 [a0, a1, a2] st h Q = iWp d mX7_parentAt 10 [a0, a1, a2] (.int 1 :: st) h Q := w_iconst dX7_parentAt_9 rfl
theorem X7_parentAt_10 : iWp d mX7_parentAt 10 [a0, a1, a2] (.int y :: .int x :: st) h Q = iWp d mX7_parentAt 11 [a0, a1, a2] (.int (x - y) :: st) h Q := w_isub dX7_parentAt_10
theorem X7_parentAt_11 : iWp d mX7_parentAt 11 [a0, a1, a2] (.int x :: st) h Q = iWp d mX7_parentAt 12 [a0, iClr a1, .int x] st h Q := w_istore_n dX7_parentAt_11 (Nat.le_of_ble_eq_true rfl) rfl
theorem X7_parentAt_12 : iWp d mX7_parentAt 12 [a0, a1, .int x] st h Q = iWp d mX7_parentAt 13 [a0, a1, .int x] (.int x :: st) h Q := w_iload_n dX7_parentAt_12 rfl
theorem X7_parentAt_13 : iWp d mX7_parentAt 13 [a0, a1, a2] (.int x :: st) h Q = if x < 0 then iWp d mX7_parentAt 39 [a0, a1, a2] st h Q else iWp d mX7_parentAt 16 [a0, a1, a2] st h Q := w_ifc_lt dX7_parentAt_13 rfl
theorem X7_parentAt_16 : iWp d mX7_parentAt 16 [.ref p, a1, a2] st h Q = iWp d mX7_parentAt 17 [.ref p, a1, a2] (.ref p :: st) h Q := w_aload_n dX7_parentAt_16 rfl
theorem X7_parentAt_17 : iWp d mX7_parentAt 17 [a0, a1, a2] (.ref p :: st) h Q = iOb (iGet h p 7 2) (fun v => iWp d mX7_parentAt 20 [a0, a1, a2] (v :: st) h Q) := w_getf dX7_parentAt_17 fF_7_18
theorem X7_parentAt_20 : iWp d mX7_parentAt 20 [a0, a1, .int x] st h Q = iWp d mX7_parentAt 21 [a0, a1, .int x] (.int x :: st) h Q := w_iload_n dX7_parentAt_20 rfl
theorem X7_parentAt_21 : iWp d mX7_parentAt 21 [a0, a1, a2] (.int x :: .ref p :: st) h Q = iOb (iLdI h p x) (fun v => iWp d mX7_parentAt 22 [a0, a1, a2] (.int v :: st) h Q) := w_iaload dX7_parentAt_21
theorem X7_parentAt_22 : iWp d mX7_parentAt 22 [.ref p, a1, a2] st h Q = iWp d mX7_parentAt 23 [.ref p, a1, a2] (.ref p :: st) h Q := w_aload_n dX7_parentAt_22 rfl
theorem X7_parentAt_23 : iWp d mX7_parentAt 23 [a0, a1, a2] (.ref p :: st) h Q = iOb (iGet h p 7 2) (fun v => iWp d mX7_parentAt 26 [a0, a1, a2] (v :: st) h Q) := w_getf dX7_parentAt_23 fF_7_18
theorem X7_parentAt_26 : iWp d mX7_parentAt 26 [a0, .int x, a2] st h Q = iWp d mX7_parentAt 27 [a0, .int x, a2] (.int x :: st) h Q := w_iload_n dX7_parentAt_26 rfl
theorem X7_parentAt_27 : iWp d mX7_parentAt 27 [a0, a1, a2] (.int x :: .ref p :: st) h Q = iOb (iLdI h p x) (fun v => iWp d mX7_parentAt 28 [a0, a1, a2] (.int v :: st) h Q) := w_iaload dX7_parentAt_27
theorem X7_parentAt_28 : iWp d mX7_parentAt 28 [a0, a1, a2] (.int y :: .int x :: st) h Q = if y ≤ x then iWp d mX7_parentAt 33 [a0, a1, a2] st h Q else iWp d mX7_parentAt 31 [a0, a1, a2] st h Q := w_icmp_ge dX7_parentAt_28 rfl
theorem X7_parentAt_31 : iWp d mX7_parentAt 31 [a0, a1, .int x] st h Q = iWp d mX7_parentAt 32 [a0, a1, .int x] (.int x :: st) h Q := w_iload_n dX7_parentAt_31 rfl
theorem X7_parentAt_32 : iWp d mX7_parentAt 32 [a0, a1, a2] [.int x] h Q = Q (some (.int x)) h := w_ireti dX7_parentAt_32 rfl
theorem X7_parentAt_33 : iWp d mX7_parentAt 33 [a0, a1, .int x] st h Q = iWp d mX7_parentAt 36 [a0, iClr a1, .int (x + (-1))] st h Q := w_iinc dX7_parentAt_33 rfl (Nat.le_of_ble_eq_true rfl) rfl
theorem X7_parentAt_36 : iWp d mX7_parentAt 36 [a0, a1, a2] st h Q = iWp d mX7_parentAt 12 [a0, a1, a2] st h Q := w_goto dX7_parentAt_36 rfl
theorem X7_parentAt_39 : iWp d mX7_parentAt 39 [a0, a1, a2] st h Q = iWp d mX7_parentAt 40 [a0, a1, a2] (.int (-1) :: st) h Q := w_iconst dX7_parentAt_39 rfl
theorem X7_parentAt_40 : iWp d mX7_parentAt 40 [a0, a1, a2] [.int x] h Q = Q (some (.int x)) h := w_ireti dX7_parentAt_40 rfl
theorem I7_parentAt {Q : Option Value → iHp → Prop} (hw : iWp 2 mX7_parentAt 0 [.ref p, .int x0, iU] [] h Q) : ∃ r h1, iEv mX7_parentAt [.ref p, .int x0] h r h1 ∧ Q r h1 := iEv_of (by rfl) rfl hw
theorem J7_parentAt {r : Option Value} {h1 : iHp} (hw : iWp 2 mX7_parentAt 0 [.ref p, .int x0, iU] [] h (fun r' h' => r' = r ∧ h' = h1)) : iEv mX7_parentAt [.ref p, .int x0] h r h1 := iEv_ev (by rfl) rfl hw
theorem X7_parentKeyAt_0 : iWp d mX7_parentKeyAt 0 [.ref p, a1] st h Q = iWp d mX7_parentKeyAt 1 [.ref p, a1] (.ref p :: st) h Q := w_aload_n dX7_parentKeyAt_0 rfl
theorem X7_parentKeyAt_1 : iWp d mX7_parentKeyAt 1 [.ref p, a1] st h Q = iWp d mX7_parentKeyAt 2 [.ref p, a1] (.ref p :: st) h Q := w_aload_n dX7_parentKeyAt_1 rfl
theorem X7_parentKeyAt_2 : iWp d mX7_parentKeyAt 2 [a0, .int x] st h Q = iWp d mX7_parentKeyAt 3 [a0, .int x] (.int x :: st) h Q := w_iload_n dX7_parentKeyAt_2 rfl
theorem X7_parentKeyAt_3 (he : iEv mX7_parentAt [.ref p, .int x0] h (some (.int rv)) h2) (ho : iObj h p 7 = true) : iWp 3 mX7_parentKeyAt 3 [a0, a1] [.int x0, .ref p, .ref t0] h Q = iWp 3 mX7_parentKeyAt 6 [a0, a1] [.int rv, .ref t0] h2 Q := iWp_cV dX7_parentKeyAt_3 fK_7_35 rfl rfl ho (Nat.le_of_ble_eq_true rfl) (Nat.le_of_ble_eq_true rfl) rfl (Nat.le_of_ble_eq_true rfl) he rfl
theorem X7_parentKeyAt_6 (he : iEv mX7_keyAt [.ref p, .int x0] h (some (.int rv)) h2) (ho : iObj h p 7 = true) : iWp 3 mX7_parentKeyAt 6 [a0, a1] [.int x0, .ref p] h Q = iWp 3 mX7_parentKeyAt 9 [a0, a1] [.int rv] h2 Q := iWp_cV dX7_parentKeyAt_6 fK_7_39 rfl rfl ho (Nat.le_of_ble_eq_true rfl) (Nat.le_of_ble_eq_true rfl) rfl (Nat.le_of_ble_eq_true rfl) he rfl
theorem X7_parentKeyAt_9 : iWp d mX7_parentKeyAt 9 [a0, a1] [.int x] h Q = Q (some (.int x)) h := w_ireti dX7_parentKeyAt_9 rfl
theorem I7_parentKeyAt {Q : Option Value → iHp → Prop} (hw : iWp 3 mX7_parentKeyAt 0 [.ref p, .int x0] [] h Q) : ∃ r h1, iEv mX7_parentKeyAt [.ref p, .int x0] h r h1 ∧ Q r h1 := iEv_of (by rfl) rfl hw
theorem J7_parentKeyAt {r : Option Value} {h1 : iHp} (hw : iWp 3 mX7_parentKeyAt 0 [.ref p, .int x0] [] h (fun r' h' => r' = r ∧ h' = h1)) : iEv mX7_parentKeyAt [.ref p, .int x0] h r h1 := iEv_ev (by rfl) rfl hw
theorem X7_placeAt_0 : iWp d mX7_placeAt 0 [a0, a1, a2, a3] st h Q = iWp d mX7_placeAt 1 [a0, a1, a2, a3] (.int 0 :: st) h Q := w_iconst dX7_placeAt_0 rfl
theorem X7_placeAt_1 : iWp d mX7_placeAt 1 [a0, a1, a2, a3] (.int x :: st) h Q = iWp d mX7_placeAt 2 [a0, iClr a1, .int x, a3] st h Q := w_istore_n dX7_placeAt_1 (Nat.le_of_ble_eq_true rfl) rfl
theorem X7_placeAt_2 : iWp d mX7_placeAt 2 [.ref p, a1, a2, a3] st h Q = iWp d mX7_placeAt 3 [.ref p, a1, a2, a3] (.ref p :: st) h Q := w_aload_n dX7_placeAt_2 rfl
theorem X7_placeAt_3 : iWp d mX7_placeAt 3 [a0, .int x, a2, a3] st h Q = iWp d mX7_placeAt 4 [a0, .int x, a2, a3] (.int x :: st) h Q := w_iload_n dX7_placeAt_3 rfl
theorem X7_placeAt_4 (he : iEv mX7_has [.ref p, .int x0] h (some (.int rv)) h2) (ho : iObj h p 7 = true) : iWp 2 mX7_placeAt 4 [a0, a1, a2, a3] [.int x0, .ref p] h Q = iWp 2 mX7_placeAt 7 [a0, a1, a2, a3] [.int rv] h2 Q := iWp_cV dX7_placeAt_4 fK_7_31 rfl rfl ho (Nat.le_of_ble_eq_true rfl) (Nat.le_of_ble_eq_true rfl) rfl (Nat.le_of_ble_eq_true rfl) he rfl
theorem X7_placeAt_7 : iWp d mX7_placeAt 7 [a0, a1, a2, a3] (.int x :: st) h Q = if x = 0 then iWp d mX7_placeAt 57 [a0, a1, a2, a3] st h Q else iWp d mX7_placeAt 10 [a0, a1, a2, a3] st h Q := w_ifc_eq dX7_placeAt_7 rfl
theorem X7_placeAt_10 : iWp d mX7_placeAt 10 [a0, .int x, a2, a3] st h Q = iWp d mX7_placeAt 11 [a0, .int x, a2, a3] (.int x :: st) h Q := w_iload_n dX7_placeAt_10 rfl
theorem X7_placeAt_11 : iWp d mX7_placeAt 11 [a0, a1, a2, a3] st h Q = iWp d mX7_placeAt 12 [a0, a1, a2, a3] (.int 1 :: st) h Q := w_iconst dX7_placeAt_11 rfl
theorem X7_placeAt_12 : iWp d mX7_placeAt 12 [a0, a1, a2, a3] (.int y :: .int x :: st) h Q = iWp d mX7_placeAt 13 [a0, a1, a2, a3] (.int (x - y) :: st) h Q := w_isub dX7_placeAt_12
theorem X7_placeAt_13 : iWp d mX7_placeAt 13 [a0, a1, a2, a3] (.int x :: st) h Q = iWp d mX7_placeAt 14 [a0, a1, iClr a2, .int x] st h Q := w_istore_n dX7_placeAt_13 (Nat.le_of_ble_eq_true rfl) rfl
theorem X7_placeAt_14 : iWp d mX7_placeAt 14 [a0, a1, a2, .int x] st h Q = iWp d mX7_placeAt 15 [a0, a1, a2, .int x] (.int x :: st) h Q := w_iload_n dX7_placeAt_14 rfl
theorem X7_placeAt_15 : iWp d mX7_placeAt 15 [a0, a1, a2, a3] (.int x :: st) h Q = if x < 0 then iWp d mX7_placeAt 57 [a0, a1, a2, a3] st h Q else iWp d mX7_placeAt 18 [a0, a1, a2, a3] st h Q := w_ifc_lt dX7_placeAt_15 rfl
theorem X7_placeAt_18 : iWp d mX7_placeAt 18 [.ref p, a1, a2, a3] st h Q = iWp d mX7_placeAt 19 [.ref p, a1, a2, a3] (.ref p :: st) h Q := w_aload_n dX7_placeAt_18 rfl
theorem X7_placeAt_19 : iWp d mX7_placeAt 19 [a0, a1, a2, a3] (.ref p :: st) h Q = iOb (iGet h p 7 2) (fun v => iWp d mX7_placeAt 22 [a0, a1, a2, a3] (v :: st) h Q) := w_getf dX7_placeAt_19 fF_7_18
theorem X7_placeAt_22 : iWp d mX7_placeAt 22 [a0, a1, a2, .int x] st h Q = iWp d mX7_placeAt 23 [a0, a1, a2, .int x] (.int x :: st) h Q := w_iload_n dX7_placeAt_22 rfl
theorem X7_placeAt_23 : iWp d mX7_placeAt 23 [a0, a1, a2, a3] (.int x :: .ref p :: st) h Q = iOb (iLdI h p x) (fun v => iWp d mX7_placeAt 24 [a0, a1, a2, a3] (.int v :: st) h Q) := w_iaload dX7_placeAt_23
theorem X7_placeAt_24 : iWp d mX7_placeAt 24 [.ref p, a1, a2, a3] st h Q = iWp d mX7_placeAt 25 [.ref p, a1, a2, a3] (.ref p :: st) h Q := w_aload_n dX7_placeAt_24 rfl
theorem X7_placeAt_25 : iWp d mX7_placeAt 25 [a0, a1, a2, a3] (.ref p :: st) h Q = iOb (iGet h p 7 2) (fun v => iWp d mX7_placeAt 28 [a0, a1, a2, a3] (v :: st) h Q) := w_getf dX7_placeAt_25 fF_7_18
theorem X7_placeAt_28 : iWp d mX7_placeAt 28 [a0, .int x, a2, a3] st h Q = iWp d mX7_placeAt 29 [a0, .int x, a2, a3] (.int x :: st) h Q := w_iload_n dX7_placeAt_28 rfl
theorem X7_placeAt_29 : iWp d mX7_placeAt 29 [a0, a1, a2, a3] (.int x :: .ref p :: st) h Q = iOb (iLdI h p x) (fun v => iWp d mX7_placeAt 30 [a0, a1, a2, a3] (.int v :: st) h Q) := w_iaload dX7_placeAt_29
theorem X7_placeAt_30 : iWp d mX7_placeAt 30 [a0, a1, a2, a3] (.int y :: .int x :: st) h Q = if x < y then iWp d mX7_placeAt 57 [a0, a1, a2, a3] st h Q else iWp d mX7_placeAt 33 [a0, a1, a2, a3] st h Q := w_icmp_lt dX7_placeAt_30 rfl
theorem X7_placeAt_33 : iWp d mX7_placeAt 33 [.ref p, a1, a2, a3] st h Q = iWp d mX7_placeAt 34 [.ref p, a1, a2, a3] (.ref p :: st) h Q := w_aload_n dX7_placeAt_33 rfl
theorem X7_placeAt_34 : iWp d mX7_placeAt 34 [a0, a1, a2, a3] (.ref p :: st) h Q = iOb (iGet h p 7 2) (fun v => iWp d mX7_placeAt 37 [a0, a1, a2, a3] (v :: st) h Q) := w_getf dX7_placeAt_34 fF_7_18
theorem X7_placeAt_37 : iWp d mX7_placeAt 37 [a0, a1, a2, .int x] st h Q = iWp d mX7_placeAt 38 [a0, a1, a2, .int x] (.int x :: st) h Q := w_iload_n dX7_placeAt_37 rfl
theorem X7_placeAt_38 : iWp d mX7_placeAt 38 [a0, a1, a2, a3] (.int x :: .ref p :: st) h Q = iOb (iLdI h p x) (fun v => iWp d mX7_placeAt 39 [a0, a1, a2, a3] (.int v :: st) h Q) := w_iaload dX7_placeAt_38
theorem X7_placeAt_39 : iWp d mX7_placeAt 39 [.ref p, a1, a2, a3] st h Q = iWp d mX7_placeAt 40 [.ref p, a1, a2, a3] (.ref p :: st) h Q := w_aload_n dX7_placeAt_39 rfl
theorem X7_placeAt_40 : iWp d mX7_placeAt 40 [a0, a1, a2, a3] (.ref p :: st) h Q = iOb (iGet h p 7 2) (fun v => iWp d mX7_placeAt 43 [a0, a1, a2, a3] (v :: st) h Q) := w_getf dX7_placeAt_40 fF_7_18
theorem X7_placeAt_43 : iWp d mX7_placeAt 43 [a0, .int x, a2, a3] st h Q = iWp d mX7_placeAt 44 [a0, .int x, a2, a3] (.int x :: st) h Q := w_iload_n dX7_placeAt_43 rfl
theorem X7_placeAt_44 : iWp d mX7_placeAt 44 [a0, a1, a2, a3] (.int x :: .ref p :: st) h Q = iOb (iLdI h p x) (fun v => iWp d mX7_placeAt 45 [a0, a1, a2, a3] (.int v :: st) h Q) := w_iaload dX7_placeAt_44
theorem X7_placeAt_45 : iWp d mX7_placeAt 45 [a0, a1, a2, a3] (.int y :: .int x :: st) h Q = if x = y then iWp d mX7_placeAt 48 [a0, a1, a2, a3] st h Q else iWp d mX7_placeAt 51 [a0, a1, a2, a3] st h Q := w_icmp_ne dX7_placeAt_45 rfl
theorem X7_placeAt_48 : iWp d mX7_placeAt 48 [a0, a1, .int x, a3] st h Q = iWp d mX7_placeAt 51 [a0, iClr a1, .int (x + 1), a3] st h Q := w_iinc dX7_placeAt_48 rfl (Nat.le_of_ble_eq_true rfl) rfl
theorem X7_placeAt_51 : iWp d mX7_placeAt 51 [a0, a1, a2, .int x] st h Q = iWp d mX7_placeAt 54 [a0, a1, iClr a2, .int (x + (-1))] st h Q := w_iinc dX7_placeAt_51 rfl (Nat.le_of_ble_eq_true rfl) rfl
theorem X7_placeAt_54 : iWp d mX7_placeAt 54 [a0, a1, a2, a3] st h Q = iWp d mX7_placeAt 14 [a0, a1, a2, a3] st h Q := w_goto dX7_placeAt_54 rfl
theorem X7_placeAt_57 : iWp d mX7_placeAt 57 [a0, a1, .int x, a3] st h Q = iWp d mX7_placeAt 58 [a0, a1, .int x, a3] (.int x :: st) h Q := w_iload_n dX7_placeAt_57 rfl
theorem X7_placeAt_58 : iWp d mX7_placeAt 58 [a0, a1, a2, a3] [.int x] h Q = Q (some (.int x)) h := w_ireti dX7_placeAt_58 rfl
theorem I7_placeAt {Q : Option Value → iHp → Prop} (hw : iWp 2 mX7_placeAt 0 [.ref p, .int x0, iU, iU] [] h Q) : ∃ r h1, iEv mX7_placeAt [.ref p, .int x0] h r h1 ∧ Q r h1 := iEv_of (by rfl) rfl hw
theorem J7_placeAt {r : Option Value} {h1 : iHp} (hw : iWp 2 mX7_placeAt 0 [.ref p, .int x0, iU, iU] [] h (fun r' h' => r' = r ∧ h' = h1)) : iEv mX7_placeAt [.ref p, .int x0] h r h1 := iEv_ev (by rfl) rfl hw
theorem X7_remove_0 : iWp d mX7_remove 0 [.ref p, a1, a2] st h Q = iWp d mX7_remove 1 [.ref p, a1, a2] (.ref p :: st) h Q := w_aload_n dX7_remove_0 rfl
theorem X7_remove_1 : iWp d mX7_remove 1 [a0, .int x, a2] st h Q = iWp d mX7_remove 2 [a0, .int x, a2] (.int x :: st) h Q := w_iload_n dX7_remove_1 rfl
theorem X7_remove_2 (he : iEv mX7_has [.ref p, .int x0] h (some (.int rv)) h2) (ho : iObj h p 7 = true) : iWp 2 mX7_remove 2 [a0, a1, a2] [.int x0, .ref p] h Q = iWp 2 mX7_remove 5 [a0, a1, a2] [.int rv] h2 Q := iWp_cV dX7_remove_2 fK_7_31 rfl rfl ho (Nat.le_of_ble_eq_true rfl) (Nat.le_of_ble_eq_true rfl) rfl (Nat.le_of_ble_eq_true rfl) he rfl
theorem X7_remove_5 : iWp d mX7_remove 5 [a0, a1, a2] (.int x :: st) h Q = if x = 0 then iWp d mX7_remove 8 [a0, a1, a2] st h Q else iWp d mX7_remove 9 [a0, a1, a2] st h Q := w_ifc_ne dX7_remove_5 rfl
theorem X7_remove_8 : iWp d mX7_remove 8 [a0, a1, a2] [] h Q = Q none h := w_ret dX7_remove_8 rfl
theorem X7_remove_9 : iWp d mX7_remove 9 [.ref p, a1, a2] st h Q = iWp d mX7_remove 10 [.ref p, a1, a2] (.ref p :: st) h Q := w_aload_n dX7_remove_9 rfl
theorem X7_remove_10 : iWp d mX7_remove 10 [a0, a1, a2] (.ref p :: st) h Q = iOb (iGet h p 7 3) (fun v => iWp d mX7_remove 13 [a0, a1, a2] (v :: st) h Q) := w_getf dX7_remove_10 fF_7_21
theorem X7_remove_13 : iWp d mX7_remove 13 [a0, .int x, a2] st h Q = iWp d mX7_remove 14 [a0, .int x, a2] (.int x :: st) h Q := w_iload_n dX7_remove_13 rfl
theorem X7_remove_14 : iWp d mX7_remove 14 [a0, a1, a2] (.int y :: .int x :: st) h Q = iWp d mX7_remove 15 [a0, a1, a2] (.int (x - y) :: st) h Q := w_isub dX7_remove_14
theorem X7_remove_15 : iWp d mX7_remove 15 [a0, a1, a2] st h Q = iWp d mX7_remove 16 [a0, a1, a2] (.int 1 :: st) h Q := w_iconst dX7_remove_15 rfl
theorem X7_remove_16 : iWp d mX7_remove 16 [a0, a1, a2] (.int y :: .int x :: st) h Q = iWp d mX7_remove 17 [a0, a1, a2] (.int (x - y) :: st) h Q := w_isub dX7_remove_16
theorem X7_remove_17 : iWp d mX7_remove 17 [a0, a1, a2] (.int x :: st) h Q = iWp d mX7_remove 18 [a0, iClr a1, .int x] st h Q := w_istore_n dX7_remove_17 (Nat.le_of_ble_eq_true rfl) rfl
theorem X7_remove_18 : iWp d mX7_remove 18 [.ref p, a1, a2] st h Q = iWp d mX7_remove 19 [.ref p, a1, a2] (.ref p :: st) h Q := w_aload_n dX7_remove_18 rfl
theorem X7_remove_19 : iWp d mX7_remove 19 [a0, a1, a2] (.ref p :: st) h Q = iOb (iGet h p 7 0) (fun v => iWp d mX7_remove 22 [a0, a1, a2] (v :: st) h Q) := w_getf dX7_remove_19 fF_7_9
theorem X7_remove_22 : iWp d mX7_remove 22 [a0, .int x, a2] st h Q = iWp d mX7_remove 23 [a0, .int x, a2] (.int x :: st) h Q := w_iload_n dX7_remove_22 rfl
theorem X7_remove_23 : iWp d mX7_remove 23 [a0, a1, a2] st h Q = iWp d mX7_remove 24 [a0, a1, a2] (.int 1 :: st) h Q := w_iconst dX7_remove_23 rfl
theorem X7_remove_24 : iWp d mX7_remove 24 [a0, a1, a2] (.int y :: .int x :: st) h Q = iWp d mX7_remove 25 [a0, a1, a2] (.int (x + y) :: st) h Q := w_iadd dX7_remove_24
theorem X7_remove_25 : iWp d mX7_remove 25 [.ref p, a1, a2] st h Q = iWp d mX7_remove 26 [.ref p, a1, a2] (.ref p :: st) h Q := w_aload_n dX7_remove_25 rfl
theorem X7_remove_26 : iWp d mX7_remove 26 [a0, a1, a2] (.ref p :: st) h Q = iOb (iGet h p 7 0) (fun v => iWp d mX7_remove 29 [a0, a1, a2] (v :: st) h Q) := w_getf dX7_remove_26 fF_7_9
theorem X7_remove_29 : iWp d mX7_remove 29 [a0, .int x, a2] st h Q = iWp d mX7_remove 30 [a0, .int x, a2] (.int x :: st) h Q := w_iload_n dX7_remove_29 rfl
theorem X7_remove_30 : iWp d mX7_remove 30 [a0, a1, .int x] st h Q = iWp d mX7_remove 31 [a0, a1, .int x] (.int x :: st) h Q := w_iload_n dX7_remove_30 rfl
theorem X7_remove_31 (hs : iSum st ≤ 8) : iWp d mX7_remove 31 [a0, a1, a2] (.int z :: .int y :: .ref q :: .int x :: .ref p :: st) h Q = iOb (iCpy h p x q y z) (fun g => iWp d mX7_remove 34 [a0, a1, a2] st g Q) := w_cpy dX7_remove_31 hs fK_7_25 rfl rfl
theorem X7_remove_34 : iWp d mX7_remove 34 [.ref p, a1, a2] st h Q = iWp d mX7_remove 35 [.ref p, a1, a2] (.ref p :: st) h Q := w_aload_n dX7_remove_34 rfl
theorem X7_remove_35 : iWp d mX7_remove 35 [a0, a1, a2] (.ref p :: st) h Q = iOb (iGet h p 7 1) (fun v => iWp d mX7_remove 38 [a0, a1, a2] (v :: st) h Q) := w_getf dX7_remove_35 fF_7_15
theorem X7_remove_38 : iWp d mX7_remove 38 [a0, .int x, a2] st h Q = iWp d mX7_remove 39 [a0, .int x, a2] (.int x :: st) h Q := w_iload_n dX7_remove_38 rfl
theorem X7_remove_39 : iWp d mX7_remove 39 [a0, a1, a2] st h Q = iWp d mX7_remove 40 [a0, a1, a2] (.int 1 :: st) h Q := w_iconst dX7_remove_39 rfl
theorem X7_remove_40 : iWp d mX7_remove 40 [a0, a1, a2] (.int y :: .int x :: st) h Q = iWp d mX7_remove 41 [a0, a1, a2] (.int (x + y) :: st) h Q := w_iadd dX7_remove_40
theorem X7_remove_41 : iWp d mX7_remove 41 [.ref p, a1, a2] st h Q = iWp d mX7_remove 42 [.ref p, a1, a2] (.ref p :: st) h Q := w_aload_n dX7_remove_41 rfl
theorem X7_remove_42 : iWp d mX7_remove 42 [a0, a1, a2] (.ref p :: st) h Q = iOb (iGet h p 7 1) (fun v => iWp d mX7_remove 45 [a0, a1, a2] (v :: st) h Q) := w_getf dX7_remove_42 fF_7_15
theorem X7_remove_45 : iWp d mX7_remove 45 [a0, .int x, a2] st h Q = iWp d mX7_remove 46 [a0, .int x, a2] (.int x :: st) h Q := w_iload_n dX7_remove_45 rfl
theorem X7_remove_46 : iWp d mX7_remove 46 [a0, a1, .int x] st h Q = iWp d mX7_remove 47 [a0, a1, .int x] (.int x :: st) h Q := w_iload_n dX7_remove_46 rfl
theorem X7_remove_47 (hs : iSum st ≤ 8) : iWp d mX7_remove 47 [a0, a1, a2] (.int z :: .int y :: .ref q :: .int x :: .ref p :: st) h Q = iOb (iCpy h p x q y z) (fun g => iWp d mX7_remove 50 [a0, a1, a2] st g Q) := w_cpy dX7_remove_47 hs fK_7_25 rfl rfl
theorem X7_remove_50 : iWp d mX7_remove 50 [.ref p, a1, a2] st h Q = iWp d mX7_remove 51 [.ref p, a1, a2] (.ref p :: st) h Q := w_aload_n dX7_remove_50 rfl
theorem X7_remove_51 : iWp d mX7_remove 51 [a0, a1, a2] (.ref p :: st) h Q = iOb (iGet h p 7 2) (fun v => iWp d mX7_remove 54 [a0, a1, a2] (v :: st) h Q) := w_getf dX7_remove_51 fF_7_18
theorem X7_remove_54 : iWp d mX7_remove 54 [a0, .int x, a2] st h Q = iWp d mX7_remove 55 [a0, .int x, a2] (.int x :: st) h Q := w_iload_n dX7_remove_54 rfl
theorem X7_remove_55 : iWp d mX7_remove 55 [a0, a1, a2] st h Q = iWp d mX7_remove 56 [a0, a1, a2] (.int 1 :: st) h Q := w_iconst dX7_remove_55 rfl
theorem X7_remove_56 : iWp d mX7_remove 56 [a0, a1, a2] (.int y :: .int x :: st) h Q = iWp d mX7_remove 57 [a0, a1, a2] (.int (x + y) :: st) h Q := w_iadd dX7_remove_56
theorem X7_remove_57 : iWp d mX7_remove 57 [.ref p, a1, a2] st h Q = iWp d mX7_remove 58 [.ref p, a1, a2] (.ref p :: st) h Q := w_aload_n dX7_remove_57 rfl
theorem X7_remove_58 : iWp d mX7_remove 58 [a0, a1, a2] (.ref p :: st) h Q = iOb (iGet h p 7 2) (fun v => iWp d mX7_remove 61 [a0, a1, a2] (v :: st) h Q) := w_getf dX7_remove_58 fF_7_18
theorem X7_remove_61 : iWp d mX7_remove 61 [a0, .int x, a2] st h Q = iWp d mX7_remove 62 [a0, .int x, a2] (.int x :: st) h Q := w_iload_n dX7_remove_61 rfl
theorem X7_remove_62 : iWp d mX7_remove 62 [a0, a1, .int x] st h Q = iWp d mX7_remove 63 [a0, a1, .int x] (.int x :: st) h Q := w_iload_n dX7_remove_62 rfl
theorem X7_remove_63 (hs : iSum st ≤ 8) : iWp d mX7_remove 63 [a0, a1, a2] (.int z :: .int y :: .ref q :: .int x :: .ref p :: st) h Q = iOb (iCpy h p x q y z) (fun g => iWp d mX7_remove 66 [a0, a1, a2] st g Q) := w_cpy dX7_remove_63 hs fK_7_25 rfl rfl
theorem X7_remove_66 : iWp d mX7_remove 66 [.ref p, a1, a2] st h Q = iWp d mX7_remove 67 [.ref p, a1, a2] (.ref p :: st) h Q := w_aload_n dX7_remove_66 rfl
theorem X7_remove_67 : iWp d mX7_remove 67 [a0, a1, a2] (.ref p :: st) h Q = iWp d mX7_remove 68 [a0, a1, a2] (.ref p :: .ref p :: st) h Q := w_dup dX7_remove_67 rfl
theorem X7_remove_68 : iWp d mX7_remove 68 [a0, a1, a2] (.ref p :: st) h Q = iOb (iGet h p 7 3) (fun v => iWp d mX7_remove 71 [a0, a1, a2] (v :: st) h Q) := w_getf dX7_remove_68 fF_7_21
theorem X7_remove_71 : iWp d mX7_remove 71 [a0, a1, a2] st h Q = iWp d mX7_remove 72 [a0, a1, a2] (.int 1 :: st) h Q := w_iconst dX7_remove_71 rfl
theorem X7_remove_72 : iWp d mX7_remove 72 [a0, a1, a2] (.int y :: .int x :: st) h Q = iWp d mX7_remove 73 [a0, a1, a2] (.int (x - y) :: st) h Q := w_isub dX7_remove_72
theorem X7_remove_73 : iWp d mX7_remove 73 [a0, a1, a2] (.int x :: .ref p :: st) h Q = iOb (iPut h p 7 3 (.int x)) (fun g => iWp d mX7_remove 76 [a0, a1, a2] st g Q) := w_putf dX7_remove_73 fF_7_21 ⟨rfl, (Or.inl rfl)⟩
theorem X7_remove_76 : iWp d mX7_remove 76 [a0, a1, a2] [] h Q = Q none h := w_ret dX7_remove_76 rfl
theorem I7_remove {Q : Option Value → iHp → Prop} (hw : iWp 2 mX7_remove 0 [.ref p, .int x0, iU] [] h Q) : ∃ r h1, iEv mX7_remove [.ref p, .int x0] h r h1 ∧ Q r h1 := iEv_of (by rfl) rfl hw
theorem J7_remove {r : Option Value} {h1 : iHp} (hw : iWp 2 mX7_remove 0 [.ref p, .int x0, iU] [] h (fun r' h' => r' = r ∧ h' = h1)) : iEv mX7_remove [.ref p, .int x0] h r h1 := iEv_ev (by rfl) rfl hw
theorem X7_rename_0 : iWp d mX7_rename 0 [.ref p, a1, a2] st h Q = iWp d mX7_rename 1 [.ref p, a1, a2] (.ref p :: st) h Q := w_aload_n dX7_rename_0 rfl
theorem X7_rename_1 : iWp d mX7_rename 1 [a0, .int x, a2] st h Q = iWp d mX7_rename 2 [a0, .int x, a2] (.int x :: st) h Q := w_iload_n dX7_rename_1 rfl
theorem X7_rename_2 (he : iEv mX7_has [.ref p, .int x0] h (some (.int rv)) h2) (ho : iObj h p 7 = true) : iWp 2 mX7_rename 2 [a0, a1, a2] [.int x0, .ref p] h Q = iWp 2 mX7_rename 5 [a0, a1, a2] [.int rv] h2 Q := iWp_cV dX7_rename_2 fK_7_31 rfl rfl ho (Nat.le_of_ble_eq_true rfl) (Nat.le_of_ble_eq_true rfl) rfl (Nat.le_of_ble_eq_true rfl) he rfl
theorem X7_rename_5 : iWp d mX7_rename 5 [a0, a1, a2] (.int x :: st) h Q = if x = 0 then iWp d mX7_rename 15 [a0, a1, a2] st h Q else iWp d mX7_rename 8 [a0, a1, a2] st h Q := w_ifc_eq dX7_rename_5 rfl
theorem X7_rename_8 : iWp d mX7_rename 8 [.ref p, a1, a2] st h Q = iWp d mX7_rename 9 [.ref p, a1, a2] (.ref p :: st) h Q := w_aload_n dX7_rename_8 rfl
theorem X7_rename_9 : iWp d mX7_rename 9 [a0, a1, a2] (.ref p :: st) h Q = iOb (iGet h p 7 1) (fun v => iWp d mX7_rename 12 [a0, a1, a2] (v :: st) h Q) := w_getf dX7_rename_9 fF_7_15
theorem X7_rename_12 : iWp d mX7_rename 12 [a0, .int x, a2] st h Q = iWp d mX7_rename 13 [a0, .int x, a2] (.int x :: st) h Q := w_iload_n dX7_rename_12 rfl
theorem X7_rename_13 : iWp d mX7_rename 13 [a0, a1, .int x] st h Q = iWp d mX7_rename 14 [a0, a1, .int x] (.int x :: st) h Q := w_iload_n dX7_rename_13 rfl
theorem X7_rename_14 : iWp d mX7_rename 14 [a0, a1, a2] (.int y :: .int x :: .ref p :: st) h Q = iOb (iStI h p x y) (fun g => iWp d mX7_rename 15 [a0, a1, a2] st g Q) := w_iastore dX7_rename_14
theorem X7_rename_15 : iWp d mX7_rename 15 [a0, a1, a2] [] h Q = Q none h := w_ret dX7_rename_15 rfl
theorem I7_rename {Q : Option Value → iHp → Prop} (hw : iWp 2 mX7_rename 0 [.ref p, .int x0, .int x1] [] h Q) : ∃ r h1, iEv mX7_rename [.ref p, .int x0, .int x1] h r h1 ∧ Q r h1 := iEv_of (by rfl) rfl hw
theorem J7_rename {r : Option Value} {h1 : iHp} (hw : iWp 2 mX7_rename 0 [.ref p, .int x0, .int x1] [] h (fun r' h' => r' = r ∧ h' = h1)) : iEv mX7_rename [.ref p, .int x0, .int x1] h r h1 := iEv_ev (by rfl) rfl hw
theorem X7_spot_0 : iWp d mX7_spot 0 [.ref p, a1, a2, a3, a4, a5, a6] st h Q = iWp d mX7_spot 1 [.ref p, a1, a2, a3, a4, a5, a6] (.ref p :: st) h Q := w_aload_n dX7_spot_0 rfl
theorem X7_spot_1 : iWp d mX7_spot 1 [a0, .int x, a2, a3, a4, a5, a6] st h Q = iWp d mX7_spot 2 [a0, .int x, a2, a3, a4, a5, a6] (.int x :: st) h Q := w_iload_n dX7_spot_1 rfl
theorem X7_spot_2 (he : iEv mX7_endOf [.ref p, .int x0] h (some (.int rv)) h2) (ho : iObj h p 7 = true) : iWp 3 mX7_spot 2 [a0, a1, a2, a3, a4, a5, a6] [.int x0, .ref p] h Q = iWp 3 mX7_spot 5 [a0, a1, a2, a3, a4, a5, a6] [.int rv] h2 Q := iWp_cV dX7_spot_2 fK_7_42 rfl rfl ho (Nat.le_of_ble_eq_true rfl) (Nat.le_of_ble_eq_true rfl) rfl (Nat.le_of_ble_eq_true rfl) he rfl
theorem X7_spot_5 : iWp d mX7_spot 5 [a0, a1, a2, a3, a4, a5, a6] (.int x :: st) h Q = iWp d mX7_spot 7 [a0, a1, a2, iClr a3, .int x, a5, a6] st h Q := w_istore dX7_spot_5 (Nat.le_of_ble_eq_true rfl) rfl
theorem X7_spot_7 : iWp d mX7_spot 7 [a0, a1, a2, a3, a4, a5, a6] st h Q = iWp d mX7_spot 8 [a0, a1, a2, a3, a4, a5, a6] (.int 0 :: st) h Q := w_iconst dX7_spot_7 rfl
theorem X7_spot_8 : iWp d mX7_spot 8 [a0, a1, a2, a3, a4, a5, a6] (.int x :: st) h Q = iWp d mX7_spot 10 [a0, a1, a2, a3, iClr a4, .int x, a6] st h Q := w_istore dX7_spot_8 (Nat.le_of_ble_eq_true rfl) rfl
theorem X7_spot_10 : iWp d mX7_spot 10 [a0, .int x, a2, a3, a4, a5, a6] st h Q = iWp d mX7_spot 11 [a0, .int x, a2, a3, a4, a5, a6] (.int x :: st) h Q := w_iload_n dX7_spot_10 rfl
theorem X7_spot_11 : iWp d mX7_spot 11 [a0, a1, a2, a3, a4, a5, a6] st h Q = iWp d mX7_spot 12 [a0, a1, a2, a3, a4, a5, a6] (.int 1 :: st) h Q := w_iconst dX7_spot_11 rfl
theorem X7_spot_12 : iWp d mX7_spot 12 [a0, a1, a2, a3, a4, a5, a6] (.int y :: .int x :: st) h Q = iWp d mX7_spot 13 [a0, a1, a2, a3, a4, a5, a6] (.int (x + y) :: st) h Q := w_iadd dX7_spot_12
theorem X7_spot_13 : iWp d mX7_spot 13 [a0, a1, a2, a3, a4, a5, a6] (.int x :: st) h Q = iWp d mX7_spot 15 [a0, a1, a2, a3, a4, iClr a5, .int x] st h Q := w_istore dX7_spot_13 (Nat.le_of_ble_eq_true rfl) rfl
theorem X7_spot_15 : iWp d mX7_spot 15 [a0, a1, a2, a3, a4, a5, .int x] st h Q = iWp d mX7_spot 17 [a0, a1, a2, a3, a4, a5, .int x] (.int x :: st) h Q := w_iload dX7_spot_15 rfl
theorem X7_spot_17 : iWp d mX7_spot 17 [a0, a1, a2, a3, .int x, a5, a6] st h Q = iWp d mX7_spot 19 [a0, a1, a2, a3, .int x, a5, a6] (.int x :: st) h Q := w_iload dX7_spot_17 rfl
theorem X7_spot_19 : iWp d mX7_spot 19 [a0, a1, a2, a3, a4, a5, a6] (.int y :: .int x :: st) h Q = if y ≤ x then iWp d mX7_spot 62 [a0, a1, a2, a3, a4, a5, a6] st h Q else iWp d mX7_spot 22 [a0, a1, a2, a3, a4, a5, a6] st h Q := w_icmp_ge dX7_spot_19 rfl
theorem X7_spot_22 : iWp d mX7_spot 22 [.ref p, a1, a2, a3, a4, a5, a6] st h Q = iWp d mX7_spot 23 [.ref p, a1, a2, a3, a4, a5, a6] (.ref p :: st) h Q := w_aload_n dX7_spot_22 rfl
theorem X7_spot_23 : iWp d mX7_spot 23 [a0, a1, a2, a3, a4, a5, .int x] st h Q = iWp d mX7_spot 25 [a0, a1, a2, a3, a4, a5, .int x] (.int x :: st) h Q := w_iload dX7_spot_23 rfl
theorem X7_spot_25 (he : iEv mX7_depthAt [.ref p, .int x0] h (some (.int rv)) h2) (ho : iObj h p 7 = true) : iWp 3 mX7_spot 25 [a0, a1, a2, a3, a4, a5, a6] [.int x0, .ref p] h Q = iWp 3 mX7_spot 28 [a0, a1, a2, a3, a4, a5, a6] [.int rv] h2 Q := iWp_cV dX7_spot_25 fK_7_45 rfl rfl ho (Nat.le_of_ble_eq_true rfl) (Nat.le_of_ble_eq_true rfl) rfl (Nat.le_of_ble_eq_true rfl) he rfl
theorem X7_spot_28 : iWp d mX7_spot 28 [.ref p, a1, a2, a3, a4, a5, a6] st h Q = iWp d mX7_spot 29 [.ref p, a1, a2, a3, a4, a5, a6] (.ref p :: st) h Q := w_aload_n dX7_spot_28 rfl
theorem X7_spot_29 : iWp d mX7_spot 29 [a0, .int x, a2, a3, a4, a5, a6] st h Q = iWp d mX7_spot 30 [a0, .int x, a2, a3, a4, a5, a6] (.int x :: st) h Q := w_iload_n dX7_spot_29 rfl
theorem X7_spot_30 (he : iEv mX7_depthAt [.ref p, .int x0] h (some (.int rv)) h2) (ho : iObj h p 7 = true) : iWp 3 mX7_spot 30 [a0, a1, a2, a3, a4, a5, a6] [.int x0, .ref p, .int r0] h Q = iWp 3 mX7_spot 33 [a0, a1, a2, a3, a4, a5, a6] [.int rv, .int r0] h2 Q := iWp_cV dX7_spot_30 fK_7_45 rfl rfl ho (Nat.le_of_ble_eq_true rfl) (Nat.le_of_ble_eq_true rfl) rfl (Nat.le_of_ble_eq_true rfl) he rfl
theorem X7_spot_33 : iWp d mX7_spot 33 [a0, a1, a2, a3, a4, a5, a6] st h Q = iWp d mX7_spot 34 [a0, a1, a2, a3, a4, a5, a6] (.int 1 :: st) h Q := w_iconst dX7_spot_33 rfl
theorem X7_spot_34 : iWp d mX7_spot 34 [a0, a1, a2, a3, a4, a5, a6] (.int y :: .int x :: st) h Q = iWp d mX7_spot 35 [a0, a1, a2, a3, a4, a5, a6] (.int (x + y) :: st) h Q := w_iadd dX7_spot_34
theorem X7_spot_35 : iWp d mX7_spot 35 [a0, a1, a2, a3, a4, a5, a6] (.int y :: .int x :: st) h Q = if x = y then iWp d mX7_spot 38 [a0, a1, a2, a3, a4, a5, a6] st h Q else iWp d mX7_spot 56 [a0, a1, a2, a3, a4, a5, a6] st h Q := w_icmp_ne dX7_spot_35 rfl
theorem X7_spot_38 : iWp d mX7_spot 38 [a0, a1, a2, a3, a4, a5, .int x] st h Q = iWp d mX7_spot 40 [a0, a1, a2, a3, a4, a5, .int x] (.int x :: st) h Q := w_iload dX7_spot_38 rfl
theorem X7_spot_40 : iWp d mX7_spot 40 [a0, a1, a2, .int x, a4, a5, a6] st h Q = iWp d mX7_spot 41 [a0, a1, a2, .int x, a4, a5, a6] (.int x :: st) h Q := w_iload_n dX7_spot_40 rfl
theorem X7_spot_41 : iWp d mX7_spot 41 [a0, a1, a2, a3, a4, a5, a6] (.int y :: .int x :: st) h Q = if x = y then iWp d mX7_spot 56 [a0, a1, a2, a3, a4, a5, a6] st h Q else iWp d mX7_spot 44 [a0, a1, a2, a3, a4, a5, a6] st h Q := w_icmp_eq dX7_spot_41 rfl
theorem X7_spot_44 : iWp d mX7_spot 44 [a0, a1, a2, a3, a4, .int x, a6] st h Q = iWp d mX7_spot 46 [a0, a1, a2, a3, a4, .int x, a6] (.int x :: st) h Q := w_iload dX7_spot_44 rfl
theorem X7_spot_46 : iWp d mX7_spot 46 [a0, a1, .int x, a3, a4, a5, a6] st h Q = iWp d mX7_spot 47 [a0, a1, .int x, a3, a4, a5, a6] (.int x :: st) h Q := w_iload_n dX7_spot_46 rfl
theorem X7_spot_47 : iWp d mX7_spot 47 [a0, a1, a2, a3, a4, a5, a6] (.int y :: .int x :: st) h Q = if x = y then iWp d mX7_spot 50 [a0, a1, a2, a3, a4, a5, a6] st h Q else iWp d mX7_spot 53 [a0, a1, a2, a3, a4, a5, a6] st h Q := w_icmp_ne dX7_spot_47 rfl
theorem X7_spot_50 : iWp d mX7_spot 50 [a0, a1, a2, a3, a4, a5, .int x] st h Q = iWp d mX7_spot 52 [a0, a1, a2, a3, a4, a5, .int x] (.int x :: st) h Q := w_iload dX7_spot_50 rfl
theorem X7_spot_52 : iWp d mX7_spot 52 [a0, a1, a2, a3, a4, a5, a6] [.int x] h Q = Q (some (.int x)) h := w_ireti dX7_spot_52 rfl
theorem X7_spot_53 : iWp d mX7_spot 53 [a0, a1, a2, a3, a4, .int x, a6] st h Q = iWp d mX7_spot 56 [a0, a1, a2, a3, iClr a4, .int (x + 1), a6] st h Q := w_iinc dX7_spot_53 rfl (Nat.le_of_ble_eq_true rfl) rfl
theorem X7_spot_56 : iWp d mX7_spot 56 [a0, a1, a2, a3, a4, a5, .int x] st h Q = iWp d mX7_spot 59 [a0, a1, a2, a3, a4, iClr a5, .int (x + 1)] st h Q := w_iinc dX7_spot_56 rfl (Nat.le_of_ble_eq_true rfl) rfl
theorem X7_spot_59 : iWp d mX7_spot 59 [a0, a1, a2, a3, a4, a5, a6] st h Q = iWp d mX7_spot 15 [a0, a1, a2, a3, a4, a5, a6] st h Q := w_goto dX7_spot_59 rfl
theorem X7_spot_62 : iWp d mX7_spot 62 [a0, a1, a2, a3, .int x, a5, a6] st h Q = iWp d mX7_spot 64 [a0, a1, a2, a3, .int x, a5, a6] (.int x :: st) h Q := w_iload dX7_spot_62 rfl
theorem X7_spot_64 : iWp d mX7_spot 64 [a0, a1, a2, a3, a4, a5, a6] [.int x] h Q = Q (some (.int x)) h := w_ireti dX7_spot_64 rfl
theorem I7_spot {Q : Option Value → iHp → Prop} (hw : iWp 3 mX7_spot 0 [.ref p, .int x0, .int x1, .int x2, iU, iU, iU] [] h Q) : ∃ r h1, iEv mX7_spot [.ref p, .int x0, .int x1, .int x2] h r h1 ∧ Q r h1 := iEv_of (by rfl) rfl hw
theorem J7_spot {r : Option Value} {h1 : iHp} (hw : iWp 3 mX7_spot 0 [.ref p, .int x0, .int x1, .int x2, iU, iU, iU] [] h (fun r' h' => r' = r ∧ h' = h1)) : iEv mX7_spot [.ref p, .int x0, .int x1, .int x2] h r h1 := iEv_ev (by rfl) rfl hw
theorem X7_turnRound_0 : iWp d mX7_turnRound 0 [a0, .int x, a2, a3, a4, a5, a6, a7] st h Q = iWp d mX7_turnRound 1 [a0, .int x, a2, a3, a4, a5, a6, a7] (.int x :: st) h Q := w_iload_n dX7_turnRound_0 rfl
theorem X7_turnRound_1 : iWp d mX7_turnRound 1 [a0, a1, a2, a3, a4, a5, a6, a7] (.int x :: st) h Q = if x < 0 then iWp d mX7_turnRound 12 [a0, a1, a2, a3, a4, a5, a6, a7] st h Q else iWp d mX7_turnRound 4 [a0, a1, a2, a3, a4, a5, a6, a7] st h Q := w_ifc_lt dX7_turnRound_1 rfl
theorem X7_turnRound_4 : iWp d mX7_turnRound 4 [a0, a1, .int x, a3, a4, a5, a6, a7] st h Q = iWp d mX7_turnRound 5 [a0, a1, .int x, a3, a4, a5, a6, a7] (.int x :: st) h Q := w_iload_n dX7_turnRound_4 rfl
theorem X7_turnRound_5 : iWp d mX7_turnRound 5 [.ref p, a1, a2, a3, a4, a5, a6, a7] st h Q = iWp d mX7_turnRound 6 [.ref p, a1, a2, a3, a4, a5, a6, a7] (.ref p :: st) h Q := w_aload_n dX7_turnRound_5 rfl
theorem X7_turnRound_6 : iWp d mX7_turnRound 6 [a0, a1, a2, a3, a4, a5, a6, a7] (.ref p :: st) h Q = iOb (iGet h p 7 3) (fun v => iWp d mX7_turnRound 9 [a0, a1, a2, a3, a4, a5, a6, a7] (v :: st) h Q) := w_getf dX7_turnRound_6 fF_7_21
theorem X7_turnRound_9 : iWp d mX7_turnRound 9 [a0, a1, a2, a3, a4, a5, a6, a7] (.int y :: .int x :: st) h Q = if x ≤ y then iWp d mX7_turnRound 13 [a0, a1, a2, a3, a4, a5, a6, a7] st h Q else iWp d mX7_turnRound 12 [a0, a1, a2, a3, a4, a5, a6, a7] st h Q := w_icmp_le dX7_turnRound_9 rfl
theorem X7_turnRound_12 : iWp d mX7_turnRound 12 [a0, a1, a2, a3, a4, a5, a6, a7] [] h Q = Q none h := w_ret dX7_turnRound_12 rfl
theorem X7_turnRound_13 : iWp d mX7_turnRound 13 [a0, .int x, a2, a3, a4, a5, a6, a7] st h Q = iWp d mX7_turnRound 14 [a0, .int x, a2, a3, a4, a5, a6, a7] (.int x :: st) h Q := w_iload_n dX7_turnRound_13 rfl
theorem X7_turnRound_14 : iWp d mX7_turnRound 14 [a0, a1, a2, a3, a4, a5, a6, a7] (.int x :: st) h Q = iWp d mX7_turnRound 15 [a0, a1, iClr a2, .int x, a4, a5, a6, a7] st h Q := w_istore_n dX7_turnRound_14 (Nat.le_of_ble_eq_true rfl) rfl
theorem X7_turnRound_15 : iWp d mX7_turnRound 15 [a0, a1, .int x, a3, a4, a5, a6, a7] st h Q = iWp d mX7_turnRound 16 [a0, a1, .int x, a3, a4, a5, a6, a7] (.int x :: st) h Q := w_iload_n dX7_turnRound_15 rfl
theorem X7_turnRound_16 : iWp d mX7_turnRound 16 [a0, a1, a2, a3, a4, a5, a6, a7] st h Q = iWp d mX7_turnRound 17 [a0, a1, a2, a3, a4, a5, a6, a7] (.int 1 :: st) h Q := w_iconst dX7_turnRound_16 rfl
theorem X7_turnRound_17 : iWp d mX7_turnRound 17 [a0, a1, a2, a3, a4, a5, a6, a7] (.int y :: .int x :: st) h Q = iWp d mX7_turnRound 18 [a0, a1, a2, a3, a4, a5, a6, a7] (.int (x - y) :: st) h Q := w_isub dX7_turnRound_17
theorem X7_turnRound_18 : iWp d mX7_turnRound 18 [a0, a1, a2, a3, a4, a5, a6, a7] (.int x :: st) h Q = iWp d mX7_turnRound 20 [a0, a1, a2, iClr a3, .int x, a5, a6, a7] st h Q := w_istore dX7_turnRound_18 (Nat.le_of_ble_eq_true rfl) rfl
theorem X7_turnRound_20 : iWp d mX7_turnRound 20 [a0, a1, a2, .int x, a4, a5, a6, a7] st h Q = iWp d mX7_turnRound 21 [a0, a1, a2, .int x, a4, a5, a6, a7] (.int x :: st) h Q := w_iload_n dX7_turnRound_20 rfl
theorem X7_turnRound_21 : iWp d mX7_turnRound 21 [a0, a1, a2, a3, .int x, a5, a6, a7] st h Q = iWp d mX7_turnRound 23 [a0, a1, a2, a3, .int x, a5, a6, a7] (.int x :: st) h Q := w_iload dX7_turnRound_21 rfl
theorem X7_turnRound_23 : iWp d mX7_turnRound 23 [a0, a1, a2, a3, a4, a5, a6, a7] (.int y :: .int x :: st) h Q = if y ≤ x then iWp d mX7_turnRound 125 [a0, a1, a2, a3, a4, a5, a6, a7] st h Q else iWp d mX7_turnRound 26 [a0, a1, a2, a3, a4, a5, a6, a7] st h Q := w_icmp_ge dX7_turnRound_23 rfl
theorem X7_turnRound_26 : iWp d mX7_turnRound 26 [.ref p, a1, a2, a3, a4, a5, a6, a7] st h Q = iWp d mX7_turnRound 27 [.ref p, a1, a2, a3, a4, a5, a6, a7] (.ref p :: st) h Q := w_aload_n dX7_turnRound_26 rfl
theorem X7_turnRound_27 : iWp d mX7_turnRound 27 [a0, a1, a2, a3, a4, a5, a6, a7] (.ref p :: st) h Q = iOb (iGet h p 7 0) (fun v => iWp d mX7_turnRound 30 [a0, a1, a2, a3, a4, a5, a6, a7] (v :: st) h Q) := w_getf dX7_turnRound_27 fF_7_9
theorem X7_turnRound_30 : iWp d mX7_turnRound 30 [a0, a1, a2, .int x, a4, a5, a6, a7] st h Q = iWp d mX7_turnRound 31 [a0, a1, a2, .int x, a4, a5, a6, a7] (.int x :: st) h Q := w_iload_n dX7_turnRound_30 rfl
theorem X7_turnRound_31 : iWp d mX7_turnRound 31 [a0, a1, a2, a3, a4, a5, a6, a7] (.int x :: .ref p :: st) h Q = iOb (iLdI h p x) (fun v => iWp d mX7_turnRound 32 [a0, a1, a2, a3, a4, a5, a6, a7] (.int v :: st) h Q) := w_iaload dX7_turnRound_31
theorem X7_turnRound_32 : iWp d mX7_turnRound 32 [a0, a1, a2, a3, a4, a5, a6, a7] (.int x :: st) h Q = iWp d mX7_turnRound 34 [a0, a1, a2, a3, iClr a4, .int x, a6, a7] st h Q := w_istore dX7_turnRound_32 (Nat.le_of_ble_eq_true rfl) rfl
theorem X7_turnRound_34 : iWp d mX7_turnRound 34 [.ref p, a1, a2, a3, a4, a5, a6, a7] st h Q = iWp d mX7_turnRound 35 [.ref p, a1, a2, a3, a4, a5, a6, a7] (.ref p :: st) h Q := w_aload_n dX7_turnRound_34 rfl
theorem X7_turnRound_35 : iWp d mX7_turnRound 35 [a0, a1, a2, a3, a4, a5, a6, a7] (.ref p :: st) h Q = iOb (iGet h p 7 0) (fun v => iWp d mX7_turnRound 38 [a0, a1, a2, a3, a4, a5, a6, a7] (v :: st) h Q) := w_getf dX7_turnRound_35 fF_7_9
theorem X7_turnRound_38 : iWp d mX7_turnRound 38 [a0, a1, a2, .int x, a4, a5, a6, a7] st h Q = iWp d mX7_turnRound 39 [a0, a1, a2, .int x, a4, a5, a6, a7] (.int x :: st) h Q := w_iload_n dX7_turnRound_38 rfl
theorem X7_turnRound_39 : iWp d mX7_turnRound 39 [.ref p, a1, a2, a3, a4, a5, a6, a7] st h Q = iWp d mX7_turnRound 40 [.ref p, a1, a2, a3, a4, a5, a6, a7] (.ref p :: st) h Q := w_aload_n dX7_turnRound_39 rfl
theorem X7_turnRound_40 : iWp d mX7_turnRound 40 [a0, a1, a2, a3, a4, a5, a6, a7] (.ref p :: st) h Q = iOb (iGet h p 7 0) (fun v => iWp d mX7_turnRound 43 [a0, a1, a2, a3, a4, a5, a6, a7] (v :: st) h Q) := w_getf dX7_turnRound_40 fF_7_9
theorem X7_turnRound_43 : iWp d mX7_turnRound 43 [a0, a1, a2, a3, .int x, a5, a6, a7] st h Q = iWp d mX7_turnRound 45 [a0, a1, a2, a3, .int x, a5, a6, a7] (.int x :: st) h Q := w_iload dX7_turnRound_43 rfl
theorem X7_turnRound_45 : iWp d mX7_turnRound 45 [a0, a1, a2, a3, a4, a5, a6, a7] (.int x :: .ref p :: st) h Q = iOb (iLdI h p x) (fun v => iWp d mX7_turnRound 46 [a0, a1, a2, a3, a4, a5, a6, a7] (.int v :: st) h Q) := w_iaload dX7_turnRound_45
theorem X7_turnRound_46 : iWp d mX7_turnRound 46 [a0, a1, a2, a3, a4, a5, a6, a7] (.int y :: .int x :: .ref p :: st) h Q = iOb (iStI h p x y) (fun g => iWp d mX7_turnRound 47 [a0, a1, a2, a3, a4, a5, a6, a7] st g Q) := w_iastore dX7_turnRound_46
theorem X7_turnRound_47 : iWp d mX7_turnRound 47 [.ref p, a1, a2, a3, a4, a5, a6, a7] st h Q = iWp d mX7_turnRound 48 [.ref p, a1, a2, a3, a4, a5, a6, a7] (.ref p :: st) h Q := w_aload_n dX7_turnRound_47 rfl
theorem X7_turnRound_48 : iWp d mX7_turnRound 48 [a0, a1, a2, a3, a4, a5, a6, a7] (.ref p :: st) h Q = iOb (iGet h p 7 0) (fun v => iWp d mX7_turnRound 51 [a0, a1, a2, a3, a4, a5, a6, a7] (v :: st) h Q) := w_getf dX7_turnRound_48 fF_7_9
theorem X7_turnRound_51 : iWp d mX7_turnRound 51 [a0, a1, a2, a3, .int x, a5, a6, a7] st h Q = iWp d mX7_turnRound 53 [a0, a1, a2, a3, .int x, a5, a6, a7] (.int x :: st) h Q := w_iload dX7_turnRound_51 rfl
theorem X7_turnRound_53 : iWp d mX7_turnRound 53 [a0, a1, a2, a3, a4, .int x, a6, a7] st h Q = iWp d mX7_turnRound 55 [a0, a1, a2, a3, a4, .int x, a6, a7] (.int x :: st) h Q := w_iload dX7_turnRound_53 rfl
theorem X7_turnRound_55 : iWp d mX7_turnRound 55 [a0, a1, a2, a3, a4, a5, a6, a7] (.int y :: .int x :: .ref p :: st) h Q = iOb (iStI h p x y) (fun g => iWp d mX7_turnRound 56 [a0, a1, a2, a3, a4, a5, a6, a7] st g Q) := w_iastore dX7_turnRound_55
theorem X7_turnRound_56 : iWp d mX7_turnRound 56 [.ref p, a1, a2, a3, a4, a5, a6, a7] st h Q = iWp d mX7_turnRound 57 [.ref p, a1, a2, a3, a4, a5, a6, a7] (.ref p :: st) h Q := w_aload_n dX7_turnRound_56 rfl
theorem X7_turnRound_57 : iWp d mX7_turnRound 57 [a0, a1, a2, a3, a4, a5, a6, a7] (.ref p :: st) h Q = iOb (iGet h p 7 1) (fun v => iWp d mX7_turnRound 60 [a0, a1, a2, a3, a4, a5, a6, a7] (v :: st) h Q) := w_getf dX7_turnRound_57 fF_7_15
theorem X7_turnRound_60 : iWp d mX7_turnRound 60 [a0, a1, a2, .int x, a4, a5, a6, a7] st h Q = iWp d mX7_turnRound 61 [a0, a1, a2, .int x, a4, a5, a6, a7] (.int x :: st) h Q := w_iload_n dX7_turnRound_60 rfl
theorem X7_turnRound_61 : iWp d mX7_turnRound 61 [a0, a1, a2, a3, a4, a5, a6, a7] (.int x :: .ref p :: st) h Q = iOb (iLdI h p x) (fun v => iWp d mX7_turnRound 62 [a0, a1, a2, a3, a4, a5, a6, a7] (.int v :: st) h Q) := w_iaload dX7_turnRound_61
theorem X7_turnRound_62 : iWp d mX7_turnRound 62 [a0, a1, a2, a3, a4, a5, a6, a7] (.int x :: st) h Q = iWp d mX7_turnRound 64 [a0, a1, a2, a3, a4, iClr a5, .int x, a7] st h Q := w_istore dX7_turnRound_62 (Nat.le_of_ble_eq_true rfl) rfl
theorem X7_turnRound_64 : iWp d mX7_turnRound 64 [.ref p, a1, a2, a3, a4, a5, a6, a7] st h Q = iWp d mX7_turnRound 65 [.ref p, a1, a2, a3, a4, a5, a6, a7] (.ref p :: st) h Q := w_aload_n dX7_turnRound_64 rfl
theorem X7_turnRound_65 : iWp d mX7_turnRound 65 [a0, a1, a2, a3, a4, a5, a6, a7] (.ref p :: st) h Q = iOb (iGet h p 7 1) (fun v => iWp d mX7_turnRound 68 [a0, a1, a2, a3, a4, a5, a6, a7] (v :: st) h Q) := w_getf dX7_turnRound_65 fF_7_15
theorem X7_turnRound_68 : iWp d mX7_turnRound 68 [a0, a1, a2, .int x, a4, a5, a6, a7] st h Q = iWp d mX7_turnRound 69 [a0, a1, a2, .int x, a4, a5, a6, a7] (.int x :: st) h Q := w_iload_n dX7_turnRound_68 rfl
theorem X7_turnRound_69 : iWp d mX7_turnRound 69 [.ref p, a1, a2, a3, a4, a5, a6, a7] st h Q = iWp d mX7_turnRound 70 [.ref p, a1, a2, a3, a4, a5, a6, a7] (.ref p :: st) h Q := w_aload_n dX7_turnRound_69 rfl
theorem X7_turnRound_70 : iWp d mX7_turnRound 70 [a0, a1, a2, a3, a4, a5, a6, a7] (.ref p :: st) h Q = iOb (iGet h p 7 1) (fun v => iWp d mX7_turnRound 73 [a0, a1, a2, a3, a4, a5, a6, a7] (v :: st) h Q) := w_getf dX7_turnRound_70 fF_7_15
theorem X7_turnRound_73 : iWp d mX7_turnRound 73 [a0, a1, a2, a3, .int x, a5, a6, a7] st h Q = iWp d mX7_turnRound 75 [a0, a1, a2, a3, .int x, a5, a6, a7] (.int x :: st) h Q := w_iload dX7_turnRound_73 rfl
theorem X7_turnRound_75 : iWp d mX7_turnRound 75 [a0, a1, a2, a3, a4, a5, a6, a7] (.int x :: .ref p :: st) h Q = iOb (iLdI h p x) (fun v => iWp d mX7_turnRound 76 [a0, a1, a2, a3, a4, a5, a6, a7] (.int v :: st) h Q) := w_iaload dX7_turnRound_75
theorem X7_turnRound_76 : iWp d mX7_turnRound 76 [a0, a1, a2, a3, a4, a5, a6, a7] (.int y :: .int x :: .ref p :: st) h Q = iOb (iStI h p x y) (fun g => iWp d mX7_turnRound 77 [a0, a1, a2, a3, a4, a5, a6, a7] st g Q) := w_iastore dX7_turnRound_76
theorem X7_turnRound_77 : iWp d mX7_turnRound 77 [.ref p, a1, a2, a3, a4, a5, a6, a7] st h Q = iWp d mX7_turnRound 78 [.ref p, a1, a2, a3, a4, a5, a6, a7] (.ref p :: st) h Q := w_aload_n dX7_turnRound_77 rfl
theorem X7_turnRound_78 : iWp d mX7_turnRound 78 [a0, a1, a2, a3, a4, a5, a6, a7] (.ref p :: st) h Q = iOb (iGet h p 7 1) (fun v => iWp d mX7_turnRound 81 [a0, a1, a2, a3, a4, a5, a6, a7] (v :: st) h Q) := w_getf dX7_turnRound_78 fF_7_15
theorem X7_turnRound_81 : iWp d mX7_turnRound 81 [a0, a1, a2, a3, .int x, a5, a6, a7] st h Q = iWp d mX7_turnRound 83 [a0, a1, a2, a3, .int x, a5, a6, a7] (.int x :: st) h Q := w_iload dX7_turnRound_81 rfl
theorem X7_turnRound_83 : iWp d mX7_turnRound 83 [a0, a1, a2, a3, a4, a5, .int x, a7] st h Q = iWp d mX7_turnRound 85 [a0, a1, a2, a3, a4, a5, .int x, a7] (.int x :: st) h Q := w_iload dX7_turnRound_83 rfl
theorem X7_turnRound_85 : iWp d mX7_turnRound 85 [a0, a1, a2, a3, a4, a5, a6, a7] (.int y :: .int x :: .ref p :: st) h Q = iOb (iStI h p x y) (fun g => iWp d mX7_turnRound 86 [a0, a1, a2, a3, a4, a5, a6, a7] st g Q) := w_iastore dX7_turnRound_85
theorem X7_turnRound_86 : iWp d mX7_turnRound 86 [.ref p, a1, a2, a3, a4, a5, a6, a7] st h Q = iWp d mX7_turnRound 87 [.ref p, a1, a2, a3, a4, a5, a6, a7] (.ref p :: st) h Q := w_aload_n dX7_turnRound_86 rfl
theorem X7_turnRound_87 : iWp d mX7_turnRound 87 [a0, a1, a2, a3, a4, a5, a6, a7] (.ref p :: st) h Q = iOb (iGet h p 7 2) (fun v => iWp d mX7_turnRound 90 [a0, a1, a2, a3, a4, a5, a6, a7] (v :: st) h Q) := w_getf dX7_turnRound_87 fF_7_18
theorem X7_turnRound_90 : iWp d mX7_turnRound 90 [a0, a1, a2, .int x, a4, a5, a6, a7] st h Q = iWp d mX7_turnRound 91 [a0, a1, a2, .int x, a4, a5, a6, a7] (.int x :: st) h Q := w_iload_n dX7_turnRound_90 rfl
theorem X7_turnRound_91 : iWp d mX7_turnRound 91 [a0, a1, a2, a3, a4, a5, a6, a7] (.int x :: .ref p :: st) h Q = iOb (iLdI h p x) (fun v => iWp d mX7_turnRound 92 [a0, a1, a2, a3, a4, a5, a6, a7] (.int v :: st) h Q) := w_iaload dX7_turnRound_91
theorem X7_turnRound_92 : iWp d mX7_turnRound 92 [a0, a1, a2, a3, a4, a5, a6, a7] (.int x :: st) h Q = iWp d mX7_turnRound 94 [a0, a1, a2, a3, a4, a5, iClr a6, .int x] st h Q := w_istore dX7_turnRound_92 (Nat.le_of_ble_eq_true rfl) rfl
theorem X7_turnRound_94 : iWp d mX7_turnRound 94 [.ref p, a1, a2, a3, a4, a5, a6, a7] st h Q = iWp d mX7_turnRound 95 [.ref p, a1, a2, a3, a4, a5, a6, a7] (.ref p :: st) h Q := w_aload_n dX7_turnRound_94 rfl
theorem X7_turnRound_95 : iWp d mX7_turnRound 95 [a0, a1, a2, a3, a4, a5, a6, a7] (.ref p :: st) h Q = iOb (iGet h p 7 2) (fun v => iWp d mX7_turnRound 98 [a0, a1, a2, a3, a4, a5, a6, a7] (v :: st) h Q) := w_getf dX7_turnRound_95 fF_7_18
theorem X7_turnRound_98 : iWp d mX7_turnRound 98 [a0, a1, a2, .int x, a4, a5, a6, a7] st h Q = iWp d mX7_turnRound 99 [a0, a1, a2, .int x, a4, a5, a6, a7] (.int x :: st) h Q := w_iload_n dX7_turnRound_98 rfl
theorem X7_turnRound_99 : iWp d mX7_turnRound 99 [.ref p, a1, a2, a3, a4, a5, a6, a7] st h Q = iWp d mX7_turnRound 100 [.ref p, a1, a2, a3, a4, a5, a6, a7] (.ref p :: st) h Q := w_aload_n dX7_turnRound_99 rfl
theorem X7_turnRound_100 : iWp d mX7_turnRound 100 [a0, a1, a2, a3, a4, a5, a6, a7] (.ref p :: st) h Q = iOb (iGet h p 7 2) (fun v => iWp d mX7_turnRound 103 [a0, a1, a2, a3, a4, a5, a6, a7] (v :: st) h Q) := w_getf dX7_turnRound_100 fF_7_18
theorem X7_turnRound_103 : iWp d mX7_turnRound 103 [a0, a1, a2, a3, .int x, a5, a6, a7] st h Q = iWp d mX7_turnRound 105 [a0, a1, a2, a3, .int x, a5, a6, a7] (.int x :: st) h Q := w_iload dX7_turnRound_103 rfl
theorem X7_turnRound_105 : iWp d mX7_turnRound 105 [a0, a1, a2, a3, a4, a5, a6, a7] (.int x :: .ref p :: st) h Q = iOb (iLdI h p x) (fun v => iWp d mX7_turnRound 106 [a0, a1, a2, a3, a4, a5, a6, a7] (.int v :: st) h Q) := w_iaload dX7_turnRound_105
theorem X7_turnRound_106 : iWp d mX7_turnRound 106 [a0, a1, a2, a3, a4, a5, a6, a7] (.int y :: .int x :: .ref p :: st) h Q = iOb (iStI h p x y) (fun g => iWp d mX7_turnRound 107 [a0, a1, a2, a3, a4, a5, a6, a7] st g Q) := w_iastore dX7_turnRound_106
theorem X7_turnRound_107 : iWp d mX7_turnRound 107 [.ref p, a1, a2, a3, a4, a5, a6, a7] st h Q = iWp d mX7_turnRound 108 [.ref p, a1, a2, a3, a4, a5, a6, a7] (.ref p :: st) h Q := w_aload_n dX7_turnRound_107 rfl
theorem X7_turnRound_108 : iWp d mX7_turnRound 108 [a0, a1, a2, a3, a4, a5, a6, a7] (.ref p :: st) h Q = iOb (iGet h p 7 2) (fun v => iWp d mX7_turnRound 111 [a0, a1, a2, a3, a4, a5, a6, a7] (v :: st) h Q) := w_getf dX7_turnRound_108 fF_7_18
theorem X7_turnRound_111 : iWp d mX7_turnRound 111 [a0, a1, a2, a3, .int x, a5, a6, a7] st h Q = iWp d mX7_turnRound 113 [a0, a1, a2, a3, .int x, a5, a6, a7] (.int x :: st) h Q := w_iload dX7_turnRound_111 rfl
theorem X7_turnRound_113 : iWp d mX7_turnRound 113 [a0, a1, a2, a3, a4, a5, a6, .int x] st h Q = iWp d mX7_turnRound 115 [a0, a1, a2, a3, a4, a5, a6, .int x] (.int x :: st) h Q := w_iload dX7_turnRound_113 rfl
theorem X7_turnRound_115 : iWp d mX7_turnRound 115 [a0, a1, a2, a3, a4, a5, a6, a7] (.int y :: .int x :: .ref p :: st) h Q = iOb (iStI h p x y) (fun g => iWp d mX7_turnRound 116 [a0, a1, a2, a3, a4, a5, a6, a7] st g Q) := w_iastore dX7_turnRound_115
theorem X7_turnRound_116 : iWp d mX7_turnRound 116 [a0, a1, a2, .int x, a4, a5, a6, a7] st h Q = iWp d mX7_turnRound 119 [a0, a1, iClr a2, .int (x + 1), a4, a5, a6, a7] st h Q := w_iinc dX7_turnRound_116 rfl (Nat.le_of_ble_eq_true rfl) rfl
theorem X7_turnRound_119 : iWp d mX7_turnRound 119 [a0, a1, a2, a3, .int x, a5, a6, a7] st h Q = iWp d mX7_turnRound 122 [a0, a1, a2, iClr a3, .int (x + (-1)), a5, a6, a7] st h Q := w_iinc dX7_turnRound_119 rfl (Nat.le_of_ble_eq_true rfl) rfl
theorem X7_turnRound_122 : iWp d mX7_turnRound 122 [a0, a1, a2, a3, a4, a5, a6, a7] st h Q = iWp d mX7_turnRound 20 [a0, a1, a2, a3, a4, a5, a6, a7] st h Q := w_goto dX7_turnRound_122 rfl
theorem X7_turnRound_125 : iWp d mX7_turnRound 125 [a0, a1, a2, a3, a4, a5, a6, a7] [] h Q = Q none h := w_ret dX7_turnRound_125 rfl
theorem I7_turnRound {Q : Option Value → iHp → Prop} (hw : iWp 1 mX7_turnRound 0 [.ref p, .int x0, .int x1, iU, iU, iU, iU, iU] [] h Q) : ∃ r h1, iEv mX7_turnRound [.ref p, .int x0, .int x1] h r h1 ∧ Q r h1 := iEv_of (by rfl) rfl hw
theorem J7_turnRound {r : Option Value} {h1 : iHp} (hw : iWp 1 mX7_turnRound 0 [.ref p, .int x0, .int x1, iU, iU, iU, iU, iU] [] h (fun r' h' => r' = r ∧ h' = h1)) : iEv mX7_turnRound [.ref p, .int x0, .int x1] h r h1 := iEv_ev (by rfl) rfl hw
theorem X7_whereOf_0 : iWp d mX7_whereOf 0 [a0, a1, a2] st h Q = iWp d mX7_whereOf 1 [a0, a1, a2] (.int 0 :: st) h Q := w_iconst dX7_whereOf_0 rfl
theorem X7_whereOf_1 : iWp d mX7_whereOf 1 [a0, a1, a2] (.int x :: st) h Q = iWp d mX7_whereOf 2 [a0, iClr a1, .int x] st h Q := w_istore_n dX7_whereOf_1 (Nat.le_of_ble_eq_true rfl) rfl
theorem X7_whereOf_2 : iWp d mX7_whereOf 2 [a0, a1, .int x] st h Q = iWp d mX7_whereOf 3 [a0, a1, .int x] (.int x :: st) h Q := w_iload_n dX7_whereOf_2 rfl
theorem X7_whereOf_3 : iWp d mX7_whereOf 3 [.ref p, a1, a2] st h Q = iWp d mX7_whereOf 4 [.ref p, a1, a2] (.ref p :: st) h Q := w_aload_n dX7_whereOf_3 rfl
theorem X7_whereOf_4 : iWp d mX7_whereOf 4 [a0, a1, a2] (.ref p :: st) h Q = iOb (iGet h p 7 3) (fun v => iWp d mX7_whereOf 7 [a0, a1, a2] (v :: st) h Q) := w_getf dX7_whereOf_4 fF_7_21
theorem X7_whereOf_7 : iWp d mX7_whereOf 7 [a0, a1, a2] (.int y :: .int x :: st) h Q = if y ≤ x then iWp d mX7_whereOf 28 [a0, a1, a2] st h Q else iWp d mX7_whereOf 10 [a0, a1, a2] st h Q := w_icmp_ge dX7_whereOf_7 rfl
theorem X7_whereOf_10 : iWp d mX7_whereOf 10 [.ref p, a1, a2] st h Q = iWp d mX7_whereOf 11 [.ref p, a1, a2] (.ref p :: st) h Q := w_aload_n dX7_whereOf_10 rfl
theorem X7_whereOf_11 : iWp d mX7_whereOf 11 [a0, a1, a2] (.ref p :: st) h Q = iOb (iGet h p 7 0) (fun v => iWp d mX7_whereOf 14 [a0, a1, a2] (v :: st) h Q) := w_getf dX7_whereOf_11 fF_7_9
theorem X7_whereOf_14 : iWp d mX7_whereOf 14 [a0, a1, .int x] st h Q = iWp d mX7_whereOf 15 [a0, a1, .int x] (.int x :: st) h Q := w_iload_n dX7_whereOf_14 rfl
theorem X7_whereOf_15 : iWp d mX7_whereOf 15 [a0, a1, a2] (.int x :: .ref p :: st) h Q = iOb (iLdI h p x) (fun v => iWp d mX7_whereOf 16 [a0, a1, a2] (.int v :: st) h Q) := w_iaload dX7_whereOf_15
theorem X7_whereOf_16 : iWp d mX7_whereOf 16 [a0, .int x, a2] st h Q = iWp d mX7_whereOf 17 [a0, .int x, a2] (.int x :: st) h Q := w_iload_n dX7_whereOf_16 rfl
theorem X7_whereOf_17 : iWp d mX7_whereOf 17 [a0, a1, a2] (.int y :: .int x :: st) h Q = if x = y then iWp d mX7_whereOf 20 [a0, a1, a2] st h Q else iWp d mX7_whereOf 22 [a0, a1, a2] st h Q := w_icmp_ne dX7_whereOf_17 rfl
theorem X7_whereOf_20 : iWp d mX7_whereOf 20 [a0, a1, .int x] st h Q = iWp d mX7_whereOf 21 [a0, a1, .int x] (.int x :: st) h Q := w_iload_n dX7_whereOf_20 rfl
theorem X7_whereOf_21 : iWp d mX7_whereOf 21 [a0, a1, a2] [.int x] h Q = Q (some (.int x)) h := w_ireti dX7_whereOf_21 rfl
theorem X7_whereOf_22 : iWp d mX7_whereOf 22 [a0, a1, .int x] st h Q = iWp d mX7_whereOf 25 [a0, iClr a1, .int (x + 1)] st h Q := w_iinc dX7_whereOf_22 rfl (Nat.le_of_ble_eq_true rfl) rfl
theorem X7_whereOf_25 : iWp d mX7_whereOf 25 [a0, a1, a2] st h Q = iWp d mX7_whereOf 2 [a0, a1, a2] st h Q := w_goto dX7_whereOf_25 rfl
theorem X7_whereOf_28 : iWp d mX7_whereOf 28 [a0, a1, a2] st h Q = iWp d mX7_whereOf 29 [a0, a1, a2] (.int (-1) :: st) h Q := w_iconst dX7_whereOf_28 rfl
theorem X7_whereOf_29 : iWp d mX7_whereOf 29 [a0, a1, a2] [.int x] h Q = Q (some (.int x)) h := w_ireti dX7_whereOf_29 rfl
theorem I7_whereOf {Q : Option Value → iHp → Prop} (hw : iWp 1 mX7_whereOf 0 [.ref p, .int x0, iU] [] h Q) : ∃ r h1, iEv mX7_whereOf [.ref p, .int x0] h r h1 ∧ Q r h1 := iEv_of (by rfl) rfl hw
theorem J7_whereOf {r : Option Value} {h1 : iHp} (hw : iWp 1 mX7_whereOf 0 [.ref p, .int x0, iU] [] h (fun r' h' => r' = r ∧ h' = h1)) : iEv mX7_whereOf [.ref p, .int x0] h r h1 := iEv_ev (by rfl) rfl hw
end XS

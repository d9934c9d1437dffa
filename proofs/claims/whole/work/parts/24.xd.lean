section XS
variable {d : Nat} {a0 a1 a2 a3 a4 a5 a6 a7 a8 a9 a10 a11 a12 a13 b0 b1 b2 b3 rw : Value} {x y z x0 x1 x2 x3 x4 x5 x6 r0 r1 r2 r3 r4 r5 r6 rv : Int32} {u v u0 u1 u2 s0 s1 rl : Int64} {p q t0 t1 t2 t3 t4 t5 t6 : Nat} {b : Bool} {st : List Value} {h h2 : iHp} {Q : Option Value → iHp → Prop}

theorem X9_above_0 : iWp d mX9_above 0 [.ref p, a1, a2, a3, a4, a5] st h Q = iWp d mX9_above 1 [.ref p, a1, a2, a3, a4, a5] (.ref p :: st) h Q := w_aload_n dX9_above_0 rfl
theorem X9_above_1 : iWp d mX9_above 1 [a0, .int x, a2, a3, a4, a5] st h Q = iWp d mX9_above 2 [a0, .int x, a2, a3, a4, a5] (.int x :: st) h Q := w_iload_n dX9_above_1 rfl
theorem X9_above_2 (he : iEv mX9_isTree [.ref p, .int x0] h (some (.int rv)) h2) (ho : iObj h p 9 = true) : iWp 3 mX9_above 2 [a0, a1, a2, a3, a4, a5] [.int x0, .ref p] h Q = iWp 3 mX9_above 5 [a0, a1, a2, a3, a4, a5] [.int rv] h2 Q := iWp_cV dX9_above_2 fK_9_166 rfl rfl ho (Nat.le_of_ble_eq_true rfl) (Nat.le_of_ble_eq_true rfl) rfl (Nat.le_of_ble_eq_true rfl) he rfl
theorem X9_above_5 : iWp d mX9_above 5 [a0, a1, a2, a3, a4, a5] (.int x :: st) h Q = if x = 0 then iWp d mX9_above 8 [a0, a1, a2, a3, a4, a5] st h Q else iWp d mX9_above 14 [a0, a1, a2, a3, a4, a5] st h Q := w_ifc_ne dX9_above_5 rfl
theorem X9_above_8 : iWp d mX9_above 8 [.ref p, a1, a2, a3, a4, a5] st h Q = iWp d mX9_above 9 [.ref p, a1, a2, a3, a4, a5] (.ref p :: st) h Q := w_aload_n dX9_above_8 rfl
theorem X9_above_9 : iWp d mX9_above 9 [a0, a1, a2, a3, a4, a5] st h Q = iWp d mX9_above 10 [a0, a1, a2, a3, a4, a5] (.int (-1) :: st) h Q := w_iconst dX9_above_9 rfl
theorem X9_above_10 (he : iEv mX9_no [.ref p, .int x0] h (some (.int rv)) h2) (ho : iObj h p 9 = true) : iWp 3 mX9_above 10 [a0, a1, a2, a3, a4, a5] [.int x0, .ref p] h Q = iWp 3 mX9_above 13 [a0, a1, a2, a3, a4, a5] [.int rv] h2 Q := iWp_cV dX9_above_10 fK_9_99 rfl rfl ho (Nat.le_of_ble_eq_true rfl) (Nat.le_of_ble_eq_true rfl) rfl (Nat.le_of_ble_eq_true rfl) he rfl
theorem X9_above_13 : iWp d mX9_above 13 [a0, a1, a2, a3, a4, a5] [.int x] h Q = Q (some (.int x)) h := w_ireti dX9_above_13 rfl
theorem X9_above_14 : iWp d mX9_above 14 [.ref p, a1, a2, a3, a4, a5] st h Q = iWp d mX9_above 15 [.ref p, a1, a2, a3, a4, a5] (.ref p :: st) h Q := w_aload_n dX9_above_14 rfl
theorem X9_above_15 : iWp d mX9_above 15 [a0, .int x, a2, a3, a4, a5] st h Q = iWp d mX9_above 16 [a0, .int x, a2, a3, a4, a5] (.int x :: st) h Q := w_iload_n dX9_above_15 rfl
theorem X9_above_16 (he : iEv mX9_loads [.ref p, .int x0] h none h2) (ho : iObj h p 9 = true) : iWp 3 mX9_above 16 [a0, a1, a2, a3, a4, a5] [.int x0, .ref p] h Q = iWp 3 mX9_above 19 [a0, a1, a2, a3, a4, a5] [] h2 Q := iWp_cV dX9_above_16 fK_9_169 rfl rfl ho (Nat.le_of_ble_eq_true rfl) (Nat.le_of_ble_eq_true rfl) rfl (Nat.le_of_ble_eq_true rfl) he rfl
theorem X9_above_19 : iWp d mX9_above 19 [.ref p, a1, a2, a3, a4, a5] st h Q = iWp d mX9_above 20 [.ref p, a1, a2, a3, a4, a5] (.ref p :: st) h Q := w_aload_n dX9_above_19 rfl
theorem X9_above_20 : iWp d mX9_above 20 [a0, a1, .int x, a3, a4, a5] st h Q = iWp d mX9_above 21 [a0, a1, .int x, a3, a4, a5] (.int x :: st) h Q := w_iload_n dX9_above_20 rfl
theorem X9_above_21 (he : iEv mX9_find [.ref p, .int x0] h (some (.int rv)) h2) (ho : iObj h p 9 = true) : iWp 3 mX9_above 21 [a0, a1, a2, a3, a4, a5] [.int x0, .ref p] h Q = iWp 3 mX9_above 24 [a0, a1, a2, a3, a4, a5] [.int rv] h2 Q := iWp_cV dX9_above_21 fK_9_153 rfl rfl ho (Nat.le_of_ble_eq_true rfl) (Nat.le_of_ble_eq_true rfl) rfl (Nat.le_of_ble_eq_true rfl) he rfl
theorem X9_above_24 : iWp d mX9_above 24 [a0, a1, a2, a3, a4, a5] (.int x :: st) h Q = iWp d mX9_above 26 [a0, a1, a2, iClr a3, .int x, a5] st h Q := w_istore dX9_above_24 (Nat.le_of_ble_eq_true rfl) rfl
theorem X9_above_26 : iWp d mX9_above 26 [.ref p, a1, a2, a3, a4, a5] st h Q = iWp d mX9_above 27 [.ref p, a1, a2, a3, a4, a5] (.ref p :: st) h Q := w_aload_n dX9_above_26 rfl
theorem X9_above_27 : iWp d mX9_above 27 [a0, a1, a2, .int x, a4, a5] st h Q = iWp d mX9_above 28 [a0, a1, a2, .int x, a4, a5] (.int x :: st) h Q := w_iload_n dX9_above_27 rfl
theorem X9_above_28 (he : iEv mX9_find [.ref p, .int x0] h (some (.int rv)) h2) (ho : iObj h p 9 = true) : iWp 3 mX9_above 28 [a0, a1, a2, a3, a4, a5] [.int x0, .ref p] h Q = iWp 3 mX9_above 31 [a0, a1, a2, a3, a4, a5] [.int rv] h2 Q := iWp_cV dX9_above_28 fK_9_153 rfl rfl ho (Nat.le_of_ble_eq_true rfl) (Nat.le_of_ble_eq_true rfl) rfl (Nat.le_of_ble_eq_true rfl) he rfl
theorem X9_above_31 : iWp d mX9_above 31 [a0, a1, a2, a3, a4, a5] (.int x :: st) h Q = iWp d mX9_above 33 [a0, a1, a2, a3, iClr a4, .int x] st h Q := w_istore dX9_above_31 (Nat.le_of_ble_eq_true rfl) rfl
theorem X9_above_33 : iWp d mX9_above 33 [a0, a1, a2, a3, .int x, a5] st h Q = iWp d mX9_above 35 [a0, a1, a2, a3, .int x, a5] (.int x :: st) h Q := w_iload dX9_above_33 rfl
theorem X9_above_35 : iWp d mX9_above 35 [a0, a1, a2, a3, a4, a5] st h Q = iWp d mX9_above 36 [a0, a1, a2, a3, a4, a5] (.int (-1) :: st) h Q := w_iconst dX9_above_35 rfl
theorem X9_above_36 : iWp d mX9_above 36 [a0, a1, a2, a3, a4, a5] (.int y :: .int x :: st) h Q = if x = y then iWp d mX9_above 45 [a0, a1, a2, a3, a4, a5] st h Q else iWp d mX9_above 39 [a0, a1, a2, a3, a4, a5] st h Q := w_icmp_eq dX9_above_36 rfl
theorem X9_above_39 : iWp d mX9_above 39 [a0, a1, a2, a3, a4, .int x] st h Q = iWp d mX9_above 41 [a0, a1, a2, a3, a4, .int x] (.int x :: st) h Q := w_iload dX9_above_39 rfl
theorem X9_above_41 : iWp d mX9_above 41 [a0, a1, a2, a3, a4, a5] st h Q = iWp d mX9_above 42 [a0, a1, a2, a3, a4, a5] (.int (-1) :: st) h Q := w_iconst dX9_above_41 rfl
theorem X9_above_42 : iWp d mX9_above 42 [a0, a1, a2, a3, a4, a5] (.int y :: .int x :: st) h Q = if x = y then iWp d mX9_above 45 [a0, a1, a2, a3, a4, a5] st h Q else iWp d mX9_above 52 [a0, a1, a2, a3, a4, a5] st h Q := w_icmp_ne dX9_above_42 rfl
theorem X9_above_45 : iWp d mX9_above 45 [.ref p, a1, a2, a3, a4, a5] st h Q = iWp d mX9_above 46 [.ref p, a1, a2, a3, a4, a5] (.ref p :: st) h Q := w_aload_n dX9_above_45 rfl
theorem X9_above_46 : iWp d mX9_above 46 [a0, a1, a2, a3, a4, a5] st h Q = iWp d mX9_above 48 [a0, a1, a2, a3, a4, a5] (.int (-5) :: st) h Q := w_bipush dX9_above_46 rfl
theorem X9_above_48 (he : iEv mX9_no [.ref p, .int x0] h (some (.int rv)) h2) (ho : iObj h p 9 = true) : iWp 3 mX9_above 48 [a0, a1, a2, a3, a4, a5] [.int x0, .ref p] h Q = iWp 3 mX9_above 51 [a0, a1, a2, a3, a4, a5] [.int rv] h2 Q := iWp_cV dX9_above_48 fK_9_99 rfl rfl ho (Nat.le_of_ble_eq_true rfl) (Nat.le_of_ble_eq_true rfl) rfl (Nat.le_of_ble_eq_true rfl) he rfl
theorem X9_above_51 : iWp d mX9_above 51 [a0, a1, a2, a3, a4, a5] [.int x] h Q = Q (some (.int x)) h := w_ireti dX9_above_51 rfl
theorem X9_above_52 : iWp d mX9_above 52 [.ref p, a1, a2, a3, a4, a5] st h Q = iWp d mX9_above 53 [.ref p, a1, a2, a3, a4, a5] (.ref p :: st) h Q := w_aload_n dX9_above_52 rfl
theorem X9_above_53 : iWp d mX9_above 53 [a0, a1, a2, a3, a4, .int x] st h Q = iWp d mX9_above 55 [a0, a1, a2, a3, a4, .int x] (.int x :: st) h Q := w_iload dX9_above_53 rfl
theorem X9_above_55 : iWp d mX9_above 55 [a0, a1, a2, a3, .int x, a5] st h Q = iWp d mX9_above 57 [a0, a1, a2, a3, .int x, a5] (.int x :: st) h Q := w_iload dX9_above_55 rfl
theorem X9_above_57 (he : iEv mX9_isBelow [.ref p, .int x0, .int x1] h (some (.int rv)) h2) (ho : iObj h p 9 = true) : iWp 3 mX9_above 57 [a0, a1, a2, a3, a4, a5] [.int x1, .int x0, .ref p] h Q = iWp 3 mX9_above 60 [a0, a1, a2, a3, a4, a5] [.int rv] h2 Q := iWp_cV dX9_above_57 fK_9_184 rfl rfl ho (Nat.le_of_ble_eq_true rfl) (Nat.le_of_ble_eq_true rfl) rfl (Nat.le_of_ble_eq_true rfl) he rfl
theorem X9_above_60 : iWp d mX9_above 60 [a0, a1, a2, a3, a4, a5] (.int x :: st) h Q = if x = 0 then iWp d mX9_above 63 [a0, a1, a2, a3, a4, a5] st h Q else iWp d mX9_above 74 [a0, a1, a2, a3, a4, a5] st h Q := w_ifc_ne dX9_above_60 rfl
theorem X9_above_63 : iWp d mX9_above 63 [.ref p, a1, a2, a3, a4, a5] st h Q = iWp d mX9_above 64 [.ref p, a1, a2, a3, a4, a5] (.ref p :: st) h Q := w_aload_n dX9_above_63 rfl
theorem X9_above_64 : iWp d mX9_above 64 [a0, a1, a2, a3, .int x, a5] st h Q = iWp d mX9_above 66 [a0, a1, a2, a3, .int x, a5] (.int x :: st) h Q := w_iload dX9_above_64 rfl
theorem X9_above_66 (he : iEv mX9_parent [.ref p, .int x0] h (some (.int rv)) h2) (ho : iObj h p 9 = true) : iWp 3 mX9_above 66 [a0, a1, a2, a3, a4, a5] [.int x0, .ref p] h Q = iWp 3 mX9_above 69 [a0, a1, a2, a3, a4, a5] [.int rv] h2 Q := iWp_cV dX9_above_66 fK_9_130 rfl rfl ho (Nat.le_of_ble_eq_true rfl) (Nat.le_of_ble_eq_true rfl) rfl (Nat.le_of_ble_eq_true rfl) he rfl
theorem X9_above_69 : iWp d mX9_above 69 [a0, a1, a2, a3, a4, a5] (.int x :: st) h Q = iWp d mX9_above 71 [a0, a1, a2, iClr a3, .int x, a5] st h Q := w_istore dX9_above_69 (Nat.le_of_ble_eq_true rfl) rfl
theorem X9_above_71 : iWp d mX9_above 71 [a0, a1, a2, a3, a4, a5] st h Q = iWp d mX9_above 52 [a0, a1, a2, a3, a4, a5] st h Q := w_goto dX9_above_71 rfl
theorem X9_above_74 : iWp d mX9_above 74 [.ref p, a1, a2, a3, a4, a5] st h Q = iWp d mX9_above 75 [.ref p, a1, a2, a3, a4, a5] (.ref p :: st) h Q := w_aload_n dX9_above_74 rfl
theorem X9_above_75 : iWp d mX9_above 75 [a0, a1, a2, a3, a4, a5] (.ref p :: st) h Q = iOb (iGet h p 9 19) (fun v => iWp d mX9_above 78 [a0, a1, a2, a3, a4, a5] (v :: st) h Q) := w_getf dX9_above_75 fF_9_44
theorem X9_above_78 : iWp d mX9_above 78 [a0, a1, a2, a3, .int x, a5] st h Q = iWp d mX9_above 80 [a0, a1, a2, a3, .int x, a5] (.int x :: st) h Q := w_iload dX9_above_78 rfl
theorem X9_above_80 : iWp d mX9_above 80 [a0, a1, a2, a3, a4, a5] (.int x :: .ref p :: st) h Q = iOb (iLdI h p x) (fun v => iWp d mX9_above 81 [a0, a1, a2, a3, a4, a5] (.int v :: st) h Q) := w_iaload dX9_above_80
theorem X9_above_81 : iWp d mX9_above 81 [a0, a1, a2, a3, a4, a5] [.int x] h Q = Q (some (.int x)) h := w_ireti dX9_above_81 rfl
theorem I9_above {Q : Option Value → iHp → Prop} (hw : iWp 3 mX9_above 0 [.ref p, .int x0, .int x1, .int x2, iU, iU] [] h Q) : ∃ r h1, iEv mX9_above [.ref p, .int x0, .int x1, .int x2] h r h1 ∧ Q r h1 := iEv_of (by rfl) rfl hw
theorem J9_above {r : Option Value} {h1 : iHp} (hw : iWp 3 mX9_above 0 [.ref p, .int x0, .int x1, .int x2, iU, iU] [] h (fun r' h' => r' = r ∧ h' = h1)) : iEv mX9_above [.ref p, .int x0, .int x1, .int x2] h r h1 := iEv_ev (by rfl) rfl hw
theorem X9_all_0 : iWp d mX9_all 0 [a0, a1, a2] st h Q = iWp d mX9_all 1 [a0, a1, a2] (.int 0 :: st) h Q := w_iconst dX9_all_0 rfl
theorem X9_all_1 : iWp d mX9_all 1 [a0, a1, a2] (.int x :: st) h Q = iWp d mX9_all 2 [a0, iClr a1, .int x] st h Q := w_istore_n dX9_all_1 (Nat.le_of_ble_eq_true rfl) rfl
theorem X9_all_2 : iWp d mX9_all 2 [a0, a1, .int x] st h Q = iWp d mX9_all 3 [a0, a1, .int x] (.int x :: st) h Q := w_iload_n dX9_all_2 rfl
theorem X9_all_3 : iWp d mX9_all 3 [a0, a1, a2] st h Q = iWp d mX9_all 5 [a0, a1, a2] (.int 7 :: st) h Q := w_bipush dX9_all_3 rfl
theorem X9_all_5 : iWp d mX9_all 5 [.ref p, a1, a2] st h Q = iWp d mX9_all 6 [.ref p, a1, a2] (.ref p :: st) h Q := w_aload_n dX9_all_5 rfl
theorem X9_all_6 : iWp d mX9_all 6 [a0, a1, a2] st h Q = iWp d mX9_all 7 [a0, a1, a2] (.int 0 :: st) h Q := w_iconst dX9_all_6 rfl
theorem X9_all_7 : iWp d mX9_all 7 [a0, .int x, a2] st h Q = iWp d mX9_all 8 [a0, .int x, a2] (.int x :: st) h Q := w_iload_n dX9_all_7 rfl
theorem X9_all_8 (he : iEv mX9_of [.ref p, .int x0, .int x1] h (some (.int rv)) h2) (ho : iObj h p 9 = true) : iWp 2 mX9_all 8 [a0, a1, a2] [.int x1, .int x0, .ref p, .int r0, .int r1] h Q = iWp 2 mX9_all 11 [a0, a1, a2] [.int rv, .int r0, .int r1] h2 Q := iWp_cV dX9_all_8 fK_9_123 rfl rfl ho (Nat.le_of_ble_eq_true rfl) (Nat.le_of_ble_eq_true rfl) rfl (Nat.le_of_ble_eq_true rfl) he rfl
theorem X9_all_11 : iWp d mX9_all 11 [a0, a1, a2] (.int y :: .int x :: st) h Q = iWp d mX9_all 12 [a0, a1, a2] (.int (x * y) :: st) h Q := w_imul dX9_all_11
theorem X9_all_12 : iWp d mX9_all 12 [a0, a1, a2] (.int y :: .int x :: st) h Q = if y ≤ x then iWp d mX9_all 41 [a0, a1, a2] st h Q else iWp d mX9_all 15 [a0, a1, a2] st h Q := w_icmp_ge dX9_all_12 rfl
theorem X9_all_15 : iWp d mX9_all 15 [.ref p, a1, a2] st h Q = iWp d mX9_all 16 [.ref p, a1, a2] (.ref p :: st) h Q := w_aload_n dX9_all_15 rfl
theorem X9_all_16 : iWp d mX9_all 16 [a0, a1, a2] (.ref p :: st) h Q = iOb (iGet h p 9 26) (fun v => iWp d mX9_all 19 [a0, a1, a2] (v :: st) h Q) := w_getf dX9_all_16 fF_9_62
theorem X9_all_19 : iWp d mX9_all 19 [a0, a1, a2] st h Q = iWp d mX9_all 21 [a0, a1, a2] (.int 7 :: st) h Q := w_bipush dX9_all_19 rfl
theorem X9_all_21 : iWp d mX9_all 21 [.ref p, a1, a2] st h Q = iWp d mX9_all 22 [.ref p, a1, a2] (.ref p :: st) h Q := w_aload_n dX9_all_21 rfl
theorem X9_all_22 : iWp d mX9_all 22 [a0, a1, a2] (.ref p :: st) h Q = iOb (iGet h p 9 25) (fun v => iWp d mX9_all 25 [a0, a1, a2] (v :: st) h Q) := w_getf dX9_all_22 fF_9_200
theorem X9_all_25 : iWp d mX9_all 25 [a0, a1, a2] (.int y :: .int x :: st) h Q = iWp d mX9_all 26 [a0, a1, a2] (.int (x * y) :: st) h Q := w_imul dX9_all_25
theorem X9_all_26 : iWp d mX9_all 26 [a0, a1, .int x] st h Q = iWp d mX9_all 27 [a0, a1, .int x] (.int x :: st) h Q := w_iload_n dX9_all_26 rfl
theorem X9_all_27 : iWp d mX9_all 27 [a0, a1, a2] (.int y :: .int x :: st) h Q = iWp d mX9_all 28 [a0, a1, a2] (.int (x + y) :: st) h Q := w_iadd dX9_all_27
theorem X9_all_28 : iWp d mX9_all 28 [.ref p, a1, a2] st h Q = iWp d mX9_all 29 [.ref p, a1, a2] (.ref p :: st) h Q := w_aload_n dX9_all_28 rfl
theorem X9_all_29 : iWp d mX9_all 29 [a0, .int x, a2] st h Q = iWp d mX9_all 30 [a0, .int x, a2] (.int x :: st) h Q := w_iload_n dX9_all_29 rfl
theorem X9_all_30 : iWp d mX9_all 30 [a0, a1, .int x] st h Q = iWp d mX9_all 31 [a0, a1, .int x] (.int x :: st) h Q := w_iload_n dX9_all_30 rfl
theorem X9_all_31 (he : iEv mX9_edit [.ref p, .int x0, .int x1] h (some (.int rv)) h2) (ho : iObj h p 9 = true) : iWp 2 mX9_all 31 [a0, a1, a2] [.int x1, .int x0, .ref p, .int r0, .ref t1] h Q = iWp 2 mX9_all 34 [a0, a1, a2] [.int rv, .int r0, .ref t1] h2 Q := iWp_cV dX9_all_31 fK_9_254 rfl rfl ho (Nat.le_of_ble_eq_true rfl) (Nat.le_of_ble_eq_true rfl) rfl (Nat.le_of_ble_eq_true rfl) he rfl
theorem X9_all_34 : iWp d mX9_all 34 [a0, a1, a2] (.int y :: .int x :: .ref p :: st) h Q = iOb (iStI h p x y) (fun g => iWp d mX9_all 35 [a0, a1, a2] st g Q) := w_iastore dX9_all_34
theorem X9_all_35 : iWp d mX9_all 35 [a0, a1, .int x] st h Q = iWp d mX9_all 38 [a0, iClr a1, .int (x + 1)] st h Q := w_iinc dX9_all_35 rfl (Nat.le_of_ble_eq_true rfl) rfl
theorem X9_all_38 : iWp d mX9_all 38 [a0, a1, a2] st h Q = iWp d mX9_all 2 [a0, a1, a2] st h Q := w_goto dX9_all_38 rfl
theorem X9_all_41 : iWp d mX9_all 41 [.ref p, a1, a2] st h Q = iWp d mX9_all 42 [.ref p, a1, a2] (.ref p :: st) h Q := w_aload_n dX9_all_41 rfl
theorem X9_all_42 : iWp d mX9_all 42 [a0, a1, a2] (.ref p :: st) h Q = iWp d mX9_all 43 [a0, a1, a2] (.ref p :: .ref p :: st) h Q := w_dup dX9_all_42 rfl
theorem X9_all_43 : iWp d mX9_all 43 [a0, a1, a2] (.ref p :: st) h Q = iOb (iGet h p 9 25) (fun v => iWp d mX9_all 46 [a0, a1, a2] (v :: st) h Q) := w_getf dX9_all_43 fF_9_200
theorem X9_all_46 : iWp d mX9_all 46 [.ref p, a1, a2] st h Q = iWp d mX9_all 47 [.ref p, a1, a2] (.ref p :: st) h Q := w_aload_n dX9_all_46 rfl
theorem X9_all_47 : iWp d mX9_all 47 [a0, a1, a2] st h Q = iWp d mX9_all 48 [a0, a1, a2] (.int 0 :: st) h Q := w_iconst dX9_all_47 rfl
theorem X9_all_48 : iWp d mX9_all 48 [a0, .int x, a2] st h Q = iWp d mX9_all 49 [a0, .int x, a2] (.int x :: st) h Q := w_iload_n dX9_all_48 rfl
theorem X9_all_49 (he : iEv mX9_of [.ref p, .int x0, .int x1] h (some (.int rv)) h2) (ho : iObj h p 9 = true) : iWp 2 mX9_all 49 [a0, a1, a2] [.int x1, .int x0, .ref p, .int r0, .ref t1] h Q = iWp 2 mX9_all 52 [a0, a1, a2] [.int rv, .int r0, .ref t1] h2 Q := iWp_cV dX9_all_49 fK_9_123 rfl rfl ho (Nat.le_of_ble_eq_true rfl) (Nat.le_of_ble_eq_true rfl) rfl (Nat.le_of_ble_eq_true rfl) he rfl
theorem X9_all_52 : iWp d mX9_all 52 [a0, a1, a2] (.int y :: .int x :: st) h Q = iWp d mX9_all 53 [a0, a1, a2] (.int (x + y) :: st) h Q := w_iadd dX9_all_52
theorem X9_all_53 : iWp d mX9_all 53 [a0, a1, a2] (.int x :: .ref p :: st) h Q = iOb (iPut h p 9 25 (.int x)) (fun g => iWp d mX9_all 56 [a0, a1, a2] st g Q) := w_putf dX9_all_53 fF_9_200 ⟨rfl, (Or.inl rfl)⟩
theorem X9_all_56 : iWp d mX9_all 56 [a0, a1, a2] [] h Q = Q none h := w_ret dX9_all_56 rfl
theorem I9_all {Q : Option Value → iHp → Prop} (hw : iWp 2 mX9_all 0 [.ref p, .int x0, iU] [] h Q) : ∃ r h1, iEv mX9_all [.ref p, .int x0] h r h1 ∧ Q r h1 := iEv_of (by rfl) rfl hw
theorem J9_all {r : Option Value} {h1 : iHp} (hw : iWp 2 mX9_all 0 [.ref p, .int x0, iU] [] h (fun r' h' => r' = r ∧ h' = h1)) : iEv mX9_all [.ref p, .int x0] h r h1 := iEv_ev (by rfl) rfl hw
theorem X9_apply_0 : iWp d mX9_apply 0 [.ref p, a1, a2] st h Q = iWp d mX9_apply 1 [.ref p, a1, a2] (.ref p :: st) h Q := w_aload_n dX9_apply_0 rfl
theorem X9_apply_1 : iWp d mX9_apply 1 [a0, .int x, a2] st h Q = iWp d mX9_apply 2 [a0, .int x, a2] (.int x :: st) h Q := w_iload_n dX9_apply_1 rfl
theorem X9_apply_2 (he : iEv mX9_isPatch [.ref p, .int x0] h (some (.int rv)) h2) (ho : iObj h p 9 = true) : iWp 7 mX9_apply 2 [a0, a1, a2] [.int x0, .ref p] h Q = iWp 7 mX9_apply 5 [a0, a1, a2] [.int rv] h2 Q := iWp_cV dX9_apply_2 fK_9_120 rfl rfl ho (Nat.le_of_ble_eq_true rfl) (Nat.le_of_ble_eq_true rfl) rfl (Nat.le_of_ble_eq_true rfl) he rfl
theorem X9_apply_5 : iWp d mX9_apply 5 [a0, a1, a2] (.int x :: st) h Q = if x = 0 then iWp d mX9_apply 16 [a0, a1, a2] st h Q else iWp d mX9_apply 8 [a0, a1, a2] st h Q := w_ifc_eq dX9_apply_5 rfl
theorem X9_apply_8 : iWp d mX9_apply 8 [.ref p, a1, a2] st h Q = iWp d mX9_apply 9 [.ref p, a1, a2] (.ref p :: st) h Q := w_aload_n dX9_apply_8 rfl
theorem X9_apply_9 : iWp d mX9_apply 9 [a0, a1, .int x] st h Q = iWp d mX9_apply 10 [a0, a1, .int x] (.int x :: st) h Q := w_iload_n dX9_apply_9 rfl
theorem X9_apply_10 (he : iEv mX9_isTree [.ref p, .int x0] h (some (.int rv)) h2) (ho : iObj h p 9 = true) : iWp 7 mX9_apply 10 [a0, a1, a2] [.int x0, .ref p] h Q = iWp 7 mX9_apply 13 [a0, a1, a2] [.int rv] h2 Q := iWp_cV dX9_apply_10 fK_9_166 rfl rfl ho (Nat.le_of_ble_eq_true rfl) (Nat.le_of_ble_eq_true rfl) rfl (Nat.le_of_ble_eq_true rfl) he rfl
theorem X9_apply_13 : iWp d mX9_apply 13 [a0, a1, a2] (.int x :: st) h Q = if x = 0 then iWp d mX9_apply 16 [a0, a1, a2] st h Q else iWp d mX9_apply 22 [a0, a1, a2] st h Q := w_ifc_ne dX9_apply_13 rfl
theorem X9_apply_16 : iWp d mX9_apply 16 [.ref p, a1, a2] st h Q = iWp d mX9_apply 17 [.ref p, a1, a2] (.ref p :: st) h Q := w_aload_n dX9_apply_16 rfl
theorem X9_apply_17 : iWp d mX9_apply 17 [a0, a1, a2] st h Q = iWp d mX9_apply 18 [a0, a1, a2] (.int (-1) :: st) h Q := w_iconst dX9_apply_17 rfl
theorem X9_apply_18 (he : iEv mX9_no [.ref p, .int x0] h (some (.int rv)) h2) (ho : iObj h p 9 = true) : iWp 7 mX9_apply 18 [a0, a1, a2] [.int x0, .ref p] h Q = iWp 7 mX9_apply 21 [a0, a1, a2] [.int rv] h2 Q := iWp_cV dX9_apply_18 fK_9_99 rfl rfl ho (Nat.le_of_ble_eq_true rfl) (Nat.le_of_ble_eq_true rfl) rfl (Nat.le_of_ble_eq_true rfl) he rfl
theorem X9_apply_21 : iWp d mX9_apply 21 [a0, a1, a2] [.int x] h Q = Q (some (.int x)) h := w_ireti dX9_apply_21 rfl
theorem X9_apply_22 : iWp d mX9_apply 22 [.ref p, a1, a2] st h Q = iWp d mX9_apply 23 [.ref p, a1, a2] (.ref p :: st) h Q := w_aload_n dX9_apply_22 rfl
theorem X9_apply_23 : iWp d mX9_apply 23 [a0, a1, .int x] st h Q = iWp d mX9_apply 24 [a0, a1, .int x] (.int x :: st) h Q := w_iload_n dX9_apply_23 rfl
theorem X9_apply_24 (he : iEv mX9_loads [.ref p, .int x0] h none h2) (ho : iObj h p 9 = true) : iWp 7 mX9_apply 24 [a0, a1, a2] [.int x0, .ref p] h Q = iWp 7 mX9_apply 27 [a0, a1, a2] [] h2 Q := iWp_cV dX9_apply_24 fK_9_169 rfl rfl ho (Nat.le_of_ble_eq_true rfl) (Nat.le_of_ble_eq_true rfl) rfl (Nat.le_of_ble_eq_true rfl) he rfl
theorem X9_apply_27 : iWp d mX9_apply 27 [.ref p, a1, a2] st h Q = iWp d mX9_apply 28 [.ref p, a1, a2] (.ref p :: st) h Q := w_aload_n dX9_apply_27 rfl
theorem X9_apply_28 : iWp d mX9_apply 28 [a0, .int x, a2] st h Q = iWp d mX9_apply 29 [a0, .int x, a2] (.int x :: st) h Q := w_iload_n dX9_apply_28 rfl
theorem X9_apply_29 (he : iEv mX9_stuck [.ref p, .int x0] h (some (.int rv)) h2) (ho : iObj h p 9 = true) : iWp 7 mX9_apply 29 [a0, a1, a2] [.int x0, .ref p] h Q = iWp 7 mX9_apply 32 [a0, a1, a2] [.int rv] h2 Q := iWp_cV dX9_apply_29 fK_9_257 rfl rfl ho (Nat.le_of_ble_eq_true rfl) (Nat.le_of_ble_eq_true rfl) rfl (Nat.le_of_ble_eq_true rfl) he rfl
theorem X9_apply_32 : iWp d mX9_apply 32 [a0, a1, a2] st h Q = iWp d mX9_apply 33 [a0, a1, a2] (.int (-1) :: st) h Q := w_iconst dX9_apply_32 rfl
theorem X9_apply_33 : iWp d mX9_apply 33 [a0, a1, a2] (.int y :: .int x :: st) h Q = if x = y then iWp d mX9_apply 43 [a0, a1, a2] st h Q else iWp d mX9_apply 36 [a0, a1, a2] st h Q := w_icmp_eq dX9_apply_33 rfl
theorem X9_apply_36 : iWp d mX9_apply 36 [.ref p, a1, a2] st h Q = iWp d mX9_apply 37 [.ref p, a1, a2] (.ref p :: st) h Q := w_aload_n dX9_apply_36 rfl
theorem X9_apply_37 : iWp d mX9_apply 37 [a0, a1, a2] st h Q = iWp d mX9_apply 39 [a0, a1, a2] (.int (-6) :: st) h Q := w_bipush dX9_apply_37 rfl
theorem X9_apply_39 (he : iEv mX9_no [.ref p, .int x0] h (some (.int rv)) h2) (ho : iObj h p 9 = true) : iWp 7 mX9_apply 39 [a0, a1, a2] [.int x0, .ref p] h Q = iWp 7 mX9_apply 42 [a0, a1, a2] [.int rv] h2 Q := iWp_cV dX9_apply_39 fK_9_99 rfl rfl ho (Nat.le_of_ble_eq_true rfl) (Nat.le_of_ble_eq_true rfl) rfl (Nat.le_of_ble_eq_true rfl) he rfl
theorem X9_apply_42 : iWp d mX9_apply 42 [a0, a1, a2] [.int x] h Q = Q (some (.int x)) h := w_ireti dX9_apply_42 rfl
theorem X9_apply_43 : iWp d mX9_apply 43 [.ref p, a1, a2] st h Q = iWp d mX9_apply 44 [.ref p, a1, a2] (.ref p :: st) h Q := w_aload_n dX9_apply_43 rfl
theorem X9_apply_44 : iWp d mX9_apply 44 [a0, a1, .int x] st h Q = iWp d mX9_apply 45 [a0, a1, .int x] (.int x :: st) h Q := w_iload_n dX9_apply_44 rfl
theorem X9_apply_45 (he : iEv mX9_lays [.ref p, .int x0] h none h2) (ho : iObj h p 9 = true) : iWp 7 mX9_apply 45 [a0, a1, a2] [.int x0, .ref p] h Q = iWp 7 mX9_apply 48 [a0, a1, a2] [] h2 Q := iWp_cV dX9_apply_45 fK_9_162 rfl rfl ho (Nat.le_of_ble_eq_true rfl) (Nat.le_of_ble_eq_true rfl) rfl (Nat.le_of_ble_eq_true rfl) he rfl
theorem X9_apply_48 : iWp d mX9_apply 48 [.ref p, a1, a2] st h Q = iWp d mX9_apply 49 [.ref p, a1, a2] (.ref p :: st) h Q := w_aload_n dX9_apply_48 rfl
theorem X9_apply_49 : iWp d mX9_apply 49 [a0, a1, a2] (.ref p :: st) h Q = iOb (iGet h p 9 18) (fun v => iWp d mX9_apply 52 [a0, a1, a2] (v :: st) h Q) := w_getf dX9_apply_49 fF_9_127
theorem X9_apply_52 : iWp d mX9_apply 52 [a0, a1, a2] [.int x] h Q = Q (some (.int x)) h := w_ireti dX9_apply_52 rfl
theorem I9_apply {Q : Option Value → iHp → Prop} (hw : iWp 7 mX9_apply 0 [.ref p, .int x0, .int x1] [] h Q) : ∃ r h1, iEv mX9_apply [.ref p, .int x0, .int x1] h r h1 ∧ Q r h1 := iEv_of (by rfl) rfl hw
theorem J9_apply {r : Option Value} {h1 : iHp} (hw : iWp 7 mX9_apply 0 [.ref p, .int x0, .int x1] [] h (fun r' h' => r' = r ∧ h' = h1)) : iEv mX9_apply [.ref p, .int x0, .int x1] h r h1 := iEv_ev (by rfl) rfl hw
theorem X9_behind_0 : iWp d mX9_behind 0 [.ref p, a1, a2] st h Q = iWp d mX9_behind 1 [.ref p, a1, a2] (.ref p :: st) h Q := w_aload_n dX9_behind_0 rfl
theorem X9_behind_1 : iWp d mX9_behind 1 [a0, .int x, a2] st h Q = iWp d mX9_behind 2 [a0, .int x, a2] (.int x :: st) h Q := w_iload_n dX9_behind_1 rfl
theorem X9_behind_2 (he : iEv mX9_isPatch [.ref p, .int x0] h (some (.int rv)) h2) (ho : iObj h p 9 = true) : iWp 3 mX9_behind 2 [a0, a1, a2] [.int x0, .ref p] h Q = iWp 3 mX9_behind 5 [a0, a1, a2] [.int rv] h2 Q := iWp_cV dX9_behind_2 fK_9_120 rfl rfl ho (Nat.le_of_ble_eq_true rfl) (Nat.le_of_ble_eq_true rfl) rfl (Nat.le_of_ble_eq_true rfl) he rfl
theorem X9_behind_5 : iWp d mX9_behind 5 [a0, a1, a2] (.int x :: st) h Q = if x = 0 then iWp d mX9_behind 16 [a0, a1, a2] st h Q else iWp d mX9_behind 8 [a0, a1, a2] st h Q := w_ifc_eq dX9_behind_5 rfl
theorem X9_behind_8 : iWp d mX9_behind 8 [.ref p, a1, a2] st h Q = iWp d mX9_behind 9 [.ref p, a1, a2] (.ref p :: st) h Q := w_aload_n dX9_behind_8 rfl
theorem X9_behind_9 : iWp d mX9_behind 9 [a0, a1, .int x] st h Q = iWp d mX9_behind 10 [a0, a1, .int x] (.int x :: st) h Q := w_iload_n dX9_behind_9 rfl
theorem X9_behind_10 (he : iEv mX9_isPatch [.ref p, .int x0] h (some (.int rv)) h2) (ho : iObj h p 9 = true) : iWp 3 mX9_behind 10 [a0, a1, a2] [.int x0, .ref p] h Q = iWp 3 mX9_behind 13 [a0, a1, a2] [.int rv] h2 Q := iWp_cV dX9_behind_10 fK_9_120 rfl rfl ho (Nat.le_of_ble_eq_true rfl) (Nat.le_of_ble_eq_true rfl) rfl (Nat.le_of_ble_eq_true rfl) he rfl
theorem X9_behind_13 : iWp d mX9_behind 13 [a0, a1, a2] (.int x :: st) h Q = if x = 0 then iWp d mX9_behind 16 [a0, a1, a2] st h Q else iWp d mX9_behind 22 [a0, a1, a2] st h Q := w_ifc_ne dX9_behind_13 rfl
theorem X9_behind_16 : iWp d mX9_behind 16 [.ref p, a1, a2] st h Q = iWp d mX9_behind 17 [.ref p, a1, a2] (.ref p :: st) h Q := w_aload_n dX9_behind_16 rfl
theorem X9_behind_17 : iWp d mX9_behind 17 [a0, a1, a2] st h Q = iWp d mX9_behind 18 [a0, a1, a2] (.int (-1) :: st) h Q := w_iconst dX9_behind_17 rfl
theorem X9_behind_18 (he : iEv mX9_no [.ref p, .int x0] h (some (.int rv)) h2) (ho : iObj h p 9 = true) : iWp 3 mX9_behind 18 [a0, a1, a2] [.int x0, .ref p] h Q = iWp 3 mX9_behind 21 [a0, a1, a2] [.int rv] h2 Q := iWp_cV dX9_behind_18 fK_9_99 rfl rfl ho (Nat.le_of_ble_eq_true rfl) (Nat.le_of_ble_eq_true rfl) rfl (Nat.le_of_ble_eq_true rfl) he rfl
theorem X9_behind_21 : iWp d mX9_behind 21 [a0, a1, a2] [.int x] h Q = Q (some (.int x)) h := w_ireti dX9_behind_21 rfl
theorem X9_behind_22 : iWp d mX9_behind 22 [.ref p, a1, a2] st h Q = iWp d mX9_behind 23 [.ref p, a1, a2] (.ref p :: st) h Q := w_aload_n dX9_behind_22 rfl
theorem X9_behind_23 : iWp d mX9_behind 23 [a0, a1, a2] st h Q = iWp d mX9_behind 24 [a0, a1, a2] (.int 0 :: st) h Q := w_iconst dX9_behind_23 rfl
theorem X9_behind_24 : iWp d mX9_behind 24 [a0, a1, a2] (.int x :: .ref p :: st) h Q = iOb (iPut h p 9 25 (.int x)) (fun g => iWp d mX9_behind 27 [a0, a1, a2] st g Q) := w_putf dX9_behind_24 fF_9_200 ⟨rfl, (Or.inl rfl)⟩
theorem X9_behind_27 : iWp d mX9_behind 27 [.ref p, a1, a2] st h Q = iWp d mX9_behind 28 [.ref p, a1, a2] (.ref p :: st) h Q := w_aload_n dX9_behind_27 rfl
theorem X9_behind_28 : iWp d mX9_behind 28 [a0, .int x, a2] st h Q = iWp d mX9_behind 29 [a0, .int x, a2] (.int x :: st) h Q := w_iload_n dX9_behind_28 rfl
theorem X9_behind_29 (he : iEv mX9_all [.ref p, .int x0] h none h2) (ho : iObj h p 9 = true) : iWp 3 mX9_behind 29 [a0, a1, a2] [.int x0, .ref p] h Q = iWp 3 mX9_behind 32 [a0, a1, a2] [] h2 Q := iWp_cV dX9_behind_29 fK_9_264 rfl rfl ho (Nat.le_of_ble_eq_true rfl) (Nat.le_of_ble_eq_true rfl) rfl (Nat.le_of_ble_eq_true rfl) he rfl
theorem X9_behind_32 : iWp d mX9_behind 32 [.ref p, a1, a2] st h Q = iWp d mX9_behind 33 [.ref p, a1, a2] (.ref p :: st) h Q := w_aload_n dX9_behind_32 rfl
theorem X9_behind_33 : iWp d mX9_behind 33 [a0, a1, a2] st h Q = iWp d mX9_behind 34 [a0, a1, a2] (.int 0 :: st) h Q := w_iconst dX9_behind_33 rfl
theorem X9_behind_34 : iWp d mX9_behind 34 [a0, .int x, a2] st h Q = iWp d mX9_behind 35 [a0, .int x, a2] (.int x :: st) h Q := w_iload_n dX9_behind_34 rfl
theorem X9_behind_35 (he : iEv mX9_of [.ref p, .int x0, .int x1] h (some (.int rv)) h2) (ho : iObj h p 9 = true) : iWp 3 mX9_behind 35 [a0, a1, a2] [.int x1, .int x0, .ref p] h Q = iWp 3 mX9_behind 38 [a0, a1, a2] [.int rv] h2 Q := iWp_cV dX9_behind_35 fK_9_123 rfl rfl ho (Nat.le_of_ble_eq_true rfl) (Nat.le_of_ble_eq_true rfl) rfl (Nat.le_of_ble_eq_true rfl) he rfl
theorem X9_behind_38 : iWp d mX9_behind 38 [.ref p, a1, a2] st h Q = iWp d mX9_behind 39 [.ref p, a1, a2] (.ref p :: st) h Q := w_aload_n dX9_behind_38 rfl
theorem X9_behind_39 : iWp d mX9_behind 39 [a0, a1, a2] st h Q = iWp d mX9_behind 40 [a0, a1, a2] (.int 0 :: st) h Q := w_iconst dX9_behind_39 rfl
theorem X9_behind_40 : iWp d mX9_behind 40 [a0, a1, .int x] st h Q = iWp d mX9_behind 41 [a0, a1, .int x] (.int x :: st) h Q := w_iload_n dX9_behind_40 rfl
theorem X9_behind_41 (he : iEv mX9_of [.ref p, .int x0, .int x1] h (some (.int rv)) h2) (ho : iObj h p 9 = true) : iWp 3 mX9_behind 41 [a0, a1, a2] [.int x1, .int x0, .ref p, .int r0] h Q = iWp 3 mX9_behind 44 [a0, a1, a2] [.int rv, .int r0] h2 Q := iWp_cV dX9_behind_41 fK_9_123 rfl rfl ho (Nat.le_of_ble_eq_true rfl) (Nat.le_of_ble_eq_true rfl) rfl (Nat.le_of_ble_eq_true rfl) he rfl
theorem X9_behind_44 : iWp d mX9_behind 44 [a0, a1, a2] (.int y :: .int x :: st) h Q = iWp d mX9_behind 45 [a0, a1, a2] (.int (x + y) :: st) h Q := w_iadd dX9_behind_44
theorem X9_behind_45 : iWp d mX9_behind 45 [a0, a1, a2] st h Q = iWp d mX9_behind 47 [a0, a1, a2] (.int 120 :: st) h Q := w_bipush dX9_behind_45 rfl
theorem X9_behind_47 : iWp d mX9_behind 47 [a0, a1, a2] (.int y :: .int x :: st) h Q = if x ≤ y then iWp d mX9_behind 57 [a0, a1, a2] st h Q else iWp d mX9_behind 50 [a0, a1, a2] st h Q := w_icmp_le dX9_behind_47 rfl
theorem X9_behind_50 : iWp d mX9_behind 50 [.ref p, a1, a2] st h Q = iWp d mX9_behind 51 [.ref p, a1, a2] (.ref p :: st) h Q := w_aload_n dX9_behind_50 rfl
theorem X9_behind_51 : iWp d mX9_behind 51 [a0, a1, a2] st h Q = iWp d mX9_behind 53 [a0, a1, a2] (.int (-7) :: st) h Q := w_bipush dX9_behind_51 rfl
theorem X9_behind_53 (he : iEv mX9_no [.ref p, .int x0] h (some (.int rv)) h2) (ho : iObj h p 9 = true) : iWp 3 mX9_behind 53 [a0, a1, a2] [.int x0, .ref p] h Q = iWp 3 mX9_behind 56 [a0, a1, a2] [.int rv] h2 Q := iWp_cV dX9_behind_53 fK_9_99 rfl rfl ho (Nat.le_of_ble_eq_true rfl) (Nat.le_of_ble_eq_true rfl) rfl (Nat.le_of_ble_eq_true rfl) he rfl
theorem X9_behind_56 : iWp d mX9_behind 56 [a0, a1, a2] [.int x] h Q = Q (some (.int x)) h := w_ireti dX9_behind_56 rfl
theorem X9_behind_57 : iWp d mX9_behind 57 [.ref p, a1, a2] st h Q = iWp d mX9_behind 58 [.ref p, a1, a2] (.ref p :: st) h Q := w_aload_n dX9_behind_57 rfl
theorem X9_behind_58 : iWp d mX9_behind 58 [a0, a1, .int x] st h Q = iWp d mX9_behind 59 [a0, a1, .int x] (.int x :: st) h Q := w_iload_n dX9_behind_58 rfl
theorem X9_behind_59 (he : iEv mX9_all [.ref p, .int x0] h none h2) (ho : iObj h p 9 = true) : iWp 3 mX9_behind 59 [a0, a1, a2] [.int x0, .ref p] h Q = iWp 3 mX9_behind 62 [a0, a1, a2] [] h2 Q := iWp_cV dX9_behind_59 fK_9_264 rfl rfl ho (Nat.le_of_ble_eq_true rfl) (Nat.le_of_ble_eq_true rfl) rfl (Nat.le_of_ble_eq_true rfl) he rfl
theorem X9_behind_62 : iWp d mX9_behind 62 [.ref p, a1, a2] st h Q = iWp d mX9_behind 63 [.ref p, a1, a2] (.ref p :: st) h Q := w_aload_n dX9_behind_62 rfl
theorem X9_behind_63 : iWp d mX9_behind 63 [a0, a1, a2] st h Q = iWp d mX9_behind 64 [a0, a1, a2] (.int 0 :: st) h Q := w_iconst dX9_behind_63 rfl
theorem X9_behind_64 : iWp d mX9_behind 64 [a0, a1, a2] st h Q = iWp d mX9_behind 65 [a0, a1, a2] (.int (-1) :: st) h Q := w_iconst dX9_behind_64 rfl
theorem X9_behind_65 (he : iEv mX9_newPatch [.ref p, .int x0, .int x1] h (some (.int rv)) h2) (ho : iObj h p 9 = true) : iWp 3 mX9_behind 65 [a0, a1, a2] [.int x1, .int x0, .ref p] h Q = iWp 3 mX9_behind 68 [a0, a1, a2] [.int rv] h2 Q := iWp_cV dX9_behind_65 fK_9_251 rfl rfl ho (Nat.le_of_ble_eq_true rfl) (Nat.le_of_ble_eq_true rfl) rfl (Nat.le_of_ble_eq_true rfl) he rfl
theorem X9_behind_68 : iWp d mX9_behind 68 [a0, a1, a2] [.int x] h Q = Q (some (.int x)) h := w_ireti dX9_behind_68 rfl
theorem I9_behind {Q : Option Value → iHp → Prop} (hw : iWp 3 mX9_behind 0 [.ref p, .int x0, .int x1] [] h Q) : ∃ r h1, iEv mX9_behind [.ref p, .int x0, .int x1] h r h1 ∧ Q r h1 := iEv_of (by rfl) rfl hw
theorem J9_behind {r : Option Value} {h1 : iHp} (hw : iWp 3 mX9_behind 0 [.ref p, .int x0, .int x1] [] h (fun r' h' => r' = r ∧ h' = h1)) : iEv mX9_behind [.ref p, .int x0, .int x1] h r h1 := iEv_ev (by rfl) rfl hw
theorem X9_child_0 : iWp d mX9_child 0 [a0, .int x, a2, a3, a4] st h Q = iWp d mX9_child 1 [a0, .int x, a2, a3, a4] (.int x :: st) h Q := w_iload_n dX9_child_0 rfl
theorem X9_child_1 : iWp d mX9_child 1 [a0, a1, a2, a3, a4] st h Q = iWp d mX9_child 2 [a0, a1, a2, a3, a4] (.int 1 :: st) h Q := w_iconst dX9_child_1 rfl
theorem X9_child_2 : iWp d mX9_child 2 [a0, a1, a2, a3, a4] (.int y :: .int x :: st) h Q = iWp d mX9_child 3 [a0, a1, a2, a3, a4] (.int (x + y) :: st) h Q := w_iadd dX9_child_2
theorem X9_child_3 : iWp d mX9_child 3 [a0, a1, a2, a3, a4] (.int x :: st) h Q = iWp d mX9_child 4 [a0, a1, iClr a2, .int x, a4] st h Q := w_istore_n dX9_child_3 (Nat.le_of_ble_eq_true rfl) rfl
theorem X9_child_4 : iWp d mX9_child 4 [a0, a1, a2, a3, a4] st h Q = iWp d mX9_child 5 [a0, a1, a2, a3, a4] (.int 0 :: st) h Q := w_iconst dX9_child_4 rfl
theorem X9_child_5 : iWp d mX9_child 5 [a0, a1, a2, a3, a4] (.int x :: st) h Q = iWp d mX9_child 7 [a0, a1, a2, iClr a3, .int x] st h Q := w_istore dX9_child_5 (Nat.le_of_ble_eq_true rfl) rfl
theorem X9_child_7 : iWp d mX9_child 7 [a0, a1, a2, a3, .int x] st h Q = iWp d mX9_child 9 [a0, a1, a2, a3, .int x] (.int x :: st) h Q := w_iload dX9_child_7 rfl
theorem X9_child_9 : iWp d mX9_child 9 [a0, a1, .int x, a3, a4] st h Q = iWp d mX9_child 10 [a0, a1, .int x, a3, a4] (.int x :: st) h Q := w_iload_n dX9_child_9 rfl
theorem X9_child_10 : iWp d mX9_child 10 [a0, a1, a2, a3, a4] (.int y :: .int x :: st) h Q = if y ≤ x then iWp d mX9_child 34 [a0, a1, a2, a3, a4] st h Q else iWp d mX9_child 13 [a0, a1, a2, a3, a4] st h Q := w_icmp_ge dX9_child_10 rfl
theorem X9_child_13 : iWp d mX9_child 13 [a0, a1, a2, .int x, a4] st h Q = iWp d mX9_child 14 [a0, a1, a2, .int x, a4] (.int x :: st) h Q := w_iload_n dX9_child_13 rfl
theorem X9_child_14 : iWp d mX9_child 14 [.ref p, a1, a2, a3, a4] st h Q = iWp d mX9_child 15 [.ref p, a1, a2, a3, a4] (.ref p :: st) h Q := w_aload_n dX9_child_14 rfl
theorem X9_child_15 : iWp d mX9_child 15 [a0, .int x, a2, a3, a4] st h Q = iWp d mX9_child 16 [a0, .int x, a2, a3, a4] (.int x :: st) h Q := w_iload_n dX9_child_15 rfl
theorem X9_child_16 (he : iEv mX9_end [.ref p, .int x0] h (some (.int rv)) h2) (ho : iObj h p 9 = true) : iWp 2 mX9_child 16 [a0, a1, a2, a3, a4] [.int x0, .ref p, .int r0] h Q = iWp 2 mX9_child 19 [a0, a1, a2, a3, a4] [.int rv, .int r0] h2 Q := iWp_cV dX9_child_16 fK_9_133 rfl rfl ho (Nat.le_of_ble_eq_true rfl) (Nat.le_of_ble_eq_true rfl) rfl (Nat.le_of_ble_eq_true rfl) he rfl
theorem X9_child_19 : iWp d mX9_child 19 [a0, a1, a2, a3, a4] (.int y :: .int x :: st) h Q = if y ≤ x then iWp d mX9_child 34 [a0, a1, a2, a3, a4] st h Q else iWp d mX9_child 22 [a0, a1, a2, a3, a4] st h Q := w_icmp_ge dX9_child_19 rfl
theorem X9_child_22 : iWp d mX9_child 22 [.ref p, a1, a2, a3, a4] st h Q = iWp d mX9_child 23 [.ref p, a1, a2, a3, a4] (.ref p :: st) h Q := w_aload_n dX9_child_22 rfl
theorem X9_child_23 : iWp d mX9_child 23 [a0, a1, a2, .int x, a4] st h Q = iWp d mX9_child 24 [a0, a1, a2, .int x, a4] (.int x :: st) h Q := w_iload_n dX9_child_23 rfl
theorem X9_child_24 (he : iEv mX9_end [.ref p, .int x0] h (some (.int rv)) h2) (ho : iObj h p 9 = true) : iWp 2 mX9_child 24 [a0, a1, a2, a3, a4] [.int x0, .ref p] h Q = iWp 2 mX9_child 27 [a0, a1, a2, a3, a4] [.int rv] h2 Q := iWp_cV dX9_child_24 fK_9_133 rfl rfl ho (Nat.le_of_ble_eq_true rfl) (Nat.le_of_ble_eq_true rfl) rfl (Nat.le_of_ble_eq_true rfl) he rfl
theorem X9_child_27 : iWp d mX9_child 27 [a0, a1, a2, a3, a4] (.int x :: st) h Q = iWp d mX9_child 28 [a0, a1, iClr a2, .int x, a4] st h Q := w_istore_n dX9_child_27 (Nat.le_of_ble_eq_true rfl) rfl
theorem X9_child_28 : iWp d mX9_child 28 [a0, a1, a2, a3, .int x] st h Q = iWp d mX9_child 31 [a0, a1, a2, iClr a3, .int (x + 1)] st h Q := w_iinc dX9_child_28 rfl (Nat.le_of_ble_eq_true rfl) rfl
theorem X9_child_31 : iWp d mX9_child 31 [a0, a1, a2, a3, a4] st h Q = iWp d mX9_child 7 [a0, a1, a2, a3, a4] st h Q := w_goto dX9_child_31 rfl
theorem X9_child_34 : iWp d mX9_child 34 [a0, a1, a2, .int x, a4] st h Q = iWp d mX9_child 35 [a0, a1, a2, .int x, a4] (.int x :: st) h Q := w_iload_n dX9_child_34 rfl
theorem X9_child_35 : iWp d mX9_child 35 [a0, a1, a2, a3, a4] [.int x] h Q = Q (some (.int x)) h := w_ireti dX9_child_35 rfl
theorem I9_child {Q : Option Value → iHp → Prop} (hw : iWp 2 mX9_child 0 [.ref p, .int x0, .int x1, iU, iU] [] h Q) : ∃ r h1, iEv mX9_child [.ref p, .int x0, .int x1] h r h1 ∧ Q r h1 := iEv_of (by rfl) rfl hw
theorem J9_child {r : Option Value} {h1 : iHp} (hw : iWp 2 mX9_child 0 [.ref p, .int x0, .int x1, iU, iU] [] h (fun r' h' => r' = r ∧ h' = h1)) : iEv mX9_child [.ref p, .int x0, .int x1] h r h1 := iEv_ev (by rfl) rfl hw
theorem X9_child__0 : iWp d mX9_child_ 0 [.ref p, a1, a2, a3, a4] st h Q = iWp d mX9_child_ 1 [.ref p, a1, a2, a3, a4] (.ref p :: st) h Q := w_aload_n dX9_child__0 rfl
theorem X9_child__1 : iWp d mX9_child_ 1 [a0, .int x, a2, a3, a4] st h Q = iWp d mX9_child_ 2 [a0, .int x, a2, a3, a4] (.int x :: st) h Q := w_iload_n dX9_child__1 rfl
theorem X9_child__2 (he : iEv mX9_isTree [.ref p, .int x0] h (some (.int rv)) h2) (ho : iObj h p 9 = true) : iWp 3 mX9_child_ 2 [a0, a1, a2, a3, a4] [.int x0, .ref p] h Q = iWp 3 mX9_child_ 5 [a0, a1, a2, a3, a4] [.int rv] h2 Q := iWp_cV dX9_child__2 fK_9_166 rfl rfl ho (Nat.le_of_ble_eq_true rfl) (Nat.le_of_ble_eq_true rfl) rfl (Nat.le_of_ble_eq_true rfl) he rfl
theorem X9_child__5 : iWp d mX9_child_ 5 [a0, a1, a2, a3, a4] (.int x :: st) h Q = if x = 0 then iWp d mX9_child_ 8 [a0, a1, a2, a3, a4] st h Q else iWp d mX9_child_ 14 [a0, a1, a2, a3, a4] st h Q := w_ifc_ne dX9_child__5 rfl
theorem X9_child__8 : iWp d mX9_child_ 8 [.ref p, a1, a2, a3, a4] st h Q = iWp d mX9_child_ 9 [.ref p, a1, a2, a3, a4] (.ref p :: st) h Q := w_aload_n dX9_child__8 rfl
theorem X9_child__9 : iWp d mX9_child_ 9 [a0, a1, a2, a3, a4] st h Q = iWp d mX9_child_ 10 [a0, a1, a2, a3, a4] (.int (-1) :: st) h Q := w_iconst dX9_child__9 rfl
theorem X9_child__10 (he : iEv mX9_no [.ref p, .int x0] h (some (.int rv)) h2) (ho : iObj h p 9 = true) : iWp 3 mX9_child_ 10 [a0, a1, a2, a3, a4] [.int x0, .ref p] h Q = iWp 3 mX9_child_ 13 [a0, a1, a2, a3, a4] [.int rv] h2 Q := iWp_cV dX9_child__10 fK_9_99 rfl rfl ho (Nat.le_of_ble_eq_true rfl) (Nat.le_of_ble_eq_true rfl) rfl (Nat.le_of_ble_eq_true rfl) he rfl
theorem X9_child__13 : iWp d mX9_child_ 13 [a0, a1, a2, a3, a4] [.int x] h Q = Q (some (.int x)) h := w_ireti dX9_child__13 rfl
theorem X9_child__14 : iWp d mX9_child_ 14 [.ref p, a1, a2, a3, a4] st h Q = iWp d mX9_child_ 15 [.ref p, a1, a2, a3, a4] (.ref p :: st) h Q := w_aload_n dX9_child__14 rfl
theorem X9_child__15 : iWp d mX9_child_ 15 [a0, .int x, a2, a3, a4] st h Q = iWp d mX9_child_ 16 [a0, .int x, a2, a3, a4] (.int x :: st) h Q := w_iload_n dX9_child__15 rfl
theorem X9_child__16 (he : iEv mX9_loads [.ref p, .int x0] h none h2) (ho : iObj h p 9 = true) : iWp 3 mX9_child_ 16 [a0, a1, a2, a3, a4] [.int x0, .ref p] h Q = iWp 3 mX9_child_ 19 [a0, a1, a2, a3, a4] [] h2 Q := iWp_cV dX9_child__16 fK_9_169 rfl rfl ho (Nat.le_of_ble_eq_true rfl) (Nat.le_of_ble_eq_true rfl) rfl (Nat.le_of_ble_eq_true rfl) he rfl
theorem X9_child__19 : iWp d mX9_child_ 19 [.ref p, a1, a2, a3, a4] st h Q = iWp d mX9_child_ 20 [.ref p, a1, a2, a3, a4] (.ref p :: st) h Q := w_aload_n dX9_child__19 rfl
theorem X9_child__20 : iWp d mX9_child_ 20 [a0, a1, .int x, a3, a4] st h Q = iWp d mX9_child_ 21 [a0, a1, .int x, a3, a4] (.int x :: st) h Q := w_iload_n dX9_child__20 rfl
theorem X9_child__21 (he : iEv mX9_find [.ref p, .int x0] h (some (.int rv)) h2) (ho : iObj h p 9 = true) : iWp 3 mX9_child_ 21 [a0, a1, a2, a3, a4] [.int x0, .ref p] h Q = iWp 3 mX9_child_ 24 [a0, a1, a2, a3, a4] [.int rv] h2 Q := iWp_cV dX9_child__21 fK_9_153 rfl rfl ho (Nat.le_of_ble_eq_true rfl) (Nat.le_of_ble_eq_true rfl) rfl (Nat.le_of_ble_eq_true rfl) he rfl
theorem X9_child__24 : iWp d mX9_child_ 24 [a0, a1, a2, a3, a4] (.int x :: st) h Q = iWp d mX9_child_ 26 [a0, a1, a2, iClr a3, .int x] st h Q := w_istore dX9_child__24 (Nat.le_of_ble_eq_true rfl) rfl
theorem X9_child__26 : iWp d mX9_child_ 26 [a0, a1, a2, a3, .int x] st h Q = iWp d mX9_child_ 28 [a0, a1, a2, a3, .int x] (.int x :: st) h Q := w_iload dX9_child__26 rfl
theorem X9_child__28 : iWp d mX9_child_ 28 [a0, a1, a2, a3, a4] st h Q = iWp d mX9_child_ 29 [a0, a1, a2, a3, a4] (.int (-1) :: st) h Q := w_iconst dX9_child__28 rfl
theorem X9_child__29 : iWp d mX9_child_ 29 [a0, a1, a2, a3, a4] (.int y :: .int x :: st) h Q = if x = y then iWp d mX9_child_ 48 [a0, a1, a2, a3, a4] st h Q else iWp d mX9_child_ 32 [a0, a1, a2, a3, a4] st h Q := w_icmp_eq dX9_child__29 rfl
theorem X9_child__32 : iWp d mX9_child_ 32 [a0, a1, a2, .int x, a4] st h Q = iWp d mX9_child_ 33 [a0, a1, a2, .int x, a4] (.int x :: st) h Q := w_iload_n dX9_child__32 rfl
theorem X9_child__33 : iWp d mX9_child_ 33 [a0, a1, a2, a3, a4] st h Q = iWp d mX9_child_ 34 [a0, a1, a2, a3, a4] (.int 0 :: st) h Q := w_iconst dX9_child__33 rfl
theorem X9_child__34 : iWp d mX9_child_ 34 [.ref p, a1, a2, a3, a4] st h Q = iWp d mX9_child_ 35 [.ref p, a1, a2, a3, a4] (.ref p :: st) h Q := w_aload_n dX9_child__34 rfl
theorem X9_child__35 : iWp d mX9_child_ 35 [a0, a1, a2, a3, .int x] st h Q = iWp d mX9_child_ 37 [a0, a1, a2, a3, .int x] (.int x :: st) h Q := w_iload dX9_child__35 rfl
theorem X9_child__37 (he : iEv mX9_children [.ref p, .int x0] h (some (.int rv)) h2) (ho : iObj h p 9 = true) : iWp 3 mX9_child_ 37 [a0, a1, a2, a3, a4] [.int x0, .ref p, .int r0, .int r1] h Q = iWp 3 mX9_child_ 40 [a0, a1, a2, a3, a4] [.int rv, .int r0, .int r1] h2 Q := iWp_cV dX9_child__37 fK_9_178 rfl rfl ho (Nat.le_of_ble_eq_true rfl) (Nat.le_of_ble_eq_true rfl) rfl (Nat.le_of_ble_eq_true rfl) he rfl
theorem X9_child__40 : iWp d mX9_child_ 40 [a0, a1, a2, a3, a4] st h Q = iWp d mX9_child_ 41 [a0, a1, a2, a3, a4] (.int 1 :: st) h Q := w_iconst dX9_child__40 rfl
theorem X9_child__41 : iWp d mX9_child_ 41 [a0, a1, a2, a3, a4] (.int y :: .int x :: st) h Q = iWp d mX9_child_ 42 [a0, a1, a2, a3, a4] (.int (x - y) :: st) h Q := w_isub dX9_child__41
theorem X9_child__42 (he : iEv mX9_within [.int x0, .int x1, .int x2] h (some (.int rv)) h2) : iWp 3 mX9_child_ 42 [a0, a1, a2, a3, a4] [.int x2, .int x1, .int x0] h Q = iWp 3 mX9_child_ 45 [a0, a1, a2, a3, a4] [.int rv] h2 Q := iWp_cS dX9_child__42 fK_9_106 rfl rfl (Nat.le_of_ble_eq_true rfl) (Nat.le_of_ble_eq_true rfl) rfl (Nat.le_of_ble_eq_true rfl) he rfl
theorem X9_child__45 : iWp d mX9_child_ 45 [a0, a1, a2, a3, a4] (.int x :: st) h Q = if x = 0 then iWp d mX9_child_ 48 [a0, a1, a2, a3, a4] st h Q else iWp d mX9_child_ 55 [a0, a1, a2, a3, a4] st h Q := w_ifc_ne dX9_child__45 rfl
theorem X9_child__48 : iWp d mX9_child_ 48 [.ref p, a1, a2, a3, a4] st h Q = iWp d mX9_child_ 49 [.ref p, a1, a2, a3, a4] (.ref p :: st) h Q := w_aload_n dX9_child__48 rfl
theorem X9_child__49 : iWp d mX9_child_ 49 [a0, a1, a2, a3, a4] st h Q = iWp d mX9_child_ 51 [a0, a1, a2, a3, a4] (.int (-5) :: st) h Q := w_bipush dX9_child__49 rfl
theorem X9_child__51 (he : iEv mX9_no [.ref p, .int x0] h (some (.int rv)) h2) (ho : iObj h p 9 = true) : iWp 3 mX9_child_ 51 [a0, a1, a2, a3, a4] [.int x0, .ref p] h Q = iWp 3 mX9_child_ 54 [a0, a1, a2, a3, a4] [.int rv] h2 Q := iWp_cV dX9_child__51 fK_9_99 rfl rfl ho (Nat.le_of_ble_eq_true rfl) (Nat.le_of_ble_eq_true rfl) rfl (Nat.le_of_ble_eq_true rfl) he rfl
theorem X9_child__54 : iWp d mX9_child_ 54 [a0, a1, a2, a3, a4] [.int x] h Q = Q (some (.int x)) h := w_ireti dX9_child__54 rfl
theorem X9_child__55 : iWp d mX9_child_ 55 [.ref p, a1, a2, a3, a4] st h Q = iWp d mX9_child_ 56 [.ref p, a1, a2, a3, a4] (.ref p :: st) h Q := w_aload_n dX9_child__55 rfl
theorem X9_child__56 : iWp d mX9_child_ 56 [a0, a1, a2, a3, a4] (.ref p :: st) h Q = iOb (iGet h p 9 19) (fun v => iWp d mX9_child_ 59 [a0, a1, a2, a3, a4] (v :: st) h Q) := w_getf dX9_child__56 fF_9_44
theorem X9_child__59 : iWp d mX9_child_ 59 [.ref p, a1, a2, a3, a4] st h Q = iWp d mX9_child_ 60 [.ref p, a1, a2, a3, a4] (.ref p :: st) h Q := w_aload_n dX9_child__59 rfl
theorem X9_child__60 : iWp d mX9_child_ 60 [a0, a1, a2, a3, .int x] st h Q = iWp d mX9_child_ 62 [a0, a1, a2, a3, .int x] (.int x :: st) h Q := w_iload dX9_child__60 rfl
theorem X9_child__62 : iWp d mX9_child_ 62 [a0, a1, a2, .int x, a4] st h Q = iWp d mX9_child_ 63 [a0, a1, a2, .int x, a4] (.int x :: st) h Q := w_iload_n dX9_child__62 rfl
theorem X9_child__63 (he : iEv mX9_child [.ref p, .int x0, .int x1] h (some (.int rv)) h2) (ho : iObj h p 9 = true) : iWp 3 mX9_child_ 63 [a0, a1, a2, a3, a4] [.int x1, .int x0, .ref p, .ref t0] h Q = iWp 3 mX9_child_ 66 [a0, a1, a2, a3, a4] [.int rv, .ref t0] h2 Q := iWp_cV dX9_child__63 fK_9_136 rfl rfl ho (Nat.le_of_ble_eq_true rfl) (Nat.le_of_ble_eq_true rfl) rfl (Nat.le_of_ble_eq_true rfl) he rfl
theorem X9_child__66 : iWp d mX9_child_ 66 [a0, a1, a2, a3, a4] (.int x :: .ref p :: st) h Q = iOb (iLdI h p x) (fun v => iWp d mX9_child_ 67 [a0, a1, a2, a3, a4] (.int v :: st) h Q) := w_iaload dX9_child__66
theorem X9_child__67 : iWp d mX9_child_ 67 [a0, a1, a2, a3, a4] [.int x] h Q = Q (some (.int x)) h := w_ireti dX9_child__67 rfl
theorem I9_child_ {Q : Option Value → iHp → Prop} (hw : iWp 3 mX9_child_ 0 [.ref p, .int x0, .int x1, .int x2, iU] [] h Q) : ∃ r h1, iEv mX9_child_ [.ref p, .int x0, .int x1, .int x2] h r h1 ∧ Q r h1 := iEv_of (by rfl) rfl hw
theorem J9_child_ {r : Option Value} {h1 : iHp} (hw : iWp 3 mX9_child_ 0 [.ref p, .int x0, .int x1, .int x2, iU] [] h (fun r' h' => r' = r ∧ h' = h1)) : iEv mX9_child_ [.ref p, .int x0, .int x1, .int x2] h r h1 := iEv_ev (by rfl) rfl hw
theorem X9_children_0 : iWp d mX9_children 0 [a0, a1, a2, a3] st h Q = iWp d mX9_children 1 [a0, a1, a2, a3] (.int 0 :: st) h Q := w_iconst dX9_children_0 rfl
theorem X9_children_1 : iWp d mX9_children 1 [a0, a1, a2, a3] (.int x :: st) h Q = iWp d mX9_children 2 [a0, iClr a1, .int x, a3] st h Q := w_istore_n dX9_children_1 (Nat.le_of_ble_eq_true rfl) rfl
theorem X9_children_2 : iWp d mX9_children 2 [a0, .int x, a2, a3] st h Q = iWp d mX9_children 3 [a0, .int x, a2, a3] (.int x :: st) h Q := w_iload_n dX9_children_2 rfl
theorem X9_children_3 : iWp d mX9_children 3 [a0, a1, a2, a3] st h Q = iWp d mX9_children 4 [a0, a1, a2, a3] (.int 1 :: st) h Q := w_iconst dX9_children_3 rfl
theorem X9_children_4 : iWp d mX9_children 4 [a0, a1, a2, a3] (.int y :: .int x :: st) h Q = iWp d mX9_children 5 [a0, a1, a2, a3] (.int (x + y) :: st) h Q := w_iadd dX9_children_4
theorem X9_children_5 : iWp d mX9_children 5 [a0, a1, a2, a3] (.int x :: st) h Q = iWp d mX9_children 6 [a0, a1, iClr a2, .int x] st h Q := w_istore_n dX9_children_5 (Nat.le_of_ble_eq_true rfl) rfl
theorem X9_children_6 : iWp d mX9_children 6 [a0, a1, a2, .int x] st h Q = iWp d mX9_children 7 [a0, a1, a2, .int x] (.int x :: st) h Q := w_iload_n dX9_children_6 rfl
theorem X9_children_7 : iWp d mX9_children 7 [.ref p, a1, a2, a3] st h Q = iWp d mX9_children 8 [.ref p, a1, a2, a3] (.ref p :: st) h Q := w_aload_n dX9_children_7 rfl
theorem X9_children_8 : iWp d mX9_children 8 [a0, .int x, a2, a3] st h Q = iWp d mX9_children 9 [a0, .int x, a2, a3] (.int x :: st) h Q := w_iload_n dX9_children_8 rfl
theorem X9_children_9 (he : iEv mX9_end [.ref p, .int x0] h (some (.int rv)) h2) (ho : iObj h p 9 = true) : iWp 2 mX9_children 9 [a0, a1, a2, a3] [.int x0, .ref p, .int r0] h Q = iWp 2 mX9_children 12 [a0, a1, a2, a3] [.int rv, .int r0] h2 Q := iWp_cV dX9_children_9 fK_9_133 rfl rfl ho (Nat.le_of_ble_eq_true rfl) (Nat.le_of_ble_eq_true rfl) rfl (Nat.le_of_ble_eq_true rfl) he rfl
theorem X9_children_12 : iWp d mX9_children 12 [a0, a1, a2, a3] (.int y :: .int x :: st) h Q = if y ≤ x then iWp d mX9_children 41 [a0, a1, a2, a3] st h Q else iWp d mX9_children 15 [a0, a1, a2, a3] st h Q := w_icmp_ge dX9_children_12 rfl
theorem X9_children_15 : iWp d mX9_children 15 [.ref p, a1, a2, a3] st h Q = iWp d mX9_children 16 [.ref p, a1, a2, a3] (.ref p :: st) h Q := w_aload_n dX9_children_15 rfl
theorem X9_children_16 : iWp d mX9_children 16 [a0, a1, a2, a3] (.ref p :: st) h Q = iOb (iGet h p 9 21) (fun v => iWp d mX9_children 19 [a0, a1, a2, a3] (v :: st) h Q) := w_getf dX9_children_16 fF_9_50
theorem X9_children_19 : iWp d mX9_children 19 [a0, a1, a2, .int x] st h Q = iWp d mX9_children 20 [a0, a1, a2, .int x] (.int x :: st) h Q := w_iload_n dX9_children_19 rfl
theorem X9_children_20 : iWp d mX9_children 20 [a0, a1, a2, a3] (.int x :: .ref p :: st) h Q = iOb (iLdI h p x) (fun v => iWp d mX9_children 21 [a0, a1, a2, a3] (.int v :: st) h Q) := w_iaload dX9_children_20
theorem X9_children_21 : iWp d mX9_children 21 [.ref p, a1, a2, a3] st h Q = iWp d mX9_children 22 [.ref p, a1, a2, a3] (.ref p :: st) h Q := w_aload_n dX9_children_21 rfl
theorem X9_children_22 : iWp d mX9_children 22 [a0, a1, a2, a3] (.ref p :: st) h Q = iOb (iGet h p 9 21) (fun v => iWp d mX9_children 25 [a0, a1, a2, a3] (v :: st) h Q) := w_getf dX9_children_22 fF_9_50
theorem X9_children_25 : iWp d mX9_children 25 [a0, .int x, a2, a3] st h Q = iWp d mX9_children 26 [a0, .int x, a2, a3] (.int x :: st) h Q := w_iload_n dX9_children_25 rfl
theorem X9_children_26 : iWp d mX9_children 26 [a0, a1, a2, a3] (.int x :: .ref p :: st) h Q = iOb (iLdI h p x) (fun v => iWp d mX9_children 27 [a0, a1, a2, a3] (.int v :: st) h Q) := w_iaload dX9_children_26
theorem X9_children_27 : iWp d mX9_children 27 [a0, a1, a2, a3] st h Q = iWp d mX9_children 28 [a0, a1, a2, a3] (.int 1 :: st) h Q := w_iconst dX9_children_27 rfl
theorem X9_children_28 : iWp d mX9_children 28 [a0, a1, a2, a3] (.int y :: .int x :: st) h Q = iWp d mX9_children 29 [a0, a1, a2, a3] (.int (x + y) :: st) h Q := w_iadd dX9_children_28
theorem X9_children_29 : iWp d mX9_children 29 [a0, a1, a2, a3] (.int y :: .int x :: st) h Q = if x = y then iWp d mX9_children 32 [a0, a1, a2, a3] st h Q else iWp d mX9_children 35 [a0, a1, a2, a3] st h Q := w_icmp_ne dX9_children_29 rfl
theorem X9_children_32 : iWp d mX9_children 32 [a0, a1, .int x, a3] st h Q = iWp d mX9_children 35 [a0, iClr a1, .int (x + 1), a3] st h Q := w_iinc dX9_children_32 rfl (Nat.le_of_ble_eq_true rfl) rfl
theorem X9_children_35 : iWp d mX9_children 35 [a0, a1, a2, .int x] st h Q = iWp d mX9_children 38 [a0, a1, iClr a2, .int (x + 1)] st h Q := w_iinc dX9_children_35 rfl (Nat.le_of_ble_eq_true rfl) rfl
theorem X9_children_38 : iWp d mX9_children 38 [a0, a1, a2, a3] st h Q = iWp d mX9_children 6 [a0, a1, a2, a3] st h Q := w_goto dX9_children_38 rfl
theorem X9_children_41 : iWp d mX9_children 41 [a0, a1, .int x, a3] st h Q = iWp d mX9_children 42 [a0, a1, .int x, a3] (.int x :: st) h Q := w_iload_n dX9_children_41 rfl
theorem X9_children_42 : iWp d mX9_children 42 [a0, a1, a2, a3] [.int x] h Q = Q (some (.int x)) h := w_ireti dX9_children_42 rfl
theorem I9_children {Q : Option Value → iHp → Prop} (hw : iWp 2 mX9_children 0 [.ref p, .int x0, iU, iU] [] h Q) : ∃ r h1, iEv mX9_children [.ref p, .int x0] h r h1 ∧ Q r h1 := iEv_of (by rfl) rfl hw
theorem J9_children {r : Option Value} {h1 : iHp} (hw : iWp 2 mX9_children 0 [.ref p, .int x0, iU, iU] [] h (fun r' h' => r' = r ∧ h' = h1)) : iEv mX9_children [.ref p, .int x0] h r h1 := iEv_ev (by rfl) rfl hw
theorem X9_conflict_0 : iWp d mX9_conflict 0 [.ref p, a1, a2, a3] st h Q = iWp d mX9_conflict 1 [.ref p, a1, a2, a3] (.ref p :: st) h Q := w_aload_n dX9_conflict_0 rfl
theorem X9_conflict_1 : iWp d mX9_conflict 1 [a0, .int x, a2, a3] st h Q = iWp d mX9_conflict 2 [a0, .int x, a2, a3] (.int x :: st) h Q := w_iload_n dX9_conflict_1 rfl
theorem X9_conflict_2 (he : iEv mX9_isPatch [.ref p, .int x0] h (some (.int rv)) h2) (ho : iObj h p 9 = true) : iWp 3 mX9_conflict 2 [a0, a1, a2, a3] [.int x0, .ref p] h Q = iWp 3 mX9_conflict 5 [a0, a1, a2, a3] [.int rv] h2 Q := iWp_cV dX9_conflict_2 fK_9_120 rfl rfl ho (Nat.le_of_ble_eq_true rfl) (Nat.le_of_ble_eq_true rfl) rfl (Nat.le_of_ble_eq_true rfl) he rfl
theorem X9_conflict_5 : iWp d mX9_conflict 5 [a0, a1, a2, a3] (.int x :: st) h Q = if x = 0 then iWp d mX9_conflict 8 [a0, a1, a2, a3] st h Q else iWp d mX9_conflict 14 [a0, a1, a2, a3] st h Q := w_ifc_ne dX9_conflict_5 rfl
theorem X9_conflict_8 : iWp d mX9_conflict 8 [.ref p, a1, a2, a3] st h Q = iWp d mX9_conflict 9 [.ref p, a1, a2, a3] (.ref p :: st) h Q := w_aload_n dX9_conflict_8 rfl
theorem X9_conflict_9 : iWp d mX9_conflict 9 [a0, a1, a2, a3] st h Q = iWp d mX9_conflict 10 [a0, a1, a2, a3] (.int (-1) :: st) h Q := w_iconst dX9_conflict_9 rfl
theorem X9_conflict_10 (he : iEv mX9_no [.ref p, .int x0] h (some (.int rv)) h2) (ho : iObj h p 9 = true) : iWp 3 mX9_conflict 10 [a0, a1, a2, a3] [.int x0, .ref p] h Q = iWp 3 mX9_conflict 13 [a0, a1, a2, a3] [.int rv] h2 Q := iWp_cV dX9_conflict_10 fK_9_99 rfl rfl ho (Nat.le_of_ble_eq_true rfl) (Nat.le_of_ble_eq_true rfl) rfl (Nat.le_of_ble_eq_true rfl) he rfl
theorem X9_conflict_13 : iWp d mX9_conflict 13 [a0, a1, a2, a3] [.int x] h Q = Q (some (.int x)) h := w_ireti dX9_conflict_13 rfl
theorem X9_conflict_14 : iWp d mX9_conflict 14 [a0, a1, .int x, a3] st h Q = iWp d mX9_conflict 15 [a0, a1, .int x, a3] (.int x :: st) h Q := w_iload_n dX9_conflict_14 rfl
theorem X9_conflict_15 : iWp d mX9_conflict 15 [a0, a1, a2, a3] st h Q = iWp d mX9_conflict 16 [a0, a1, a2, a3] (.int 0 :: st) h Q := w_iconst dX9_conflict_15 rfl
theorem X9_conflict_16 : iWp d mX9_conflict 16 [.ref p, a1, a2, a3] st h Q = iWp d mX9_conflict 17 [.ref p, a1, a2, a3] (.ref p :: st) h Q := w_aload_n dX9_conflict_16 rfl
theorem X9_conflict_17 : iWp d mX9_conflict 17 [a0, a1, a2, a3] st h Q = iWp d mX9_conflict 18 [a0, a1, a2, a3] (.int 4 :: st) h Q := w_iconst dX9_conflict_17 rfl
theorem X9_conflict_18 : iWp d mX9_conflict 18 [a0, .int x, a2, a3] st h Q = iWp d mX9_conflict 19 [a0, .int x, a2, a3] (.int x :: st) h Q := w_iload_n dX9_conflict_18 rfl
theorem X9_conflict_19 (he : iEv mX9_of [.ref p, .int x0, .int x1] h (some (.int rv)) h2) (ho : iObj h p 9 = true) : iWp 3 mX9_conflict 19 [a0, a1, a2, a3] [.int x1, .int x0, .ref p, .int r0, .int r1] h Q = iWp 3 mX9_conflict 22 [a0, a1, a2, a3] [.int rv, .int r0, .int r1] h2 Q := iWp_cV dX9_conflict_19 fK_9_123 rfl rfl ho (Nat.le_of_ble_eq_true rfl) (Nat.le_of_ble_eq_true rfl) rfl (Nat.le_of_ble_eq_true rfl) he rfl
theorem X9_conflict_22 : iWp d mX9_conflict 22 [a0, a1, a2, a3] st h Q = iWp d mX9_conflict 23 [a0, a1, a2, a3] (.int 1 :: st) h Q := w_iconst dX9_conflict_22 rfl
theorem X9_conflict_23 : iWp d mX9_conflict 23 [a0, a1, a2, a3] (.int y :: .int x :: st) h Q = iWp d mX9_conflict 24 [a0, a1, a2, a3] (.int (x - y) :: st) h Q := w_isub dX9_conflict_23
theorem X9_conflict_24 (he : iEv mX9_within [.int x0, .int x1, .int x2] h (some (.int rv)) h2) : iWp 3 mX9_conflict 24 [a0, a1, a2, a3] [.int x2, .int x1, .int x0] h Q = iWp 3 mX9_conflict 27 [a0, a1, a2, a3] [.int rv] h2 Q := iWp_cS dX9_conflict_24 fK_9_106 rfl rfl (Nat.le_of_ble_eq_true rfl) (Nat.le_of_ble_eq_true rfl) rfl (Nat.le_of_ble_eq_true rfl) he rfl
theorem X9_conflict_27 : iWp d mX9_conflict 27 [a0, a1, a2, a3] (.int x :: st) h Q = if x = 0 then iWp d mX9_conflict 58 [a0, a1, a2, a3] st h Q else iWp d mX9_conflict 30 [a0, a1, a2, a3] st h Q := w_ifc_eq dX9_conflict_27 rfl
theorem X9_conflict_30 : iWp d mX9_conflict 30 [a0, a1, a2, .int x] st h Q = iWp d mX9_conflict 31 [a0, a1, a2, .int x] (.int x :: st) h Q := w_iload_n dX9_conflict_30 rfl
theorem X9_conflict_31 : iWp d mX9_conflict 31 [a0, a1, a2, a3] st h Q = iWp d mX9_conflict 32 [a0, a1, a2, a3] (.int 0 :: st) h Q := w_iconst dX9_conflict_31 rfl
theorem X9_conflict_32 : iWp d mX9_conflict 32 [a0, a1, a2, a3] st h Q = iWp d mX9_conflict 33 [a0, a1, a2, a3] (.int 1 :: st) h Q := w_iconst dX9_conflict_32 rfl
theorem X9_conflict_33 (he : iEv mX9_within [.int x0, .int x1, .int x2] h (some (.int rv)) h2) : iWp 3 mX9_conflict 33 [a0, a1, a2, a3] [.int x2, .int x1, .int x0] h Q = iWp 3 mX9_conflict 36 [a0, a1, a2, a3] [.int rv] h2 Q := iWp_cS dX9_conflict_33 fK_9_106 rfl rfl (Nat.le_of_ble_eq_true rfl) (Nat.le_of_ble_eq_true rfl) rfl (Nat.le_of_ble_eq_true rfl) he rfl
theorem X9_conflict_36 : iWp d mX9_conflict 36 [a0, a1, a2, a3] (.int x :: st) h Q = if x = 0 then iWp d mX9_conflict 58 [a0, a1, a2, a3] st h Q else iWp d mX9_conflict 39 [a0, a1, a2, a3] st h Q := w_ifc_eq dX9_conflict_36 rfl
theorem X9_conflict_39 : iWp d mX9_conflict 39 [.ref p, a1, a2, a3] st h Q = iWp d mX9_conflict 40 [.ref p, a1, a2, a3] (.ref p :: st) h Q := w_aload_n dX9_conflict_39 rfl
theorem X9_conflict_40 : iWp d mX9_conflict 40 [a0, a1, a2, a3] (.ref p :: st) h Q = iOb (iGet h p 9 9) (fun v => iWp d mX9_conflict 43 [a0, a1, a2, a3] (v :: st) h Q) := w_getf dX9_conflict_40 fF_9_28
theorem X9_conflict_43 : iWp d mX9_conflict 43 [a0, a1, a2, a3] st h Q = iWp d mX9_conflict 46 [a0, a1, a2, a3] (.int 240 :: st) h Q := w_sipush dX9_conflict_43 rfl
theorem X9_conflict_46 : iWp d mX9_conflict 46 [a0, .int x, a2, a3] st h Q = iWp d mX9_conflict 47 [a0, .int x, a2, a3] (.int x :: st) h Q := w_iload_n dX9_conflict_46 rfl
theorem X9_conflict_47 : iWp d mX9_conflict 47 [a0, a1, a2, a3] (.int y :: .int x :: st) h Q = iWp d mX9_conflict 48 [a0, a1, a2, a3] (.int (x * y) :: st) h Q := w_imul dX9_conflict_47
theorem X9_conflict_48 : iWp d mX9_conflict 48 [a0, a1, a2, a3] st h Q = iWp d mX9_conflict 49 [a0, a1, a2, a3] (.int 2 :: st) h Q := w_iconst dX9_conflict_48 rfl
theorem X9_conflict_49 : iWp d mX9_conflict 49 [a0, a1, .int x, a3] st h Q = iWp d mX9_conflict 50 [a0, a1, .int x, a3] (.int x :: st) h Q := w_iload_n dX9_conflict_49 rfl
theorem X9_conflict_50 : iWp d mX9_conflict 50 [a0, a1, a2, a3] (.int y :: .int x :: st) h Q = iWp d mX9_conflict 51 [a0, a1, a2, a3] (.int (x * y) :: st) h Q := w_imul dX9_conflict_50
theorem X9_conflict_51 : iWp d mX9_conflict 51 [a0, a1, a2, a3] (.int y :: .int x :: st) h Q = iWp d mX9_conflict 52 [a0, a1, a2, a3] (.int (x + y) :: st) h Q := w_iadd dX9_conflict_51
theorem X9_conflict_52 : iWp d mX9_conflict 52 [a0, a1, a2, .int x] st h Q = iWp d mX9_conflict 53 [a0, a1, a2, .int x] (.int x :: st) h Q := w_iload_n dX9_conflict_52 rfl
theorem X9_conflict_53 : iWp d mX9_conflict 53 [a0, a1, a2, a3] (.int y :: .int x :: st) h Q = iWp d mX9_conflict 54 [a0, a1, a2, a3] (.int (x + y) :: st) h Q := w_iadd dX9_conflict_53
theorem X9_conflict_54 : iWp d mX9_conflict 54 [a0, a1, a2, a3] (.int x :: .ref p :: st) h Q = iOb (iLdI h p x) (fun v => iWp d mX9_conflict 55 [a0, a1, a2, a3] (.int v :: st) h Q) := w_iaload dX9_conflict_54
theorem X9_conflict_55 : iWp d mX9_conflict 55 [a0, a1, a2, a3] st h Q = iWp d mX9_conflict 64 [a0, a1, a2, a3] st h Q := w_goto dX9_conflict_55 rfl
theorem X9_conflict_58 : iWp d mX9_conflict 58 [.ref p, a1, a2, a3] st h Q = iWp d mX9_conflict 59 [.ref p, a1, a2, a3] (.ref p :: st) h Q := w_aload_n dX9_conflict_58 rfl
theorem X9_conflict_59 : iWp d mX9_conflict 59 [a0, a1, a2, a3] st h Q = iWp d mX9_conflict 61 [a0, a1, a2, a3] (.int (-5) :: st) h Q := w_bipush dX9_conflict_59 rfl
theorem X9_conflict_61 (he : iEv mX9_no [.ref p, .int x0] h (some (.int rv)) h2) (ho : iObj h p 9 = true) : iWp 3 mX9_conflict 61 [a0, a1, a2, a3] [.int x0, .ref p] h Q = iWp 3 mX9_conflict 64 [a0, a1, a2, a3] [.int rv] h2 Q := iWp_cV dX9_conflict_61 fK_9_99 rfl rfl ho (Nat.le_of_ble_eq_true rfl) (Nat.le_of_ble_eq_true rfl) rfl (Nat.le_of_ble_eq_true rfl) he rfl
theorem X9_conflict_64 : iWp d mX9_conflict 64 [a0, a1, a2, a3] [.int x] h Q = Q (some (.int x)) h := w_ireti dX9_conflict_64 rfl
theorem I9_conflict {Q : Option Value → iHp → Prop} (hw : iWp 3 mX9_conflict 0 [.ref p, .int x0, .int x1, .int x2] [] h Q) : ∃ r h1, iEv mX9_conflict [.ref p, .int x0, .int x1, .int x2] h r h1 ∧ Q r h1 := iEv_of (by rfl) rfl hw
theorem J9_conflict {r : Option Value} {h1 : iHp} (hw : iWp 3 mX9_conflict 0 [.ref p, .int x0, .int x1, .int x2] [] h (fun r' h' => r' = r ∧ h' = h1)) : iEv mX9_conflict [.ref p, .int x0, .int x1, .int x2] h r h1 := iEv_ev (by rfl) rfl hw
theorem X9_copy_0 : iWp d mX9_copy 0 [a0, .int x, a2, a3, a4, a5, a6] st h Q = iWp d mX9_copy 1 [a0, .int x, a2, a3, a4, a5, a6] (.int x :: st) h Q := w_iload_n dX9_copy_0 rfl
theorem X9_copy_1 : iWp d mX9_copy 1 [a0, a1, a2, a3, a4, a5, a6] st h Q = iWp d mX9_copy 2 [a0, a1, a2, a3, a4, a5, a6] (.int 0 :: st) h Q := w_iconst dX9_copy_1 rfl
theorem X9_copy_2 : iWp d mX9_copy 2 [a0, a1, a2, a3, a4, a5, a6] st h Q = iWp d mX9_copy 4 [a0, a1, a2, a3, a4, a5, a6] (.int 7 :: st) h Q := w_bipush dX9_copy_2 rfl
theorem X9_copy_4 (he : iEv mX9_within [.int x0, .int x1, .int x2] h (some (.int rv)) h2) : iWp 2 mX9_copy 4 [a0, a1, a2, a3, a4, a5, a6] [.int x2, .int x1, .int x0] h Q = iWp 2 mX9_copy 7 [a0, a1, a2, a3, a4, a5, a6] [.int rv] h2 Q := iWp_cS dX9_copy_4 fK_9_106 rfl rfl (Nat.le_of_ble_eq_true rfl) (Nat.le_of_ble_eq_true rfl) rfl (Nat.le_of_ble_eq_true rfl) he rfl
theorem X9_copy_7 : iWp d mX9_copy 7 [a0, a1, a2, a3, a4, a5, a6] (.int x :: st) h Q = if x = 0 then iWp d mX9_copy 20 [a0, a1, a2, a3, a4, a5, a6] st h Q else iWp d mX9_copy 10 [a0, a1, a2, a3, a4, a5, a6] st h Q := w_ifc_eq dX9_copy_7 rfl
theorem X9_copy_10 : iWp d mX9_copy 10 [a0, a1, .int x, a3, a4, a5, a6] st h Q = iWp d mX9_copy 11 [a0, a1, .int x, a3, a4, a5, a6] (.int x :: st) h Q := w_iload_n dX9_copy_10 rfl
theorem X9_copy_11 : iWp d mX9_copy 11 [a0, a1, a2, a3, a4, a5, a6] st h Q = iWp d mX9_copy 12 [a0, a1, a2, a3, a4, a5, a6] (.int 0 :: st) h Q := w_iconst dX9_copy_11 rfl
theorem X9_copy_12 : iWp d mX9_copy 12 [a0, a1, a2, a3, a4, a5, a6] st h Q = iWp d mX9_copy 14 [a0, a1, a2, a3, a4, a5, a6] (.int 7 :: st) h Q := w_bipush dX9_copy_12 rfl
theorem X9_copy_14 (he : iEv mX9_within [.int x0, .int x1, .int x2] h (some (.int rv)) h2) : iWp 2 mX9_copy 14 [a0, a1, a2, a3, a4, a5, a6] [.int x2, .int x1, .int x0] h Q = iWp 2 mX9_copy 17 [a0, a1, a2, a3, a4, a5, a6] [.int rv] h2 Q := iWp_cS dX9_copy_14 fK_9_106 rfl rfl (Nat.le_of_ble_eq_true rfl) (Nat.le_of_ble_eq_true rfl) rfl (Nat.le_of_ble_eq_true rfl) he rfl
theorem X9_copy_17 : iWp d mX9_copy 17 [a0, a1, a2, a3, a4, a5, a6] (.int x :: st) h Q = if x = 0 then iWp d mX9_copy 20 [a0, a1, a2, a3, a4, a5, a6] st h Q else iWp d mX9_copy 26 [a0, a1, a2, a3, a4, a5, a6] st h Q := w_ifc_ne dX9_copy_17 rfl
theorem X9_copy_20 : iWp d mX9_copy 20 [.ref p, a1, a2, a3, a4, a5, a6] st h Q = iWp d mX9_copy 21 [.ref p, a1, a2, a3, a4, a5, a6] (.ref p :: st) h Q := w_aload_n dX9_copy_20 rfl
theorem X9_copy_21 : iWp d mX9_copy 21 [a0, a1, a2, a3, a4, a5, a6] st h Q = iWp d mX9_copy 22 [a0, a1, a2, a3, a4, a5, a6] (.int (-1) :: st) h Q := w_iconst dX9_copy_21 rfl
theorem X9_copy_22 (he : iEv mX9_no [.ref p, .int x0] h (some (.int rv)) h2) (ho : iObj h p 9 = true) : iWp 2 mX9_copy 22 [a0, a1, a2, a3, a4, a5, a6] [.int x0, .ref p] h Q = iWp 2 mX9_copy 25 [a0, a1, a2, a3, a4, a5, a6] [.int rv] h2 Q := iWp_cV dX9_copy_22 fK_9_99 rfl rfl ho (Nat.le_of_ble_eq_true rfl) (Nat.le_of_ble_eq_true rfl) rfl (Nat.le_of_ble_eq_true rfl) he rfl
theorem X9_copy_25 : iWp d mX9_copy 25 [a0, a1, a2, a3, a4, a5, a6] [.int x] h Q = Q (some (.int x)) h := w_ireti dX9_copy_25 rfl
theorem X9_copy_26 : iWp d mX9_copy 26 [.ref p, a1, a2, a3, a4, a5, a6] st h Q = iWp d mX9_copy 27 [.ref p, a1, a2, a3, a4, a5, a6] (.ref p :: st) h Q := w_aload_n dX9_copy_26 rfl
theorem X9_copy_27 : iWp d mX9_copy 27 [a0, a1, a2, a3, a4, a5, a6] (.ref p :: st) h Q = iOb (iGet h p 9 11) (fun v => iWp d mX9_copy 30 [a0, a1, a2, a3, a4, a5, a6] (v :: st) h Q) := w_getf dX9_copy_27 fF_9_31
theorem X9_copy_30 : iWp d mX9_copy 30 [a0, .int x, a2, a3, a4, a5, a6] st h Q = iWp d mX9_copy 31 [a0, .int x, a2, a3, a4, a5, a6] (.int x :: st) h Q := w_iload_n dX9_copy_30 rfl
theorem X9_copy_31 : iWp d mX9_copy 31 [a0, a1, a2, a3, a4, a5, a6] (.int x :: .ref p :: st) h Q = iOb (iLdI h p x) (fun v => iWp d mX9_copy 32 [a0, a1, a2, a3, a4, a5, a6] (.int v :: st) h Q) := w_iaload dX9_copy_31
theorem X9_copy_32 : iWp d mX9_copy 32 [a0, a1, a2, a3, a4, a5, a6] (.int x :: st) h Q = if x < 0 then iWp d mX9_copy 43 [a0, a1, a2, a3, a4, a5, a6] st h Q else iWp d mX9_copy 35 [a0, a1, a2, a3, a4, a5, a6] st h Q := w_ifc_lt dX9_copy_32 rfl
theorem X9_copy_35 : iWp d mX9_copy 35 [.ref p, a1, a2, a3, a4, a5, a6] st h Q = iWp d mX9_copy 36 [.ref p, a1, a2, a3, a4, a5, a6] (.ref p :: st) h Q := w_aload_n dX9_copy_35 rfl
theorem X9_copy_36 : iWp d mX9_copy 36 [a0, .int x, a2, a3, a4, a5, a6] st h Q = iWp d mX9_copy 37 [a0, .int x, a2, a3, a4, a5, a6] (.int x :: st) h Q := w_iload_n dX9_copy_36 rfl
theorem X9_copy_37 (he : iEv mX9_isRow [.ref p, .int x0] h (some (.int rv)) h2) (ho : iObj h p 9 = true) : iWp 2 mX9_copy 37 [a0, a1, a2, a3, a4, a5, a6] [.int x0, .ref p] h Q = iWp 2 mX9_copy 40 [a0, a1, a2, a3, a4, a5, a6] [.int rv] h2 Q := iWp_cV dX9_copy_37 fK_9_113 rfl rfl ho (Nat.le_of_ble_eq_true rfl) (Nat.le_of_ble_eq_true rfl) rfl (Nat.le_of_ble_eq_true rfl) he rfl
theorem X9_copy_40 : iWp d mX9_copy 40 [a0, a1, a2, a3, a4, a5, a6] (.int x :: st) h Q = if x = 0 then iWp d mX9_copy 91 [a0, a1, a2, a3, a4, a5, a6] st h Q else iWp d mX9_copy 43 [a0, a1, a2, a3, a4, a5, a6] st h Q := w_ifc_eq dX9_copy_40 rfl
theorem X9_copy_43 : iWp d mX9_copy 43 [.ref p, a1, a2, a3, a4, a5, a6] st h Q = iWp d mX9_copy 44 [.ref p, a1, a2, a3, a4, a5, a6] (.ref p :: st) h Q := w_aload_n dX9_copy_43 rfl
theorem X9_copy_44 : iWp d mX9_copy 44 [a0, a1, a2, a3, a4, a5, a6] (.ref p :: st) h Q = iOb (iGet h p 9 11) (fun v => iWp d mX9_copy 47 [a0, a1, a2, a3, a4, a5, a6] (v :: st) h Q) := w_getf dX9_copy_44 fF_9_31
theorem X9_copy_47 : iWp d mX9_copy 47 [a0, a1, .int x, a3, a4, a5, a6] st h Q = iWp d mX9_copy 48 [a0, a1, .int x, a3, a4, a5, a6] (.int x :: st) h Q := w_iload_n dX9_copy_47 rfl
theorem X9_copy_48 : iWp d mX9_copy 48 [a0, a1, a2, a3, a4, a5, a6] (.int x :: .ref p :: st) h Q = iOb (iLdI h p x) (fun v => iWp d mX9_copy 49 [a0, a1, a2, a3, a4, a5, a6] (.int v :: st) h Q) := w_iaload dX9_copy_48
theorem X9_copy_49 : iWp d mX9_copy 49 [a0, a1, a2, a3, a4, a5, a6] (.int x :: st) h Q = if x < 0 then iWp d mX9_copy 60 [a0, a1, a2, a3, a4, a5, a6] st h Q else iWp d mX9_copy 52 [a0, a1, a2, a3, a4, a5, a6] st h Q := w_ifc_lt dX9_copy_49 rfl
theorem X9_copy_52 : iWp d mX9_copy 52 [.ref p, a1, a2, a3, a4, a5, a6] st h Q = iWp d mX9_copy 53 [.ref p, a1, a2, a3, a4, a5, a6] (.ref p :: st) h Q := w_aload_n dX9_copy_52 rfl
theorem X9_copy_53 : iWp d mX9_copy 53 [a0, a1, .int x, a3, a4, a5, a6] st h Q = iWp d mX9_copy 54 [a0, a1, .int x, a3, a4, a5, a6] (.int x :: st) h Q := w_iload_n dX9_copy_53 rfl
theorem X9_copy_54 (he : iEv mX9_isRow [.ref p, .int x0] h (some (.int rv)) h2) (ho : iObj h p 9 = true) : iWp 2 mX9_copy 54 [a0, a1, a2, a3, a4, a5, a6] [.int x0, .ref p] h Q = iWp 2 mX9_copy 57 [a0, a1, a2, a3, a4, a5, a6] [.int rv] h2 Q := iWp_cV dX9_copy_54 fK_9_113 rfl rfl ho (Nat.le_of_ble_eq_true rfl) (Nat.le_of_ble_eq_true rfl) rfl (Nat.le_of_ble_eq_true rfl) he rfl
theorem X9_copy_57 : iWp d mX9_copy 57 [a0, a1, a2, a3, a4, a5, a6] (.int x :: st) h Q = if x = 0 then iWp d mX9_copy 91 [a0, a1, a2, a3, a4, a5, a6] st h Q else iWp d mX9_copy 60 [a0, a1, a2, a3, a4, a5, a6] st h Q := w_ifc_eq dX9_copy_57 rfl
theorem X9_copy_60 : iWp d mX9_copy 60 [.ref p, a1, a2, a3, a4, a5, a6] st h Q = iWp d mX9_copy 61 [.ref p, a1, a2, a3, a4, a5, a6] (.ref p :: st) h Q := w_aload_n dX9_copy_60 rfl
theorem X9_copy_61 : iWp d mX9_copy 61 [a0, .int x, a2, a3, a4, a5, a6] st h Q = iWp d mX9_copy 62 [a0, .int x, a2, a3, a4, a5, a6] (.int x :: st) h Q := w_iload_n dX9_copy_61 rfl
theorem X9_copy_62 (he : iEv mX9_isRow [.ref p, .int x0] h (some (.int rv)) h2) (ho : iObj h p 9 = true) : iWp 2 mX9_copy 62 [a0, a1, a2, a3, a4, a5, a6] [.int x0, .ref p] h Q = iWp 2 mX9_copy 65 [a0, a1, a2, a3, a4, a5, a6] [.int rv] h2 Q := iWp_cV dX9_copy_62 fK_9_113 rfl rfl ho (Nat.le_of_ble_eq_true rfl) (Nat.le_of_ble_eq_true rfl) rfl (Nat.le_of_ble_eq_true rfl) he rfl
theorem X9_copy_65 : iWp d mX9_copy 65 [a0, a1, a2, a3, a4, a5, a6] (.int x :: st) h Q = if x = 0 then iWp d mX9_copy 98 [a0, a1, a2, a3, a4, a5, a6] st h Q else iWp d mX9_copy 68 [a0, a1, a2, a3, a4, a5, a6] st h Q := w_ifc_eq dX9_copy_65 rfl
theorem X9_copy_68 : iWp d mX9_copy 68 [.ref p, a1, a2, a3, a4, a5, a6] st h Q = iWp d mX9_copy 69 [.ref p, a1, a2, a3, a4, a5, a6] (.ref p :: st) h Q := w_aload_n dX9_copy_68 rfl
theorem X9_copy_69 : iWp d mX9_copy 69 [a0, a1, .int x, a3, a4, a5, a6] st h Q = iWp d mX9_copy 70 [a0, a1, .int x, a3, a4, a5, a6] (.int x :: st) h Q := w_iload_n dX9_copy_69 rfl
theorem X9_copy_70 (he : iEv mX9_isRow [.ref p, .int x0] h (some (.int rv)) h2) (ho : iObj h p 9 = true) : iWp 2 mX9_copy 70 [a0, a1, a2, a3, a4, a5, a6] [.int x0, .ref p] h Q = iWp 2 mX9_copy 73 [a0, a1, a2, a3, a4, a5, a6] [.int rv] h2 Q := iWp_cV dX9_copy_70 fK_9_113 rfl rfl ho (Nat.le_of_ble_eq_true rfl) (Nat.le_of_ble_eq_true rfl) rfl (Nat.le_of_ble_eq_true rfl) he rfl
theorem X9_copy_73 : iWp d mX9_copy 73 [a0, a1, a2, a3, a4, a5, a6] (.int x :: st) h Q = if x = 0 then iWp d mX9_copy 98 [a0, a1, a2, a3, a4, a5, a6] st h Q else iWp d mX9_copy 76 [a0, a1, a2, a3, a4, a5, a6] st h Q := w_ifc_eq dX9_copy_73 rfl
theorem X9_copy_76 : iWp d mX9_copy 76 [.ref p, a1, a2, a3, a4, a5, a6] st h Q = iWp d mX9_copy 77 [.ref p, a1, a2, a3, a4, a5, a6] (.ref p :: st) h Q := w_aload_n dX9_copy_76 rfl
theorem X9_copy_77 : iWp d mX9_copy 77 [a0, a1, a2, a3, a4, a5, a6] (.ref p :: st) h Q = iOb (iGet h p 9 11) (fun v => iWp d mX9_copy 80 [a0, a1, a2, a3, a4, a5, a6] (v :: st) h Q) := w_getf dX9_copy_77 fF_9_31
theorem X9_copy_80 : iWp d mX9_copy 80 [a0, .int x, a2, a3, a4, a5, a6] st h Q = iWp d mX9_copy 81 [a0, .int x, a2, a3, a4, a5, a6] (.int x :: st) h Q := w_iload_n dX9_copy_80 rfl
theorem X9_copy_81 : iWp d mX9_copy 81 [a0, a1, a2, a3, a4, a5, a6] (.int x :: .ref p :: st) h Q = iOb (iLdI h p x) (fun v => iWp d mX9_copy 82 [a0, a1, a2, a3, a4, a5, a6] (.int v :: st) h Q) := w_iaload dX9_copy_81
theorem X9_copy_82 : iWp d mX9_copy 82 [.ref p, a1, a2, a3, a4, a5, a6] st h Q = iWp d mX9_copy 83 [.ref p, a1, a2, a3, a4, a5, a6] (.ref p :: st) h Q := w_aload_n dX9_copy_82 rfl
theorem X9_copy_83 : iWp d mX9_copy 83 [a0, a1, a2, a3, a4, a5, a6] (.ref p :: st) h Q = iOb (iGet h p 9 11) (fun v => iWp d mX9_copy 86 [a0, a1, a2, a3, a4, a5, a6] (v :: st) h Q) := w_getf dX9_copy_83 fF_9_31
theorem X9_copy_86 : iWp d mX9_copy 86 [a0, a1, .int x, a3, a4, a5, a6] st h Q = iWp d mX9_copy 87 [a0, a1, .int x, a3, a4, a5, a6] (.int x :: st) h Q := w_iload_n dX9_copy_86 rfl
theorem X9_copy_87 : iWp d mX9_copy 87 [a0, a1, a2, a3, a4, a5, a6] (.int x :: .ref p :: st) h Q = iOb (iLdI h p x) (fun v => iWp d mX9_copy 88 [a0, a1, a2, a3, a4, a5, a6] (.int v :: st) h Q) := w_iaload dX9_copy_87
theorem X9_copy_88 : iWp d mX9_copy 88 [a0, a1, a2, a3, a4, a5, a6] (.int y :: .int x :: st) h Q = if x = y then iWp d mX9_copy 98 [a0, a1, a2, a3, a4, a5, a6] st h Q else iWp d mX9_copy 91 [a0, a1, a2, a3, a4, a5, a6] st h Q := w_icmp_eq dX9_copy_88 rfl
theorem X9_copy_91 : iWp d mX9_copy 91 [.ref p, a1, a2, a3, a4, a5, a6] st h Q = iWp d mX9_copy 92 [.ref p, a1, a2, a3, a4, a5, a6] (.ref p :: st) h Q := w_aload_n dX9_copy_91 rfl
theorem X9_copy_92 : iWp d mX9_copy 92 [a0, a1, a2, a3, a4, a5, a6] st h Q = iWp d mX9_copy 94 [a0, a1, a2, a3, a4, a5, a6] (.int (-2) :: st) h Q := w_bipush dX9_copy_92 rfl
theorem X9_copy_94 (he : iEv mX9_no [.ref p, .int x0] h (some (.int rv)) h2) (ho : iObj h p 9 = true) : iWp 2 mX9_copy 94 [a0, a1, a2, a3, a4, a5, a6] [.int x0, .ref p] h Q = iWp 2 mX9_copy 97 [a0, a1, a2, a3, a4, a5, a6] [.int rv] h2 Q := iWp_cV dX9_copy_94 fK_9_99 rfl rfl ho (Nat.le_of_ble_eq_true rfl) (Nat.le_of_ble_eq_true rfl) rfl (Nat.le_of_ble_eq_true rfl) he rfl
theorem X9_copy_97 : iWp d mX9_copy 97 [a0, a1, a2, a3, a4, a5, a6] [.int x] h Q = Q (some (.int x)) h := w_ireti dX9_copy_97 rfl
theorem X9_copy_98 : iWp d mX9_copy 98 [.ref p, a1, a2, a3, a4, a5, a6] st h Q = iWp d mX9_copy 99 [.ref p, a1, a2, a3, a4, a5, a6] (.ref p :: st) h Q := w_aload_n dX9_copy_98 rfl
theorem X9_copy_99 : iWp d mX9_copy 99 [a0, a1, a2, a3, a4, a5, a6] (.ref p :: st) h Q = iOb (iGet h p 9 11) (fun v => iWp d mX9_copy 102 [a0, a1, a2, a3, a4, a5, a6] (v :: st) h Q) := w_getf dX9_copy_99 fF_9_31
theorem X9_copy_102 : iWp d mX9_copy 102 [a0, .int x, a2, a3, a4, a5, a6] st h Q = iWp d mX9_copy 103 [a0, .int x, a2, a3, a4, a5, a6] (.int x :: st) h Q := w_iload_n dX9_copy_102 rfl
theorem X9_copy_103 : iWp d mX9_copy 103 [a0, a1, a2, a3, a4, a5, a6] (.int x :: .ref p :: st) h Q = iOb (iLdI h p x) (fun v => iWp d mX9_copy 104 [a0, a1, a2, a3, a4, a5, a6] (.int v :: st) h Q) := w_iaload dX9_copy_103
theorem X9_copy_104 : iWp d mX9_copy 104 [a0, a1, a2, a3, a4, a5, a6] (.int x :: st) h Q = if x < 0 then iWp d mX9_copy 116 [a0, a1, a2, a3, a4, a5, a6] st h Q else iWp d mX9_copy 107 [a0, a1, a2, a3, a4, a5, a6] st h Q := w_ifc_lt dX9_copy_104 rfl
theorem X9_copy_107 : iWp d mX9_copy 107 [.ref p, a1, a2, a3, a4, a5, a6] st h Q = iWp d mX9_copy 108 [.ref p, a1, a2, a3, a4, a5, a6] (.ref p :: st) h Q := w_aload_n dX9_copy_107 rfl
theorem X9_copy_108 : iWp d mX9_copy 108 [a0, a1, a2, a3, a4, a5, a6] (.ref p :: st) h Q = iOb (iGet h p 9 11) (fun v => iWp d mX9_copy 111 [a0, a1, a2, a3, a4, a5, a6] (v :: st) h Q) := w_getf dX9_copy_108 fF_9_31
theorem X9_copy_111 : iWp d mX9_copy 111 [a0, a1, .int x, a3, a4, a5, a6] st h Q = iWp d mX9_copy 112 [a0, a1, .int x, a3, a4, a5, a6] (.int x :: st) h Q := w_iload_n dX9_copy_111 rfl
theorem X9_copy_112 : iWp d mX9_copy 112 [a0, a1, a2, a3, a4, a5, a6] (.int x :: .ref p :: st) h Q = iOb (iLdI h p x) (fun v => iWp d mX9_copy 113 [a0, a1, a2, a3, a4, a5, a6] (.int v :: st) h Q) := w_iaload dX9_copy_112
theorem X9_copy_113 : iWp d mX9_copy 113 [a0, a1, a2, a3, a4, a5, a6] (.int x :: st) h Q = if 0 ≤ x then iWp d mX9_copy 123 [a0, a1, a2, a3, a4, a5, a6] st h Q else iWp d mX9_copy 116 [a0, a1, a2, a3, a4, a5, a6] st h Q := w_ifc_ge dX9_copy_113 rfl
theorem X9_copy_116 : iWp d mX9_copy 116 [.ref p, a1, a2, a3, a4, a5, a6] st h Q = iWp d mX9_copy 117 [.ref p, a1, a2, a3, a4, a5, a6] (.ref p :: st) h Q := w_aload_n dX9_copy_116 rfl
theorem X9_copy_117 : iWp d mX9_copy 117 [a0, a1, a2, a3, a4, a5, a6] st h Q = iWp d mX9_copy 119 [a0, a1, a2, a3, a4, a5, a6] (.int (-3) :: st) h Q := w_bipush dX9_copy_117 rfl
theorem X9_copy_119 (he : iEv mX9_no [.ref p, .int x0] h (some (.int rv)) h2) (ho : iObj h p 9 = true) : iWp 2 mX9_copy 119 [a0, a1, a2, a3, a4, a5, a6] [.int x0, .ref p] h Q = iWp 2 mX9_copy 122 [a0, a1, a2, a3, a4, a5, a6] [.int rv] h2 Q := iWp_cV dX9_copy_119 fK_9_99 rfl rfl ho (Nat.le_of_ble_eq_true rfl) (Nat.le_of_ble_eq_true rfl) rfl (Nat.le_of_ble_eq_true rfl) he rfl
theorem X9_copy_122 : iWp d mX9_copy 122 [a0, a1, a2, a3, a4, a5, a6] [.int x] h Q = Q (some (.int x)) h := w_ireti dX9_copy_122 rfl
theorem X9_copy_123 : iWp d mX9_copy 123 [a0, a1, a2, a3, a4, .int x, a6] st h Q = iWp d mX9_copy 125 [a0, a1, a2, a3, a4, .int x, a6] (.int x :: st) h Q := w_iload dX9_copy_123 rfl
theorem X9_copy_125 : iWp d mX9_copy 125 [a0, a1, a2, a3, a4, a5, a6] (.int x :: st) h Q = if 0 ≤ x then iWp d mX9_copy 135 [a0, a1, a2, a3, a4, a5, a6] st h Q else iWp d mX9_copy 128 [a0, a1, a2, a3, a4, a5, a6] st h Q := w_ifc_ge dX9_copy_125 rfl
theorem X9_copy_128 : iWp d mX9_copy 128 [.ref p, a1, a2, a3, a4, a5, a6] st h Q = iWp d mX9_copy 129 [.ref p, a1, a2, a3, a4, a5, a6] (.ref p :: st) h Q := w_aload_n dX9_copy_128 rfl
theorem X9_copy_129 : iWp d mX9_copy 129 [a0, a1, a2, a3, a4, a5, a6] st h Q = iWp d mX9_copy 131 [a0, a1, a2, a3, a4, a5, a6] (.int (-4) :: st) h Q := w_bipush dX9_copy_129 rfl
theorem X9_copy_131 (he : iEv mX9_no [.ref p, .int x0] h (some (.int rv)) h2) (ho : iObj h p 9 = true) : iWp 2 mX9_copy 131 [a0, a1, a2, a3, a4, a5, a6] [.int x0, .ref p] h Q = iWp 2 mX9_copy 134 [a0, a1, a2, a3, a4, a5, a6] [.int rv] h2 Q := iWp_cV dX9_copy_131 fK_9_99 rfl rfl ho (Nat.le_of_ble_eq_true rfl) (Nat.le_of_ble_eq_true rfl) rfl (Nat.le_of_ble_eq_true rfl) he rfl
theorem X9_copy_134 : iWp d mX9_copy 134 [a0, a1, a2, a3, a4, a5, a6] [.int x] h Q = Q (some (.int x)) h := w_ireti dX9_copy_134 rfl
theorem X9_copy_135 : iWp d mX9_copy 135 [a0, a1, a2, .int x, a4, a5, a6] st h Q = iWp d mX9_copy 136 [a0, a1, a2, .int x, a4, a5, a6] (.int x :: st) h Q := w_iload_n dX9_copy_135 rfl
theorem X9_copy_136 : iWp d mX9_copy 136 [a0, a1, a2, a3, a4, a5, a6] (.int x :: st) h Q = if x < 0 then iWp d mX9_copy 179 [a0, a1, a2, a3, a4, a5, a6] st h Q else iWp d mX9_copy 139 [a0, a1, a2, a3, a4, a5, a6] st h Q := w_ifc_lt dX9_copy_136 rfl
theorem X9_copy_139 : iWp d mX9_copy 139 [a0, a1, a2, a3, .int x, a5, a6] st h Q = iWp d mX9_copy 141 [a0, a1, a2, a3, .int x, a5, a6] (.int x :: st) h Q := w_iload dX9_copy_139 rfl
theorem X9_copy_141 : iWp d mX9_copy 141 [a0, a1, a2, a3, a4, a5, a6] (.int x :: st) h Q = if x < 0 then iWp d mX9_copy 179 [a0, a1, a2, a3, a4, a5, a6] st h Q else iWp d mX9_copy 144 [a0, a1, a2, a3, a4, a5, a6] st h Q := w_ifc_lt dX9_copy_141 rfl
theorem X9_copy_144 : iWp d mX9_copy 144 [a0, a1, a2, .int x, a4, a5, a6] st h Q = iWp d mX9_copy 145 [a0, a1, a2, .int x, a4, a5, a6] (.int x :: st) h Q := w_iload_n dX9_copy_144 rfl
theorem X9_copy_145 : iWp d mX9_copy 145 [a0, a1, a2, a3, a4, a5, a6] (.int x :: st) h Q = iWp d mX9_copy 146 [a0, a1, a2, a3, a4, a5, a6] (.long x.toInt64 :: st) h Q := w_i2l dX9_copy_145
theorem X9_copy_146 : iWp d mX9_copy 146 [a0, a1, a2, a3, a4, .int x, a6] st h Q = iWp d mX9_copy 148 [a0, a1, a2, a3, a4, .int x, a6] (.int x :: st) h Q := w_iload dX9_copy_146 rfl
theorem X9_copy_148 : iWp d mX9_copy 148 [a0, a1, a2, a3, a4, a5, a6] (.int x :: st) h Q = iWp d mX9_copy 149 [a0, a1, a2, a3, a4, a5, a6] (.long x.toInt64 :: st) h Q := w_i2l dX9_copy_148
theorem X9_copy_149 : iWp d mX9_copy 149 [a0, a1, a2, a3, a4, a5, a6] (.long v :: .long u :: st) h Q = iWp d mX9_copy 150 [a0, a1, a2, a3, a4, a5, a6] (.long (u + v) :: st) h Q := w_ladd dX9_copy_149
theorem X9_copy_150 : iWp d mX9_copy 150 [.ref p, a1, a2, a3, a4, a5, a6] st h Q = iWp d mX9_copy 151 [.ref p, a1, a2, a3, a4, a5, a6] (.ref p :: st) h Q := w_aload_n dX9_copy_150 rfl
theorem X9_copy_151 : iWp d mX9_copy 151 [a0, a1, a2, a3, a4, a5, a6] (.ref p :: st) h Q = iOb (iGet h p 9 12) (fun v => iWp d mX9_copy 154 [a0, a1, a2, a3, a4, a5, a6] (v :: st) h Q) := w_getf dX9_copy_151 fF_9_34
theorem X9_copy_154 : iWp d mX9_copy 154 [a0, .int x, a2, a3, a4, a5, a6] st h Q = iWp d mX9_copy 155 [a0, .int x, a2, a3, a4, a5, a6] (.int x :: st) h Q := w_iload_n dX9_copy_154 rfl
theorem X9_copy_155 : iWp d mX9_copy 155 [a0, a1, a2, a3, a4, a5, a6] (.int x :: .ref p :: st) h Q = iOb (iLdI h p x) (fun v => iWp d mX9_copy 156 [a0, a1, a2, a3, a4, a5, a6] (.int v :: st) h Q) := w_iaload dX9_copy_155
theorem X9_copy_156 : iWp d mX9_copy 156 [a0, a1, a2, a3, a4, a5, a6] (.int x :: st) h Q = iWp d mX9_copy 157 [a0, a1, a2, a3, a4, a5, a6] (.long x.toInt64 :: st) h Q := w_i2l dX9_copy_156
theorem X9_copy_157 : iWp d mX9_copy 157 [a0, a1, a2, a3, a4, a5, a6] (.long v :: .long u :: st) h Q = iWp d mX9_copy 158 [a0, a1, a2, a3, a4, a5, a6] (.int (lg_cmp u v) :: st) h Q := w_lcmp dX9_copy_157
theorem X9_copy_158 : iWp d mX9_copy 158 [a0, a1, a2, a3, a4, a5, a6] (.int x :: st) h Q = if 0 < x then iWp d mX9_copy 179 [a0, a1, a2, a3, a4, a5, a6] st h Q else iWp d mX9_copy 161 [a0, a1, a2, a3, a4, a5, a6] st h Q := w_ifc_gt dX9_copy_158 rfl
theorem X9_copy_161 : iWp d mX9_copy 161 [a0, a1, a2, a3, .int x, a5, a6] st h Q = iWp d mX9_copy 163 [a0, a1, a2, a3, .int x, a5, a6] (.int x :: st) h Q := w_iload dX9_copy_161 rfl
theorem X9_copy_163 : iWp d mX9_copy 163 [a0, a1, a2, a3, a4, a5, a6] (.int x :: st) h Q = iWp d mX9_copy 164 [a0, a1, a2, a3, a4, a5, a6] (.long x.toInt64 :: st) h Q := w_i2l dX9_copy_163
theorem X9_copy_164 : iWp d mX9_copy 164 [a0, a1, a2, a3, a4, .int x, a6] st h Q = iWp d mX9_copy 166 [a0, a1, a2, a3, a4, .int x, a6] (.int x :: st) h Q := w_iload dX9_copy_164 rfl
theorem X9_copy_166 : iWp d mX9_copy 166 [a0, a1, a2, a3, a4, a5, a6] (.int x :: st) h Q = iWp d mX9_copy 167 [a0, a1, a2, a3, a4, a5, a6] (.long x.toInt64 :: st) h Q := w_i2l dX9_copy_166
theorem X9_copy_167 : iWp d mX9_copy 167 [a0, a1, a2, a3, a4, a5, a6] (.long v :: .long u :: st) h Q = iWp d mX9_copy 168 [a0, a1, a2, a3, a4, a5, a6] (.long (u + v) :: st) h Q := w_ladd dX9_copy_167
theorem X9_copy_168 : iWp d mX9_copy 168 [.ref p, a1, a2, a3, a4, a5, a6] st h Q = iWp d mX9_copy 169 [.ref p, a1, a2, a3, a4, a5, a6] (.ref p :: st) h Q := w_aload_n dX9_copy_168 rfl
theorem X9_copy_169 : iWp d mX9_copy 169 [a0, a1, a2, a3, a4, a5, a6] (.ref p :: st) h Q = iOb (iGet h p 9 12) (fun v => iWp d mX9_copy 172 [a0, a1, a2, a3, a4, a5, a6] (v :: st) h Q) := w_getf dX9_copy_169 fF_9_34
theorem X9_copy_172 : iWp d mX9_copy 172 [a0, a1, .int x, a3, a4, a5, a6] st h Q = iWp d mX9_copy 173 [a0, a1, .int x, a3, a4, a5, a6] (.int x :: st) h Q := w_iload_n dX9_copy_172 rfl
theorem X9_copy_173 : iWp d mX9_copy 173 [a0, a1, a2, a3, a4, a5, a6] (.int x :: .ref p :: st) h Q = iOb (iLdI h p x) (fun v => iWp d mX9_copy 174 [a0, a1, a2, a3, a4, a5, a6] (.int v :: st) h Q) := w_iaload dX9_copy_173
theorem X9_copy_174 : iWp d mX9_copy 174 [a0, a1, a2, a3, a4, a5, a6] (.int x :: st) h Q = iWp d mX9_copy 175 [a0, a1, a2, a3, a4, a5, a6] (.long x.toInt64 :: st) h Q := w_i2l dX9_copy_174
theorem X9_copy_175 : iWp d mX9_copy 175 [a0, a1, a2, a3, a4, a5, a6] (.long v :: .long u :: st) h Q = iWp d mX9_copy 176 [a0, a1, a2, a3, a4, a5, a6] (.int (lg_cmp u v) :: st) h Q := w_lcmp dX9_copy_175
theorem X9_copy_176 : iWp d mX9_copy 176 [a0, a1, a2, a3, a4, a5, a6] (.int x :: st) h Q = if x ≤ 0 then iWp d mX9_copy 186 [a0, a1, a2, a3, a4, a5, a6] st h Q else iWp d mX9_copy 179 [a0, a1, a2, a3, a4, a5, a6] st h Q := w_ifc_le dX9_copy_176 rfl
theorem X9_copy_179 : iWp d mX9_copy 179 [.ref p, a1, a2, a3, a4, a5, a6] st h Q = iWp d mX9_copy 180 [.ref p, a1, a2, a3, a4, a5, a6] (.ref p :: st) h Q := w_aload_n dX9_copy_179 rfl
theorem X9_copy_180 : iWp d mX9_copy 180 [a0, a1, a2, a3, a4, a5, a6] st h Q = iWp d mX9_copy 182 [a0, a1, a2, a3, a4, a5, a6] (.int (-5) :: st) h Q := w_bipush dX9_copy_180 rfl
theorem X9_copy_182 (he : iEv mX9_no [.ref p, .int x0] h (some (.int rv)) h2) (ho : iObj h p 9 = true) : iWp 2 mX9_copy 182 [a0, a1, a2, a3, a4, a5, a6] [.int x0, .ref p] h Q = iWp 2 mX9_copy 185 [a0, a1, a2, a3, a4, a5, a6] [.int rv] h2 Q := iWp_cV dX9_copy_182 fK_9_99 rfl rfl ho (Nat.le_of_ble_eq_true rfl) (Nat.le_of_ble_eq_true rfl) rfl (Nat.le_of_ble_eq_true rfl) he rfl
theorem X9_copy_185 : iWp d mX9_copy 185 [a0, a1, a2, a3, a4, a5, a6] [.int x] h Q = Q (some (.int x)) h := w_ireti dX9_copy_185 rfl
theorem X9_copy_186 : iWp d mX9_copy 186 [a0, .int x, a2, a3, a4, a5, a6] st h Q = iWp d mX9_copy 187 [a0, .int x, a2, a3, a4, a5, a6] (.int x :: st) h Q := w_iload_n dX9_copy_186 rfl
theorem X9_copy_187 : iWp d mX9_copy 187 [a0, a1, .int x, a3, a4, a5, a6] st h Q = iWp d mX9_copy 188 [a0, a1, .int x, a3, a4, a5, a6] (.int x :: st) h Q := w_iload_n dX9_copy_187 rfl
theorem X9_copy_188 : iWp d mX9_copy 188 [a0, a1, a2, a3, a4, a5, a6] (.int y :: .int x :: st) h Q = if x = y then iWp d mX9_copy 191 [a0, a1, a2, a3, a4, a5, a6] st h Q else iWp d mX9_copy 248 [a0, a1, a2, a3, a4, a5, a6] st h Q := w_icmp_ne dX9_copy_188 rfl
theorem X9_copy_191 : iWp d mX9_copy 191 [a0, a1, a2, .int x, a4, a5, a6] st h Q = iWp d mX9_copy 192 [a0, a1, a2, .int x, a4, a5, a6] (.int x :: st) h Q := w_iload_n dX9_copy_191 rfl
theorem X9_copy_192 : iWp d mX9_copy 192 [a0, a1, a2, a3, .int x, a5, a6] st h Q = iWp d mX9_copy 194 [a0, a1, a2, a3, .int x, a5, a6] (.int x :: st) h Q := w_iload dX9_copy_192 rfl
theorem X9_copy_194 : iWp d mX9_copy 194 [a0, a1, a2, a3, a4, a5, a6] (.int y :: .int x :: st) h Q = if y ≤ x then iWp d mX9_copy 248 [a0, a1, a2, a3, a4, a5, a6] st h Q else iWp d mX9_copy 197 [a0, a1, a2, a3, a4, a5, a6] st h Q := w_icmp_ge dX9_copy_194 rfl
theorem X9_copy_197 : iWp d mX9_copy 197 [a0, a1, a2, a3, a4, .int x, a6] st h Q = iWp d mX9_copy 199 [a0, a1, a2, a3, a4, .int x, a6] (.int x :: st) h Q := w_iload dX9_copy_197 rfl
theorem X9_copy_199 : iWp d mX9_copy 199 [a0, a1, a2, a3, a4, a5, a6] st h Q = iWp d mX9_copy 200 [a0, a1, a2, a3, a4, a5, a6] (.int 1 :: st) h Q := w_iconst dX9_copy_199 rfl
theorem X9_copy_200 : iWp d mX9_copy 200 [a0, a1, a2, a3, a4, a5, a6] (.int y :: .int x :: st) h Q = iWp d mX9_copy 201 [a0, a1, a2, a3, a4, a5, a6] (.int (x - y) :: st) h Q := w_isub dX9_copy_200
theorem X9_copy_201 : iWp d mX9_copy 201 [a0, a1, a2, a3, a4, a5, a6] (.int x :: st) h Q = iWp d mX9_copy 203 [a0, a1, a2, a3, a4, iClr a5, .int x] st h Q := w_istore dX9_copy_201 (Nat.le_of_ble_eq_true rfl) rfl
theorem X9_copy_203 : iWp d mX9_copy 203 [a0, a1, a2, a3, a4, a5, .int x] st h Q = iWp d mX9_copy 205 [a0, a1, a2, a3, a4, a5, .int x] (.int x :: st) h Q := w_iload dX9_copy_203 rfl
theorem X9_copy_205 : iWp d mX9_copy 205 [a0, a1, a2, a3, a4, a5, a6] (.int x :: st) h Q = if x < 0 then iWp d mX9_copy 245 [a0, a1, a2, a3, a4, a5, a6] st h Q else iWp d mX9_copy 208 [a0, a1, a2, a3, a4, a5, a6] st h Q := w_ifc_lt dX9_copy_205 rfl
theorem X9_copy_208 : iWp d mX9_copy 208 [.ref p, a1, a2, a3, a4, a5, a6] st h Q = iWp d mX9_copy 209 [.ref p, a1, a2, a3, a4, a5, a6] (.ref p :: st) h Q := w_aload_n dX9_copy_208 rfl
theorem X9_copy_209 : iWp d mX9_copy 209 [a0, a1, a2, a3, a4, a5, a6] (.ref p :: st) h Q = iOb (iGet h p 9 13) (fun v => iWp d mX9_copy 212 [a0, a1, a2, a3, a4, a5, a6] (v :: st) h Q) := w_getf dX9_copy_209 fF_9_37
theorem X9_copy_212 : iWp d mX9_copy 212 [a0, a1, a2, a3, a4, a5, a6] st h Q = iWp d mX9_copy 215 [a0, a1, a2, a3, a4, a5, a6] (.int 160 :: st) h Q := w_sipush dX9_copy_212 rfl
theorem X9_copy_215 : iWp d mX9_copy 215 [a0, a1, .int x, a3, a4, a5, a6] st h Q = iWp d mX9_copy 216 [a0, a1, .int x, a3, a4, a5, a6] (.int x :: st) h Q := w_iload_n dX9_copy_215 rfl
theorem X9_copy_216 : iWp d mX9_copy 216 [a0, a1, a2, a3, a4, a5, a6] (.int y :: .int x :: st) h Q = iWp d mX9_copy 217 [a0, a1, a2, a3, a4, a5, a6] (.int (x * y) :: st) h Q := w_imul dX9_copy_216
theorem X9_copy_217 : iWp d mX9_copy 217 [a0, a1, a2, a3, .int x, a5, a6] st h Q = iWp d mX9_copy 219 [a0, a1, a2, a3, .int x, a5, a6] (.int x :: st) h Q := w_iload dX9_copy_217 rfl
theorem X9_copy_219 : iWp d mX9_copy 219 [a0, a1, a2, a3, a4, a5, a6] (.int y :: .int x :: st) h Q = iWp d mX9_copy 220 [a0, a1, a2, a3, a4, a5, a6] (.int (x + y) :: st) h Q := w_iadd dX9_copy_219
theorem X9_copy_220 : iWp d mX9_copy 220 [a0, a1, a2, a3, a4, a5, .int x] st h Q = iWp d mX9_copy 222 [a0, a1, a2, a3, a4, a5, .int x] (.int x :: st) h Q := w_iload dX9_copy_220 rfl
theorem X9_copy_222 : iWp d mX9_copy 222 [a0, a1, a2, a3, a4, a5, a6] (.int y :: .int x :: st) h Q = iWp d mX9_copy 223 [a0, a1, a2, a3, a4, a5, a6] (.int (x + y) :: st) h Q := w_iadd dX9_copy_222
theorem X9_copy_223 : iWp d mX9_copy 223 [.ref p, a1, a2, a3, a4, a5, a6] st h Q = iWp d mX9_copy 224 [.ref p, a1, a2, a3, a4, a5, a6] (.ref p :: st) h Q := w_aload_n dX9_copy_223 rfl
theorem X9_copy_224 : iWp d mX9_copy 224 [a0, a1, a2, a3, a4, a5, a6] (.ref p :: st) h Q = iOb (iGet h p 9 13) (fun v => iWp d mX9_copy 227 [a0, a1, a2, a3, a4, a5, a6] (v :: st) h Q) := w_getf dX9_copy_224 fF_9_37
theorem X9_copy_227 : iWp d mX9_copy 227 [a0, a1, a2, a3, a4, a5, a6] st h Q = iWp d mX9_copy 230 [a0, a1, a2, a3, a4, a5, a6] (.int 160 :: st) h Q := w_sipush dX9_copy_227 rfl
theorem X9_copy_230 : iWp d mX9_copy 230 [a0, .int x, a2, a3, a4, a5, a6] st h Q = iWp d mX9_copy 231 [a0, .int x, a2, a3, a4, a5, a6] (.int x :: st) h Q := w_iload_n dX9_copy_230 rfl
theorem X9_copy_231 : iWp d mX9_copy 231 [a0, a1, a2, a3, a4, a5, a6] (.int y :: .int x :: st) h Q = iWp d mX9_copy 232 [a0, a1, a2, a3, a4, a5, a6] (.int (x * y) :: st) h Q := w_imul dX9_copy_231
theorem X9_copy_232 : iWp d mX9_copy 232 [a0, a1, a2, .int x, a4, a5, a6] st h Q = iWp d mX9_copy 233 [a0, a1, a2, .int x, a4, a5, a6] (.int x :: st) h Q := w_iload_n dX9_copy_232 rfl
theorem X9_copy_233 : iWp d mX9_copy 233 [a0, a1, a2, a3, a4, a5, a6] (.int y :: .int x :: st) h Q = iWp d mX9_copy 234 [a0, a1, a2, a3, a4, a5, a6] (.int (x + y) :: st) h Q := w_iadd dX9_copy_233
theorem X9_copy_234 : iWp d mX9_copy 234 [a0, a1, a2, a3, a4, a5, .int x] st h Q = iWp d mX9_copy 236 [a0, a1, a2, a3, a4, a5, .int x] (.int x :: st) h Q := w_iload dX9_copy_234 rfl
theorem X9_copy_236 : iWp d mX9_copy 236 [a0, a1, a2, a3, a4, a5, a6] (.int y :: .int x :: st) h Q = iWp d mX9_copy 237 [a0, a1, a2, a3, a4, a5, a6] (.int (x + y) :: st) h Q := w_iadd dX9_copy_236
theorem X9_copy_237 : iWp d mX9_copy 237 [a0, a1, a2, a3, a4, a5, a6] (.int x :: .ref p :: st) h Q = iOb (iLdL h p x) (fun v => iWp d mX9_copy 238 [a0, a1, a2, a3, a4, a5, a6] (.long v :: st) h Q) := w_laload dX9_copy_237
theorem X9_copy_238 : iWp d mX9_copy 238 [a0, a1, a2, a3, a4, a5, a6] (.long u :: .int x :: .ref p :: st) h Q = iOb (iStL h p x u) (fun g => iWp d mX9_copy 239 [a0, a1, a2, a3, a4, a5, a6] st g Q) := w_lastore dX9_copy_238
theorem X9_copy_239 : iWp d mX9_copy 239 [a0, a1, a2, a3, a4, a5, .int x] st h Q = iWp d mX9_copy 242 [a0, a1, a2, a3, a4, iClr a5, .int (x + (-1))] st h Q := w_iinc dX9_copy_239 rfl (Nat.le_of_ble_eq_true rfl) rfl
theorem X9_copy_242 : iWp d mX9_copy 242 [a0, a1, a2, a3, a4, a5, a6] st h Q = iWp d mX9_copy 203 [a0, a1, a2, a3, a4, a5, a6] st h Q := w_goto dX9_copy_242 rfl
theorem X9_copy_245 : iWp d mX9_copy 245 [a0, a1, a2, a3, a4, a5, a6] st h Q = iWp d mX9_copy 295 [a0, a1, a2, a3, a4, a5, a6] st h Q := w_goto dX9_copy_245 rfl
theorem X9_copy_248 : iWp d mX9_copy 248 [a0, a1, a2, a3, a4, a5, a6] st h Q = iWp d mX9_copy 249 [a0, a1, a2, a3, a4, a5, a6] (.int 0 :: st) h Q := w_iconst dX9_copy_248 rfl
theorem X9_copy_249 : iWp d mX9_copy 249 [a0, a1, a2, a3, a4, a5, a6] (.int x :: st) h Q = iWp d mX9_copy 251 [a0, a1, a2, a3, a4, iClr a5, .int x] st h Q := w_istore dX9_copy_249 (Nat.le_of_ble_eq_true rfl) rfl
theorem X9_copy_251 : iWp d mX9_copy 251 [a0, a1, a2, a3, a4, a5, .int x] st h Q = iWp d mX9_copy 253 [a0, a1, a2, a3, a4, a5, .int x] (.int x :: st) h Q := w_iload dX9_copy_251 rfl
theorem X9_copy_253 : iWp d mX9_copy 253 [a0, a1, a2, a3, a4, .int x, a6] st h Q = iWp d mX9_copy 255 [a0, a1, a2, a3, a4, .int x, a6] (.int x :: st) h Q := w_iload dX9_copy_253 rfl
theorem X9_copy_255 : iWp d mX9_copy 255 [a0, a1, a2, a3, a4, a5, a6] (.int y :: .int x :: st) h Q = if y ≤ x then iWp d mX9_copy 295 [a0, a1, a2, a3, a4, a5, a6] st h Q else iWp d mX9_copy 258 [a0, a1, a2, a3, a4, a5, a6] st h Q := w_icmp_ge dX9_copy_255 rfl
theorem X9_copy_258 : iWp d mX9_copy 258 [.ref p, a1, a2, a3, a4, a5, a6] st h Q = iWp d mX9_copy 259 [.ref p, a1, a2, a3, a4, a5, a6] (.ref p :: st) h Q := w_aload_n dX9_copy_258 rfl
theorem X9_copy_259 : iWp d mX9_copy 259 [a0, a1, a2, a3, a4, a5, a6] (.ref p :: st) h Q = iOb (iGet h p 9 13) (fun v => iWp d mX9_copy 262 [a0, a1, a2, a3, a4, a5, a6] (v :: st) h Q) := w_getf dX9_copy_259 fF_9_37
theorem X9_copy_262 : iWp d mX9_copy 262 [a0, a1, a2, a3, a4, a5, a6] st h Q = iWp d mX9_copy 265 [a0, a1, a2, a3, a4, a5, a6] (.int 160 :: st) h Q := w_sipush dX9_copy_262 rfl
theorem X9_copy_265 : iWp d mX9_copy 265 [a0, a1, .int x, a3, a4, a5, a6] st h Q = iWp d mX9_copy 266 [a0, a1, .int x, a3, a4, a5, a6] (.int x :: st) h Q := w_iload_n dX9_copy_265 rfl
theorem X9_copy_266 : iWp d mX9_copy 266 [a0, a1, a2, a3, a4, a5, a6] (.int y :: .int x :: st) h Q = iWp d mX9_copy 267 [a0, a1, a2, a3, a4, a5, a6] (.int (x * y) :: st) h Q := w_imul dX9_copy_266
theorem X9_copy_267 : iWp d mX9_copy 267 [a0, a1, a2, a3, .int x, a5, a6] st h Q = iWp d mX9_copy 269 [a0, a1, a2, a3, .int x, a5, a6] (.int x :: st) h Q := w_iload dX9_copy_267 rfl
theorem X9_copy_269 : iWp d mX9_copy 269 [a0, a1, a2, a3, a4, a5, a6] (.int y :: .int x :: st) h Q = iWp d mX9_copy 270 [a0, a1, a2, a3, a4, a5, a6] (.int (x + y) :: st) h Q := w_iadd dX9_copy_269
theorem X9_copy_270 : iWp d mX9_copy 270 [a0, a1, a2, a3, a4, a5, .int x] st h Q = iWp d mX9_copy 272 [a0, a1, a2, a3, a4, a5, .int x] (.int x :: st) h Q := w_iload dX9_copy_270 rfl
theorem X9_copy_272 : iWp d mX9_copy 272 [a0, a1, a2, a3, a4, a5, a6] (.int y :: .int x :: st) h Q = iWp d mX9_copy 273 [a0, a1, a2, a3, a4, a5, a6] (.int (x + y) :: st) h Q := w_iadd dX9_copy_272
theorem X9_copy_273 : iWp d mX9_copy 273 [.ref p, a1, a2, a3, a4, a5, a6] st h Q = iWp d mX9_copy 274 [.ref p, a1, a2, a3, a4, a5, a6] (.ref p :: st) h Q := w_aload_n dX9_copy_273 rfl
theorem X9_copy_274 : iWp d mX9_copy 274 [a0, a1, a2, a3, a4, a5, a6] (.ref p :: st) h Q = iOb (iGet h p 9 13) (fun v => iWp d mX9_copy 277 [a0, a1, a2, a3, a4, a5, a6] (v :: st) h Q) := w_getf dX9_copy_274 fF_9_37
theorem X9_copy_277 : iWp d mX9_copy 277 [a0, a1, a2, a3, a4, a5, a6] st h Q = iWp d mX9_copy 280 [a0, a1, a2, a3, a4, a5, a6] (.int 160 :: st) h Q := w_sipush dX9_copy_277 rfl
theorem X9_copy_280 : iWp d mX9_copy 280 [a0, .int x, a2, a3, a4, a5, a6] st h Q = iWp d mX9_copy 281 [a0, .int x, a2, a3, a4, a5, a6] (.int x :: st) h Q := w_iload_n dX9_copy_280 rfl
theorem X9_copy_281 : iWp d mX9_copy 281 [a0, a1, a2, a3, a4, a5, a6] (.int y :: .int x :: st) h Q = iWp d mX9_copy 282 [a0, a1, a2, a3, a4, a5, a6] (.int (x * y) :: st) h Q := w_imul dX9_copy_281
theorem X9_copy_282 : iWp d mX9_copy 282 [a0, a1, a2, .int x, a4, a5, a6] st h Q = iWp d mX9_copy 283 [a0, a1, a2, .int x, a4, a5, a6] (.int x :: st) h Q := w_iload_n dX9_copy_282 rfl
theorem X9_copy_283 : iWp d mX9_copy 283 [a0, a1, a2, a3, a4, a5, a6] (.int y :: .int x :: st) h Q = iWp d mX9_copy 284 [a0, a1, a2, a3, a4, a5, a6] (.int (x + y) :: st) h Q := w_iadd dX9_copy_283
theorem X9_copy_284 : iWp d mX9_copy 284 [a0, a1, a2, a3, a4, a5, .int x] st h Q = iWp d mX9_copy 286 [a0, a1, a2, a3, a4, a5, .int x] (.int x :: st) h Q := w_iload dX9_copy_284 rfl
theorem X9_copy_286 : iWp d mX9_copy 286 [a0, a1, a2, a3, a4, a5, a6] (.int y :: .int x :: st) h Q = iWp d mX9_copy 287 [a0, a1, a2, a3, a4, a5, a6] (.int (x + y) :: st) h Q := w_iadd dX9_copy_286
theorem X9_copy_287 : iWp d mX9_copy 287 [a0, a1, a2, a3, a4, a5, a6] (.int x :: .ref p :: st) h Q = iOb (iLdL h p x) (fun v => iWp d mX9_copy 288 [a0, a1, a2, a3, a4, a5, a6] (.long v :: st) h Q) := w_laload dX9_copy_287
theorem X9_copy_288 : iWp d mX9_copy 288 [a0, a1, a2, a3, a4, a5, a6] (.long u :: .int x :: .ref p :: st) h Q = iOb (iStL h p x u) (fun g => iWp d mX9_copy 289 [a0, a1, a2, a3, a4, a5, a6] st g Q) := w_lastore dX9_copy_288
theorem X9_copy_289 : iWp d mX9_copy 289 [a0, a1, a2, a3, a4, a5, .int x] st h Q = iWp d mX9_copy 292 [a0, a1, a2, a3, a4, iClr a5, .int (x + 1)] st h Q := w_iinc dX9_copy_289 rfl (Nat.le_of_ble_eq_true rfl) rfl
theorem X9_copy_292 : iWp d mX9_copy 292 [a0, a1, a2, a3, a4, a5, a6] st h Q = iWp d mX9_copy 251 [a0, a1, a2, a3, a4, a5, a6] st h Q := w_goto dX9_copy_292 rfl
theorem X9_copy_295 : iWp d mX9_copy 295 [a0, a1, a2, a3, a4, a5, a6] st h Q = iWp d mX9_copy 296 [a0, a1, a2, a3, a4, a5, a6] (.int 1 :: st) h Q := w_iconst dX9_copy_295 rfl
theorem X9_copy_296 : iWp d mX9_copy 296 [a0, a1, a2, a3, a4, a5, a6] [.int x] h Q = Q (some (.int x)) h := w_ireti dX9_copy_296 rfl
theorem I9_copy {Q : Option Value → iHp → Prop} (hw : iWp 2 mX9_copy 0 [.ref p, .int x0, .int x1, .int x2, .int x3, .int x4, iU] [] h Q) : ∃ r h1, iEv mX9_copy [.ref p, .int x0, .int x1, .int x2, .int x3, .int x4] h r h1 ∧ Q r h1 := iEv_of (by rfl) rfl hw
theorem J9_copy {r : Option Value} {h1 : iHp} (hw : iWp 2 mX9_copy 0 [.ref p, .int x0, .int x1, .int x2, .int x3, .int x4, iU] [] h (fun r' h' => r' = r ∧ h' = h1)) : iEv mX9_copy [.ref p, .int x0, .int x1, .int x2, .int x3, .int x4] h r h1 := iEv_ev (by rfl) rfl hw
theorem X9_cuts_0 : iWp d mX9_cuts 0 [a0, a1, a2, a3] st h Q = iWp d mX9_cuts 1 [a0, a1, a2, a3] (.int 0 :: st) h Q := w_iconst dX9_cuts_0 rfl
theorem X9_cuts_1 : iWp d mX9_cuts 1 [a0, a1, a2, a3] (.int x :: st) h Q = iWp d mX9_cuts 2 [a0, a1, iClr a2, .int x] st h Q := w_istore_n dX9_cuts_1 (Nat.le_of_ble_eq_true rfl) rfl
theorem X9_cuts_2 : iWp d mX9_cuts 2 [a0, a1, a2, .int x] st h Q = iWp d mX9_cuts 3 [a0, a1, a2, .int x] (.int x :: st) h Q := w_iload_n dX9_cuts_2 rfl
theorem X9_cuts_3 : iWp d mX9_cuts 3 [a0, a1, .int x, a3] st h Q = iWp d mX9_cuts 4 [a0, a1, .int x, a3] (.int x :: st) h Q := w_iload_n dX9_cuts_3 rfl
theorem X9_cuts_4 : iWp d mX9_cuts 4 [a0, a1, a2, a3] (.int y :: .int x :: st) h Q = if y ≤ x then iWp d mX9_cuts 62 [a0, a1, a2, a3] st h Q else iWp d mX9_cuts 7 [a0, a1, a2, a3] st h Q := w_icmp_ge dX9_cuts_4 rfl
theorem X9_cuts_7 : iWp d mX9_cuts 7 [.ref p, a1, a2, a3] st h Q = iWp d mX9_cuts 8 [.ref p, a1, a2, a3] (.ref p :: st) h Q := w_aload_n dX9_cuts_7 rfl
theorem X9_cuts_8 : iWp d mX9_cuts 8 [a0, a1, a2, a3] (.ref p :: st) h Q = iOb (iGet h p 9 22) (fun v => iWp d mX9_cuts 11 [a0, a1, a2, a3] (v :: st) h Q) := w_getf dX9_cuts_8 fF_9_53
theorem X9_cuts_11 : iWp d mX9_cuts 11 [a0, a1, a2, .int x] st h Q = iWp d mX9_cuts 12 [a0, a1, a2, .int x] (.int x :: st) h Q := w_iload_n dX9_cuts_11 rfl
theorem X9_cuts_12 : iWp d mX9_cuts 12 [.ref p, a1, a2, a3] st h Q = iWp d mX9_cuts 13 [.ref p, a1, a2, a3] (.ref p :: st) h Q := w_aload_n dX9_cuts_12 rfl
theorem X9_cuts_13 : iWp d mX9_cuts 13 [a0, a1, a2, a3] (.ref p :: st) h Q = iOb (iGet h p 9 19) (fun v => iWp d mX9_cuts 16 [a0, a1, a2, a3] (v :: st) h Q) := w_getf dX9_cuts_13 fF_9_44
theorem X9_cuts_16 : iWp d mX9_cuts 16 [a0, .int x, a2, a3] st h Q = iWp d mX9_cuts 17 [a0, .int x, a2, a3] (.int x :: st) h Q := w_iload_n dX9_cuts_16 rfl
theorem X9_cuts_17 : iWp d mX9_cuts 17 [a0, a1, a2, .int x] st h Q = iWp d mX9_cuts 18 [a0, a1, a2, .int x] (.int x :: st) h Q := w_iload_n dX9_cuts_17 rfl
theorem X9_cuts_18 : iWp d mX9_cuts 18 [a0, a1, a2, a3] (.int y :: .int x :: st) h Q = iWp d mX9_cuts 19 [a0, a1, a2, a3] (.int (x + y) :: st) h Q := w_iadd dX9_cuts_18
theorem X9_cuts_19 : iWp d mX9_cuts 19 [a0, a1, a2, a3] (.int x :: .ref p :: st) h Q = iOb (iLdI h p x) (fun v => iWp d mX9_cuts 20 [a0, a1, a2, a3] (.int v :: st) h Q) := w_iaload dX9_cuts_19
theorem X9_cuts_20 : iWp d mX9_cuts 20 [a0, a1, a2, a3] (.int y :: .int x :: .ref p :: st) h Q = iOb (iStI h p x y) (fun g => iWp d mX9_cuts 21 [a0, a1, a2, a3] st g Q) := w_iastore dX9_cuts_20
theorem X9_cuts_21 : iWp d mX9_cuts 21 [.ref p, a1, a2, a3] st h Q = iWp d mX9_cuts 22 [.ref p, a1, a2, a3] (.ref p :: st) h Q := w_aload_n dX9_cuts_21 rfl
theorem X9_cuts_22 : iWp d mX9_cuts 22 [a0, a1, a2, a3] (.ref p :: st) h Q = iOb (iGet h p 9 23) (fun v => iWp d mX9_cuts 25 [a0, a1, a2, a3] (v :: st) h Q) := w_getf dX9_cuts_22 fF_9_56
theorem X9_cuts_25 : iWp d mX9_cuts 25 [a0, a1, a2, .int x] st h Q = iWp d mX9_cuts 26 [a0, a1, a2, .int x] (.int x :: st) h Q := w_iload_n dX9_cuts_25 rfl
theorem X9_cuts_26 : iWp d mX9_cuts 26 [.ref p, a1, a2, a3] st h Q = iWp d mX9_cuts 27 [.ref p, a1, a2, a3] (.ref p :: st) h Q := w_aload_n dX9_cuts_26 rfl
theorem X9_cuts_27 : iWp d mX9_cuts 27 [a0, a1, a2, a3] (.ref p :: st) h Q = iOb (iGet h p 9 20) (fun v => iWp d mX9_cuts 30 [a0, a1, a2, a3] (v :: st) h Q) := w_getf dX9_cuts_27 fF_9_47
theorem X9_cuts_30 : iWp d mX9_cuts 30 [a0, .int x, a2, a3] st h Q = iWp d mX9_cuts 31 [a0, .int x, a2, a3] (.int x :: st) h Q := w_iload_n dX9_cuts_30 rfl
theorem X9_cuts_31 : iWp d mX9_cuts 31 [a0, a1, a2, .int x] st h Q = iWp d mX9_cuts 32 [a0, a1, a2, .int x] (.int x :: st) h Q := w_iload_n dX9_cuts_31 rfl
theorem X9_cuts_32 : iWp d mX9_cuts 32 [a0, a1, a2, a3] (.int y :: .int x :: st) h Q = iWp d mX9_cuts 33 [a0, a1, a2, a3] (.int (x + y) :: st) h Q := w_iadd dX9_cuts_32
theorem X9_cuts_33 : iWp d mX9_cuts 33 [a0, a1, a2, a3] (.int x :: .ref p :: st) h Q = iOb (iLdI h p x) (fun v => iWp d mX9_cuts 34 [a0, a1, a2, a3] (.int v :: st) h Q) := w_iaload dX9_cuts_33
theorem X9_cuts_34 : iWp d mX9_cuts 34 [a0, a1, a2, a3] (.int y :: .int x :: .ref p :: st) h Q = iOb (iStI h p x y) (fun g => iWp d mX9_cuts 35 [a0, a1, a2, a3] st g Q) := w_iastore dX9_cuts_34
theorem X9_cuts_35 : iWp d mX9_cuts 35 [.ref p, a1, a2, a3] st h Q = iWp d mX9_cuts 36 [.ref p, a1, a2, a3] (.ref p :: st) h Q := w_aload_n dX9_cuts_35 rfl
theorem X9_cuts_36 : iWp d mX9_cuts 36 [a0, a1, a2, a3] (.ref p :: st) h Q = iOb (iGet h p 9 24) (fun v => iWp d mX9_cuts 39 [a0, a1, a2, a3] (v :: st) h Q) := w_getf dX9_cuts_36 fF_9_59
theorem X9_cuts_39 : iWp d mX9_cuts 39 [a0, a1, a2, .int x] st h Q = iWp d mX9_cuts 40 [a0, a1, a2, .int x] (.int x :: st) h Q := w_iload_n dX9_cuts_39 rfl
theorem X9_cuts_40 : iWp d mX9_cuts 40 [.ref p, a1, a2, a3] st h Q = iWp d mX9_cuts 41 [.ref p, a1, a2, a3] (.ref p :: st) h Q := w_aload_n dX9_cuts_40 rfl
theorem X9_cuts_41 : iWp d mX9_cuts 41 [a0, a1, a2, a3] (.ref p :: st) h Q = iOb (iGet h p 9 21) (fun v => iWp d mX9_cuts 44 [a0, a1, a2, a3] (v :: st) h Q) := w_getf dX9_cuts_41 fF_9_50
theorem X9_cuts_44 : iWp d mX9_cuts 44 [a0, .int x, a2, a3] st h Q = iWp d mX9_cuts 45 [a0, .int x, a2, a3] (.int x :: st) h Q := w_iload_n dX9_cuts_44 rfl
theorem X9_cuts_45 : iWp d mX9_cuts 45 [a0, a1, a2, .int x] st h Q = iWp d mX9_cuts 46 [a0, a1, a2, .int x] (.int x :: st) h Q := w_iload_n dX9_cuts_45 rfl
theorem X9_cuts_46 : iWp d mX9_cuts 46 [a0, a1, a2, a3] (.int y :: .int x :: st) h Q = iWp d mX9_cuts 47 [a0, a1, a2, a3] (.int (x + y) :: st) h Q := w_iadd dX9_cuts_46
theorem X9_cuts_47 : iWp d mX9_cuts 47 [a0, a1, a2, a3] (.int x :: .ref p :: st) h Q = iOb (iLdI h p x) (fun v => iWp d mX9_cuts 48 [a0, a1, a2, a3] (.int v :: st) h Q) := w_iaload dX9_cuts_47
theorem X9_cuts_48 : iWp d mX9_cuts 48 [.ref p, a1, a2, a3] st h Q = iWp d mX9_cuts 49 [.ref p, a1, a2, a3] (.ref p :: st) h Q := w_aload_n dX9_cuts_48 rfl
theorem X9_cuts_49 : iWp d mX9_cuts 49 [a0, a1, a2, a3] (.ref p :: st) h Q = iOb (iGet h p 9 21) (fun v => iWp d mX9_cuts 52 [a0, a1, a2, a3] (v :: st) h Q) := w_getf dX9_cuts_49 fF_9_50
theorem X9_cuts_52 : iWp d mX9_cuts 52 [a0, .int x, a2, a3] st h Q = iWp d mX9_cuts 53 [a0, .int x, a2, a3] (.int x :: st) h Q := w_iload_n dX9_cuts_52 rfl
theorem X9_cuts_53 : iWp d mX9_cuts 53 [a0, a1, a2, a3] (.int x :: .ref p :: st) h Q = iOb (iLdI h p x) (fun v => iWp d mX9_cuts 54 [a0, a1, a2, a3] (.int v :: st) h Q) := w_iaload dX9_cuts_53
theorem X9_cuts_54 : iWp d mX9_cuts 54 [a0, a1, a2, a3] (.int y :: .int x :: st) h Q = iWp d mX9_cuts 55 [a0, a1, a2, a3] (.int (x - y) :: st) h Q := w_isub dX9_cuts_54
theorem X9_cuts_55 : iWp d mX9_cuts 55 [a0, a1, a2, a3] (.int y :: .int x :: .ref p :: st) h Q = iOb (iStI h p x y) (fun g => iWp d mX9_cuts 56 [a0, a1, a2, a3] st g Q) := w_iastore dX9_cuts_55
theorem X9_cuts_56 : iWp d mX9_cuts 56 [a0, a1, a2, .int x] st h Q = iWp d mX9_cuts 59 [a0, a1, iClr a2, .int (x + 1)] st h Q := w_iinc dX9_cuts_56 rfl (Nat.le_of_ble_eq_true rfl) rfl
theorem X9_cuts_59 : iWp d mX9_cuts 59 [a0, a1, a2, a3] st h Q = iWp d mX9_cuts 2 [a0, a1, a2, a3] st h Q := w_goto dX9_cuts_59 rfl
theorem X9_cuts_62 : iWp d mX9_cuts 62 [.ref p, a1, a2, a3] st h Q = iWp d mX9_cuts 63 [.ref p, a1, a2, a3] (.ref p :: st) h Q := w_aload_n dX9_cuts_62 rfl
theorem X9_cuts_63 : iWp d mX9_cuts 63 [a0, a1, a2, a3] (.ref p :: st) h Q = iWp d mX9_cuts 64 [a0, a1, a2, a3] (.ref p :: .ref p :: st) h Q := w_dup dX9_cuts_63 rfl
theorem X9_cuts_64 : iWp d mX9_cuts 64 [a0, a1, a2, a3] (.ref p :: st) h Q = iOb (iGet h p 9 18) (fun v => iWp d mX9_cuts 67 [a0, a1, a2, a3] (v :: st) h Q) := w_getf dX9_cuts_64 fF_9_127
theorem X9_cuts_67 : iWp d mX9_cuts 67 [a0, a1, .int x, a3] st h Q = iWp d mX9_cuts 68 [a0, a1, .int x, a3] (.int x :: st) h Q := w_iload_n dX9_cuts_67 rfl
theorem X9_cuts_68 : iWp d mX9_cuts 68 [a0, a1, a2, a3] (.int y :: .int x :: st) h Q = iWp d mX9_cuts 69 [a0, a1, a2, a3] (.int (x - y) :: st) h Q := w_isub dX9_cuts_68
theorem X9_cuts_69 : iWp d mX9_cuts 69 [a0, a1, a2, a3] (.int x :: .ref p :: st) h Q = iOb (iPut h p 9 18 (.int x)) (fun g => iWp d mX9_cuts 72 [a0, a1, a2, a3] st g Q) := w_putf dX9_cuts_69 fF_9_127 ⟨rfl, (Or.inl rfl)⟩
theorem X9_cuts_72 : iWp d mX9_cuts 72 [a0, .int x, a2, a3] st h Q = iWp d mX9_cuts 73 [a0, .int x, a2, a3] (.int x :: st) h Q := w_iload_n dX9_cuts_72 rfl
theorem X9_cuts_73 : iWp d mX9_cuts 73 [a0, a1, a2, a3] (.int x :: st) h Q = iWp d mX9_cuts 74 [a0, a1, iClr a2, .int x] st h Q := w_istore_n dX9_cuts_73 (Nat.le_of_ble_eq_true rfl) rfl
theorem X9_cuts_74 : iWp d mX9_cuts 74 [a0, a1, a2, .int x] st h Q = iWp d mX9_cuts 75 [a0, a1, a2, .int x] (.int x :: st) h Q := w_iload_n dX9_cuts_74 rfl
theorem X9_cuts_75 : iWp d mX9_cuts 75 [.ref p, a1, a2, a3] st h Q = iWp d mX9_cuts 76 [.ref p, a1, a2, a3] (.ref p :: st) h Q := w_aload_n dX9_cuts_75 rfl
theorem X9_cuts_76 : iWp d mX9_cuts 76 [a0, a1, a2, a3] (.ref p :: st) h Q = iOb (iGet h p 9 18) (fun v => iWp d mX9_cuts 79 [a0, a1, a2, a3] (v :: st) h Q) := w_getf dX9_cuts_76 fF_9_127
theorem X9_cuts_79 : iWp d mX9_cuts 79 [a0, a1, a2, a3] (.int y :: .int x :: st) h Q = if y ≤ x then iWp d mX9_cuts 130 [a0, a1, a2, a3] st h Q else iWp d mX9_cuts 82 [a0, a1, a2, a3] st h Q := w_icmp_ge dX9_cuts_79 rfl
theorem X9_cuts_82 : iWp d mX9_cuts 82 [.ref p, a1, a2, a3] st h Q = iWp d mX9_cuts 83 [.ref p, a1, a2, a3] (.ref p :: st) h Q := w_aload_n dX9_cuts_82 rfl
theorem X9_cuts_83 : iWp d mX9_cuts 83 [a0, a1, a2, a3] (.ref p :: st) h Q = iOb (iGet h p 9 19) (fun v => iWp d mX9_cuts 86 [a0, a1, a2, a3] (v :: st) h Q) := w_getf dX9_cuts_83 fF_9_44
theorem X9_cuts_86 : iWp d mX9_cuts 86 [a0, a1, a2, .int x] st h Q = iWp d mX9_cuts 87 [a0, a1, a2, .int x] (.int x :: st) h Q := w_iload_n dX9_cuts_86 rfl
theorem X9_cuts_87 : iWp d mX9_cuts 87 [.ref p, a1, a2, a3] st h Q = iWp d mX9_cuts 88 [.ref p, a1, a2, a3] (.ref p :: st) h Q := w_aload_n dX9_cuts_87 rfl
theorem X9_cuts_88 : iWp d mX9_cuts 88 [a0, a1, a2, a3] (.ref p :: st) h Q = iOb (iGet h p 9 19) (fun v => iWp d mX9_cuts 91 [a0, a1, a2, a3] (v :: st) h Q) := w_getf dX9_cuts_88 fF_9_44
theorem X9_cuts_91 : iWp d mX9_cuts 91 [a0, a1, a2, .int x] st h Q = iWp d mX9_cuts 92 [a0, a1, a2, .int x] (.int x :: st) h Q := w_iload_n dX9_cuts_91 rfl
theorem X9_cuts_92 : iWp d mX9_cuts 92 [a0, a1, .int x, a3] st h Q = iWp d mX9_cuts 93 [a0, a1, .int x, a3] (.int x :: st) h Q := w_iload_n dX9_cuts_92 rfl
theorem X9_cuts_93 : iWp d mX9_cuts 93 [a0, a1, a2, a3] (.int y :: .int x :: st) h Q = iWp d mX9_cuts 94 [a0, a1, a2, a3] (.int (x + y) :: st) h Q := w_iadd dX9_cuts_93
theorem X9_cuts_94 : iWp d mX9_cuts 94 [a0, a1, a2, a3] (.int x :: .ref p :: st) h Q = iOb (iLdI h p x) (fun v => iWp d mX9_cuts 95 [a0, a1, a2, a3] (.int v :: st) h Q) := w_iaload dX9_cuts_94
theorem X9_cuts_95 : iWp d mX9_cuts 95 [a0, a1, a2, a3] (.int y :: .int x :: .ref p :: st) h Q = iOb (iStI h p x y) (fun g => iWp d mX9_cuts 96 [a0, a1, a2, a3] st g Q) := w_iastore dX9_cuts_95
theorem X9_cuts_96 : iWp d mX9_cuts 96 [.ref p, a1, a2, a3] st h Q = iWp d mX9_cuts 97 [.ref p, a1, a2, a3] (.ref p :: st) h Q := w_aload_n dX9_cuts_96 rfl
theorem X9_cuts_97 : iWp d mX9_cuts 97 [a0, a1, a2, a3] (.ref p :: st) h Q = iOb (iGet h p 9 20) (fun v => iWp d mX9_cuts 100 [a0, a1, a2, a3] (v :: st) h Q) := w_getf dX9_cuts_97 fF_9_47
theorem X9_cuts_100 : iWp d mX9_cuts 100 [a0, a1, a2, .int x] st h Q = iWp d mX9_cuts 101 [a0, a1, a2, .int x] (.int x :: st) h Q := w_iload_n dX9_cuts_100 rfl
theorem X9_cuts_101 : iWp d mX9_cuts 101 [.ref p, a1, a2, a3] st h Q = iWp d mX9_cuts 102 [.ref p, a1, a2, a3] (.ref p :: st) h Q := w_aload_n dX9_cuts_101 rfl
theorem X9_cuts_102 : iWp d mX9_cuts 102 [a0, a1, a2, a3] (.ref p :: st) h Q = iOb (iGet h p 9 20) (fun v => iWp d mX9_cuts 105 [a0, a1, a2, a3] (v :: st) h Q) := w_getf dX9_cuts_102 fF_9_47
theorem X9_cuts_105 : iWp d mX9_cuts 105 [a0, a1, a2, .int x] st h Q = iWp d mX9_cuts 106 [a0, a1, a2, .int x] (.int x :: st) h Q := w_iload_n dX9_cuts_105 rfl
theorem X9_cuts_106 : iWp d mX9_cuts 106 [a0, a1, .int x, a3] st h Q = iWp d mX9_cuts 107 [a0, a1, .int x, a3] (.int x :: st) h Q := w_iload_n dX9_cuts_106 rfl
theorem X9_cuts_107 : iWp d mX9_cuts 107 [a0, a1, a2, a3] (.int y :: .int x :: st) h Q = iWp d mX9_cuts 108 [a0, a1, a2, a3] (.int (x + y) :: st) h Q := w_iadd dX9_cuts_107
theorem X9_cuts_108 : iWp d mX9_cuts 108 [a0, a1, a2, a3] (.int x :: .ref p :: st) h Q = iOb (iLdI h p x) (fun v => iWp d mX9_cuts 109 [a0, a1, a2, a3] (.int v :: st) h Q) := w_iaload dX9_cuts_108
theorem X9_cuts_109 : iWp d mX9_cuts 109 [a0, a1, a2, a3] (.int y :: .int x :: .ref p :: st) h Q = iOb (iStI h p x y) (fun g => iWp d mX9_cuts 110 [a0, a1, a2, a3] st g Q) := w_iastore dX9_cuts_109
theorem X9_cuts_110 : iWp d mX9_cuts 110 [.ref p, a1, a2, a3] st h Q = iWp d mX9_cuts 111 [.ref p, a1, a2, a3] (.ref p :: st) h Q := w_aload_n dX9_cuts_110 rfl
theorem X9_cuts_111 : iWp d mX9_cuts 111 [a0, a1, a2, a3] (.ref p :: st) h Q = iOb (iGet h p 9 21) (fun v => iWp d mX9_cuts 114 [a0, a1, a2, a3] (v :: st) h Q) := w_getf dX9_cuts_111 fF_9_50
theorem X9_cuts_114 : iWp d mX9_cuts 114 [a0, a1, a2, .int x] st h Q = iWp d mX9_cuts 115 [a0, a1, a2, .int x] (.int x :: st) h Q := w_iload_n dX9_cuts_114 rfl
theorem X9_cuts_115 : iWp d mX9_cuts 115 [.ref p, a1, a2, a3] st h Q = iWp d mX9_cuts 116 [.ref p, a1, a2, a3] (.ref p :: st) h Q := w_aload_n dX9_cuts_115 rfl
theorem X9_cuts_116 : iWp d mX9_cuts 116 [a0, a1, a2, a3] (.ref p :: st) h Q = iOb (iGet h p 9 21) (fun v => iWp d mX9_cuts 119 [a0, a1, a2, a3] (v :: st) h Q) := w_getf dX9_cuts_116 fF_9_50
theorem X9_cuts_119 : iWp d mX9_cuts 119 [a0, a1, a2, .int x] st h Q = iWp d mX9_cuts 120 [a0, a1, a2, .int x] (.int x :: st) h Q := w_iload_n dX9_cuts_119 rfl
theorem X9_cuts_120 : iWp d mX9_cuts 120 [a0, a1, .int x, a3] st h Q = iWp d mX9_cuts 121 [a0, a1, .int x, a3] (.int x :: st) h Q := w_iload_n dX9_cuts_120 rfl
theorem X9_cuts_121 : iWp d mX9_cuts 121 [a0, a1, a2, a3] (.int y :: .int x :: st) h Q = iWp d mX9_cuts 122 [a0, a1, a2, a3] (.int (x + y) :: st) h Q := w_iadd dX9_cuts_121
theorem X9_cuts_122 : iWp d mX9_cuts 122 [a0, a1, a2, a3] (.int x :: .ref p :: st) h Q = iOb (iLdI h p x) (fun v => iWp d mX9_cuts 123 [a0, a1, a2, a3] (.int v :: st) h Q) := w_iaload dX9_cuts_122
theorem X9_cuts_123 : iWp d mX9_cuts 123 [a0, a1, a2, a3] (.int y :: .int x :: .ref p :: st) h Q = iOb (iStI h p x y) (fun g => iWp d mX9_cuts 124 [a0, a1, a2, a3] st g Q) := w_iastore dX9_cuts_123
theorem X9_cuts_124 : iWp d mX9_cuts 124 [a0, a1, a2, .int x] st h Q = iWp d mX9_cuts 127 [a0, a1, iClr a2, .int (x + 1)] st h Q := w_iinc dX9_cuts_124 rfl (Nat.le_of_ble_eq_true rfl) rfl
theorem X9_cuts_127 : iWp d mX9_cuts 127 [a0, a1, a2, a3] st h Q = iWp d mX9_cuts 74 [a0, a1, a2, a3] st h Q := w_goto dX9_cuts_127 rfl
theorem X9_cuts_130 : iWp d mX9_cuts 130 [a0, a1, a2, a3] [] h Q = Q none h := w_ret dX9_cuts_130 rfl
theorem I9_cuts {Q : Option Value → iHp → Prop} (hw : iWp 1 mX9_cuts 0 [.ref p, .int x0, .int x1, iU] [] h Q) : ∃ r h1, iEv mX9_cuts [.ref p, .int x0, .int x1] h r h1 ∧ Q r h1 := iEv_of (by rfl) rfl hw
theorem J9_cuts {r : Option Value} {h1 : iHp} (hw : iWp 1 mX9_cuts 0 [.ref p, .int x0, .int x1, iU] [] h (fun r' h' => r' = r ∧ h' = h1)) : iEv mX9_cuts [.ref p, .int x0, .int x1] h r h1 := iEv_ev (by rfl) rfl hw
theorem X9_day_0 : iWp d mX9_day 0 [.ref p, a1, a2] st h Q = iWp d mX9_day 1 [.ref p, a1, a2] (.ref p :: st) h Q := w_aload_n dX9_day_0 rfl
theorem X9_day_1 : iWp d mX9_day 1 [a0, a1, a2] st h Q = iWp d mX9_day 3 [a0, a1, a2] (.int 60 :: st) h Q := w_bipush dX9_day_1 rfl
theorem X9_day_3 (he : iEv mX9_draw [.ref p, .int x0] h (some (.int rv)) h2) (ho : iObj h p 9 = true) : iWp 4 mX9_day 3 [a0, a1, a2] [.int x0, .ref p] h Q = iWp 4 mX9_day 6 [a0, a1, a2] [.int rv] h2 Q := iWp_cV dX9_day_3 fK_9_289 rfl rfl ho (Nat.le_of_ble_eq_true rfl) (Nat.le_of_ble_eq_true rfl) rfl (Nat.le_of_ble_eq_true rfl) he rfl
theorem X9_day_6 : iWp d mX9_day 6 [a0, a1, a2] st h Q = iWp d mX9_day 7 [a0, a1, a2] (.int 1 :: st) h Q := w_iconst dX9_day_6 rfl
theorem X9_day_7 : iWp d mX9_day 7 [a0, a1, a2] (.int y :: .int x :: st) h Q = iWp d mX9_day 8 [a0, a1, a2] (.int (x + y) :: st) h Q := w_iadd dX9_day_7
theorem X9_day_8 : iWp d mX9_day 8 [a0, a1, a2] (.int x :: st) h Q = iWp d mX9_day 9 [iClr a0, .int x, a2] st h Q := w_istore_n dX9_day_8 (Nat.le_of_ble_eq_true rfl) rfl
theorem X9_day_9 : iWp d mX9_day 9 [.ref p, a1, a2] st h Q = iWp d mX9_day 10 [.ref p, a1, a2] (.ref p :: st) h Q := w_aload_n dX9_day_9 rfl
theorem X9_day_10 : iWp d mX9_day 10 [a0, .int x, a2] st h Q = iWp d mX9_day 11 [a0, .int x, a2] (.int x :: st) h Q := w_iload_n dX9_day_10 rfl
theorem X9_day_11 (he : iEv mX9_find [.ref p, .int x0] h (some (.int rv)) h2) (ho : iObj h p 9 = true) : iWp 4 mX9_day 11 [a0, a1, a2] [.int x0, .ref p] h Q = iWp 4 mX9_day 14 [a0, a1, a2] [.int rv] h2 Q := iWp_cV dX9_day_11 fK_9_153 rfl rfl ho (Nat.le_of_ble_eq_true rfl) (Nat.le_of_ble_eq_true rfl) rfl (Nat.le_of_ble_eq_true rfl) he rfl
theorem X9_day_14 : iWp d mX9_day 14 [a0, a1, a2] (.int x :: st) h Q = iWp d mX9_day 15 [a0, iClr a1, .int x] st h Q := w_istore_n dX9_day_14 (Nat.le_of_ble_eq_true rfl) rfl
theorem X9_day_15 : iWp d mX9_day 15 [a0, a1, .int x] st h Q = iWp d mX9_day 16 [a0, a1, .int x] (.int x :: st) h Q := w_iload_n dX9_day_15 rfl
theorem X9_day_16 : iWp d mX9_day 16 [a0, a1, a2] st h Q = iWp d mX9_day 17 [a0, a1, a2] (.int (-1) :: st) h Q := w_iconst dX9_day_16 rfl
theorem X9_day_17 : iWp d mX9_day 17 [a0, a1, a2] (.int y :: .int x :: st) h Q = if x = y then iWp d mX9_day 20 [a0, a1, a2] st h Q else iWp d mX9_day 72 [a0, a1, a2] st h Q := w_icmp_ne dX9_day_17 rfl
theorem X9_day_20 : iWp d mX9_day 20 [.ref p, a1, a2] st h Q = iWp d mX9_day 21 [.ref p, a1, a2] (.ref p :: st) h Q := w_aload_n dX9_day_20 rfl
theorem X9_day_21 : iWp d mX9_day 21 [a0, a1, a2] (.ref p :: st) h Q = iOb (iGet h p 9 18) (fun v => iWp d mX9_day 24 [a0, a1, a2] (v :: st) h Q) := w_getf dX9_day_21 fF_9_127
theorem X9_day_24 : iWp d mX9_day 24 [a0, a1, a2] st h Q = iWp d mX9_day 26 [a0, a1, a2] (.int 40 :: st) h Q := w_bipush dX9_day_24 rfl
theorem X9_day_26 : iWp d mX9_day 26 [a0, a1, a2] (.int y :: .int x :: st) h Q = if y ≤ x then iWp d mX9_day 72 [a0, a1, a2] st h Q else iWp d mX9_day 29 [a0, a1, a2] st h Q := w_icmp_ge dX9_day_26 rfl
theorem X9_day_29 : iWp d mX9_day 29 [.ref p, a1, a2] st h Q = iWp d mX9_day 30 [.ref p, a1, a2] (.ref p :: st) h Q := w_aload_n dX9_day_29 rfl
theorem X9_day_30 : iWp d mX9_day 30 [a0, a1, a2] (.ref p :: st) h Q = iOb (iGet h p 9 22) (fun v => iWp d mX9_day 33 [a0, a1, a2] (v :: st) h Q) := w_getf dX9_day_30 fF_9_53
theorem X9_day_33 : iWp d mX9_day 33 [a0, a1, a2] st h Q = iWp d mX9_day 34 [a0, a1, a2] (.int 0 :: st) h Q := w_iconst dX9_day_33 rfl
theorem X9_day_34 : iWp d mX9_day 34 [a0, .int x, a2] st h Q = iWp d mX9_day 35 [a0, .int x, a2] (.int x :: st) h Q := w_iload_n dX9_day_34 rfl
theorem X9_day_35 : iWp d mX9_day 35 [a0, a1, a2] (.int y :: .int x :: .ref p :: st) h Q = iOb (iStI h p x y) (fun g => iWp d mX9_day 36 [a0, a1, a2] st g Q) := w_iastore dX9_day_35
theorem X9_day_36 : iWp d mX9_day 36 [.ref p, a1, a2] st h Q = iWp d mX9_day 37 [.ref p, a1, a2] (.ref p :: st) h Q := w_aload_n dX9_day_36 rfl
theorem X9_day_37 : iWp d mX9_day 37 [a0, a1, a2] (.ref p :: st) h Q = iOb (iGet h p 9 23) (fun v => iWp d mX9_day 40 [a0, a1, a2] (v :: st) h Q) := w_getf dX9_day_37 fF_9_56
theorem X9_day_40 : iWp d mX9_day 40 [a0, a1, a2] st h Q = iWp d mX9_day 41 [a0, a1, a2] (.int 0 :: st) h Q := w_iconst dX9_day_40 rfl
theorem X9_day_41 : iWp d mX9_day 41 [a0, a1, a2] st h Q = iWp d mX9_day 43 [a0, a1, a2] (.int 97 :: st) h Q := w_bipush dX9_day_41 rfl
theorem X9_day_43 : iWp d mX9_day 43 [.ref p, a1, a2] st h Q = iWp d mX9_day 44 [.ref p, a1, a2] (.ref p :: st) h Q := w_aload_n dX9_day_43 rfl
theorem X9_day_44 : iWp d mX9_day 44 [a0, a1, a2] st h Q = iWp d mX9_day 46 [a0, a1, a2] (.int 26 :: st) h Q := w_bipush dX9_day_44 rfl
theorem X9_day_46 (he : iEv mX9_draw [.ref p, .int x0] h (some (.int rv)) h2) (ho : iObj h p 9 = true) : iWp 4 mX9_day 46 [a0, a1, a2] [.int x0, .ref p, .int r0, .int r1, .ref t2] h Q = iWp 4 mX9_day 49 [a0, a1, a2] [.int rv, .int r0, .int r1, .ref t2] h2 Q := iWp_cV dX9_day_46 fK_9_289 rfl rfl ho (Nat.le_of_ble_eq_true rfl) (Nat.le_of_ble_eq_true rfl) rfl (Nat.le_of_ble_eq_true rfl) he rfl
theorem X9_day_49 : iWp d mX9_day 49 [a0, a1, a2] (.int y :: .int x :: st) h Q = iWp d mX9_day 50 [a0, a1, a2] (.int (x + y) :: st) h Q := w_iadd dX9_day_49
theorem X9_day_50 : iWp d mX9_day 50 [a0, a1, a2] (.int y :: .int x :: .ref p :: st) h Q = iOb (iStI h p x y) (fun g => iWp d mX9_day 51 [a0, a1, a2] st g Q) := w_iastore dX9_day_50
theorem X9_day_51 : iWp d mX9_day 51 [.ref p, a1, a2] st h Q = iWp d mX9_day 52 [.ref p, a1, a2] (.ref p :: st) h Q := w_aload_n dX9_day_51 rfl
theorem X9_day_52 : iWp d mX9_day 52 [a0, a1, a2] (.ref p :: st) h Q = iOb (iGet h p 9 24) (fun v => iWp d mX9_day 55 [a0, a1, a2] (v :: st) h Q) := w_getf dX9_day_52 fF_9_59
theorem X9_day_55 : iWp d mX9_day 55 [a0, a1, a2] st h Q = iWp d mX9_day 56 [a0, a1, a2] (.int 0 :: st) h Q := w_iconst dX9_day_55 rfl
theorem X9_day_56 : iWp d mX9_day 56 [a0, a1, a2] st h Q = iWp d mX9_day 57 [a0, a1, a2] (.int 0 :: st) h Q := w_iconst dX9_day_56 rfl
theorem X9_day_57 : iWp d mX9_day 57 [a0, a1, a2] (.int y :: .int x :: .ref p :: st) h Q = iOb (iStI h p x y) (fun g => iWp d mX9_day 58 [a0, a1, a2] st g Q) := w_iastore dX9_day_57
theorem X9_day_58 : iWp d mX9_day 58 [.ref p, a1, a2] st h Q = iWp d mX9_day 59 [.ref p, a1, a2] (.ref p :: st) h Q := w_aload_n dX9_day_58 rfl
theorem X9_day_59 : iWp d mX9_day 59 [a0, a1, a2] st h Q = iWp d mX9_day 60 [a0, a1, a2] (.int 1 :: st) h Q := w_iconst dX9_day_59 rfl
theorem X9_day_60 : iWp d mX9_day 60 [.ref p, a1, a2] st h Q = iWp d mX9_day 61 [.ref p, a1, a2] (.ref p :: st) h Q := w_aload_n dX9_day_60 rfl
theorem X9_day_61 : iWp d mX9_day 61 [.ref p, a1, a2] st h Q = iWp d mX9_day 62 [.ref p, a1, a2] (.ref p :: st) h Q := w_aload_n dX9_day_61 rfl
theorem X9_day_62 : iWp d mX9_day 62 [a0, a1, a2] (.ref p :: st) h Q = iOb (iGet h p 9 18) (fun v => iWp d mX9_day 65 [a0, a1, a2] (v :: st) h Q) := w_getf dX9_day_62 fF_9_127
theorem X9_day_65 (he : iEv mX9_draw [.ref p, .int x0] h (some (.int rv)) h2) (ho : iObj h p 9 = true) : iWp 4 mX9_day 65 [a0, a1, a2] [.int x0, .ref p, .int r0, .ref t1] h Q = iWp 4 mX9_day 68 [a0, a1, a2] [.int rv, .int r0, .ref t1] h2 Q := iWp_cV dX9_day_65 fK_9_289 rfl rfl ho (Nat.le_of_ble_eq_true rfl) (Nat.le_of_ble_eq_true rfl) rfl (Nat.le_of_ble_eq_true rfl) he rfl
theorem X9_day_68 : iWp d mX9_day 68 [a0, a1, a2] st h Q = iWp d mX9_day 69 [a0, a1, a2] (.int 0 :: st) h Q := w_iconst dX9_day_68 rfl
theorem X9_day_69 (he : iEv mX9_puts [.ref p, .int x0, .int x1, .int x2] h none h2) (ho : iObj h p 9 = true) : iWp 4 mX9_day 69 [a0, a1, a2] [.int x2, .int x1, .int x0, .ref p] h Q = iWp 4 mX9_day 72 [a0, a1, a2] [] h2 Q := iWp_cV dX9_day_69 fK_9_192 rfl rfl ho (Nat.le_of_ble_eq_true rfl) (Nat.le_of_ble_eq_true rfl) rfl (Nat.le_of_ble_eq_true rfl) he rfl
theorem X9_day_72 : iWp d mX9_day 72 [a0, a1, .int x] st h Q = iWp d mX9_day 73 [a0, a1, .int x] (.int x :: st) h Q := w_iload_n dX9_day_72 rfl
theorem X9_day_73 : iWp d mX9_day 73 [a0, a1, a2] st h Q = iWp d mX9_day 74 [a0, a1, a2] (.int (-1) :: st) h Q := w_iconst dX9_day_73 rfl
theorem X9_day_74 : iWp d mX9_day 74 [a0, a1, a2] (.int y :: .int x :: st) h Q = if x = y then iWp d mX9_day 77 [a0, a1, a2] st h Q else iWp d mX9_day 78 [a0, a1, a2] st h Q := w_icmp_ne dX9_day_74 rfl
theorem X9_day_77 : iWp d mX9_day 77 [a0, a1, a2] [] h Q = Q none h := w_ret dX9_day_77 rfl
theorem X9_day_78 : iWp d mX9_day 78 [a0, a1, .int x] st h Q = iWp d mX9_day 79 [a0, a1, .int x] (.int x :: st) h Q := w_iload_n dX9_day_78 rfl
theorem X9_day_79 : iWp d mX9_day 79 [a0, a1, a2] (.int x :: st) h Q = if x ≤ 0 then iWp d mX9_day 107 [a0, a1, a2] st h Q else iWp d mX9_day 82 [a0, a1, a2] st h Q := w_ifc_le dX9_day_79 rfl
theorem X9_day_82 : iWp d mX9_day 82 [.ref p, a1, a2] st h Q = iWp d mX9_day 83 [.ref p, a1, a2] (.ref p :: st) h Q := w_aload_n dX9_day_82 rfl
theorem X9_day_83 : iWp d mX9_day 83 [a0, a1, .int x] st h Q = iWp d mX9_day 84 [a0, a1, .int x] (.int x :: st) h Q := w_iload_n dX9_day_83 rfl
theorem X9_day_84 (he : iEv mX9_children [.ref p, .int x0] h (some (.int rv)) h2) (ho : iObj h p 9 = true) : iWp 4 mX9_day 84 [a0, a1, a2] [.int x0, .ref p] h Q = iWp 4 mX9_day 87 [a0, a1, a2] [.int rv] h2 Q := iWp_cV dX9_day_84 fK_9_178 rfl rfl ho (Nat.le_of_ble_eq_true rfl) (Nat.le_of_ble_eq_true rfl) rfl (Nat.le_of_ble_eq_true rfl) he rfl
theorem X9_day_87 : iWp d mX9_day 87 [a0, a1, a2] (.int x :: st) h Q = if x = 0 then iWp d mX9_day 90 [a0, a1, a2] st h Q else iWp d mX9_day 107 [a0, a1, a2] st h Q := w_ifc_ne dX9_day_87 rfl
theorem X9_day_90 : iWp d mX9_day 90 [.ref p, a1, a2] st h Q = iWp d mX9_day 91 [.ref p, a1, a2] (.ref p :: st) h Q := w_aload_n dX9_day_90 rfl
theorem X9_day_91 : iWp d mX9_day 91 [a0, a1, a2] st h Q = iWp d mX9_day 92 [a0, a1, a2] (.int 2 :: st) h Q := w_iconst dX9_day_91 rfl
theorem X9_day_92 (he : iEv mX9_draw [.ref p, .int x0] h (some (.int rv)) h2) (ho : iObj h p 9 = true) : iWp 4 mX9_day 92 [a0, a1, a2] [.int x0, .ref p] h Q = iWp 4 mX9_day 95 [a0, a1, a2] [.int rv] h2 Q := iWp_cV dX9_day_92 fK_9_289 rfl rfl ho (Nat.le_of_ble_eq_true rfl) (Nat.le_of_ble_eq_true rfl) rfl (Nat.le_of_ble_eq_true rfl) he rfl
theorem X9_day_95 : iWp d mX9_day 95 [a0, a1, a2] (.int x :: st) h Q = if x = 0 then iWp d mX9_day 98 [a0, a1, a2] st h Q else iWp d mX9_day 107 [a0, a1, a2] st h Q := w_ifc_ne dX9_day_95 rfl
theorem X9_day_98 : iWp d mX9_day 98 [.ref p, a1, a2] st h Q = iWp d mX9_day 99 [.ref p, a1, a2] (.ref p :: st) h Q := w_aload_n dX9_day_98 rfl
theorem X9_day_99 : iWp d mX9_day 99 [a0, a1, .int x] st h Q = iWp d mX9_day 100 [a0, a1, .int x] (.int x :: st) h Q := w_iload_n dX9_day_99 rfl
theorem X9_day_100 : iWp d mX9_day 100 [a0, a1, a2] st h Q = iWp d mX9_day 101 [a0, a1, a2] (.int 1 :: st) h Q := w_iconst dX9_day_100 rfl
theorem X9_day_101 (he : iEv mX9_cuts [.ref p, .int x0, .int x1] h none h2) (ho : iObj h p 9 = true) : iWp 4 mX9_day 101 [a0, a1, a2] [.int x1, .int x0, .ref p] h Q = iWp 4 mX9_day 104 [a0, a1, a2] [] h2 Q := iWp_cV dX9_day_101 fK_9_188 rfl rfl ho (Nat.le_of_ble_eq_true rfl) (Nat.le_of_ble_eq_true rfl) rfl (Nat.le_of_ble_eq_true rfl) he rfl
theorem X9_day_104 : iWp d mX9_day 104 [a0, a1, a2] st h Q = iWp d mX9_day 122 [a0, a1, a2] st h Q := w_goto dX9_day_104 rfl
theorem X9_day_107 : iWp d mX9_day 107 [.ref p, a1, a2] st h Q = iWp d mX9_day 108 [.ref p, a1, a2] (.ref p :: st) h Q := w_aload_n dX9_day_107 rfl
theorem X9_day_108 : iWp d mX9_day 108 [a0, a1, a2] (.ref p :: st) h Q = iOb (iGet h p 9 20) (fun v => iWp d mX9_day 111 [a0, a1, a2] (v :: st) h Q) := w_getf dX9_day_108 fF_9_47
theorem X9_day_111 : iWp d mX9_day 111 [a0, a1, .int x] st h Q = iWp d mX9_day 112 [a0, a1, .int x] (.int x :: st) h Q := w_iload_n dX9_day_111 rfl
theorem X9_day_112 : iWp d mX9_day 112 [a0, a1, a2] st h Q = iWp d mX9_day 114 [a0, a1, a2] (.int 97 :: st) h Q := w_bipush dX9_day_112 rfl
theorem X9_day_114 : iWp d mX9_day 114 [.ref p, a1, a2] st h Q = iWp d mX9_day 115 [.ref p, a1, a2] (.ref p :: st) h Q := w_aload_n dX9_day_114 rfl
theorem X9_day_115 : iWp d mX9_day 115 [a0, a1, a2] st h Q = iWp d mX9_day 117 [a0, a1, a2] (.int 26 :: st) h Q := w_bipush dX9_day_115 rfl
theorem X9_day_117 (he : iEv mX9_draw [.ref p, .int x0] h (some (.int rv)) h2) (ho : iObj h p 9 = true) : iWp 4 mX9_day 117 [a0, a1, a2] [.int x0, .ref p, .int r0, .int r1, .ref t2] h Q = iWp 4 mX9_day 120 [a0, a1, a2] [.int rv, .int r0, .int r1, .ref t2] h2 Q := iWp_cV dX9_day_117 fK_9_289 rfl rfl ho (Nat.le_of_ble_eq_true rfl) (Nat.le_of_ble_eq_true rfl) rfl (Nat.le_of_ble_eq_true rfl) he rfl
theorem X9_day_120 : iWp d mX9_day 120 [a0, a1, a2] (.int y :: .int x :: st) h Q = iWp d mX9_day 121 [a0, a1, a2] (.int (x + y) :: st) h Q := w_iadd dX9_day_120
theorem X9_day_121 : iWp d mX9_day 121 [a0, a1, a2] (.int y :: .int x :: .ref p :: st) h Q = iOb (iStI h p x y) (fun g => iWp d mX9_day 122 [a0, a1, a2] st g Q) := w_iastore dX9_day_121
theorem X9_day_122 : iWp d mX9_day 122 [a0, a1, a2] [] h Q = Q none h := w_ret dX9_day_122 rfl
theorem I9_day {Q : Option Value → iHp → Prop} (hw : iWp 4 mX9_day 0 [.ref p, iU, iU] [] h Q) : ∃ r h1, iEv mX9_day [.ref p] h r h1 ∧ Q r h1 := iEv_of (by rfl) rfl hw
theorem J9_day {r : Option Value} {h1 : iHp} (hw : iWp 4 mX9_day 0 [.ref p, iU, iU] [] h (fun r' h' => r' = r ∧ h' = h1)) : iEv mX9_day [.ref p] h r h1 := iEv_ev (by rfl) rfl hw
theorem X9_days_0 : iWp d mX9_days 0 [.ref p, a1, a2, a3] st h Q = iWp d mX9_days 1 [.ref p, a1, a2, a3] (.ref p :: st) h Q := w_aload_n dX9_days_0 rfl
theorem X9_days_1 : iWp d mX9_days 1 [a0, .int x, a2, a3] st h Q = iWp d mX9_days 2 [a0, .int x, a2, a3] (.int x :: st) h Q := w_iload_n dX9_days_1 rfl
theorem X9_days_2 (he : iEv mX9_isTree [.ref p, .int x0] h (some (.int rv)) h2) (ho : iObj h p 9 = true) : iWp 5 mX9_days 2 [a0, a1, a2, a3] [.int x0, .ref p] h Q = iWp 5 mX9_days 5 [a0, a1, a2, a3] [.int rv] h2 Q := iWp_cV dX9_days_2 fK_9_166 rfl rfl ho (Nat.le_of_ble_eq_true rfl) (Nat.le_of_ble_eq_true rfl) rfl (Nat.le_of_ble_eq_true rfl) he rfl
theorem X9_days_5 : iWp d mX9_days 5 [a0, a1, a2, a3] (.int x :: st) h Q = if x = 0 then iWp d mX9_days 8 [a0, a1, a2, a3] st h Q else iWp d mX9_days 14 [a0, a1, a2, a3] st h Q := w_ifc_ne dX9_days_5 rfl
theorem X9_days_8 : iWp d mX9_days 8 [.ref p, a1, a2, a3] st h Q = iWp d mX9_days 9 [.ref p, a1, a2, a3] (.ref p :: st) h Q := w_aload_n dX9_days_8 rfl
theorem X9_days_9 : iWp d mX9_days 9 [a0, a1, a2, a3] st h Q = iWp d mX9_days 10 [a0, a1, a2, a3] (.int (-1) :: st) h Q := w_iconst dX9_days_9 rfl
theorem X9_days_10 (he : iEv mX9_no [.ref p, .int x0] h (some (.int rv)) h2) (ho : iObj h p 9 = true) : iWp 5 mX9_days 10 [a0, a1, a2, a3] [.int x0, .ref p] h Q = iWp 5 mX9_days 13 [a0, a1, a2, a3] [.int rv] h2 Q := iWp_cV dX9_days_10 fK_9_99 rfl rfl ho (Nat.le_of_ble_eq_true rfl) (Nat.le_of_ble_eq_true rfl) rfl (Nat.le_of_ble_eq_true rfl) he rfl
theorem X9_days_13 : iWp d mX9_days 13 [a0, a1, a2, a3] [.int x] h Q = Q (some (.int x)) h := w_ireti dX9_days_13 rfl
theorem X9_days_14 : iWp d mX9_days 14 [a0, a1, .int x, a3] st h Q = iWp d mX9_days 15 [a0, a1, .int x, a3] (.int x :: st) h Q := w_iload_n dX9_days_14 rfl
theorem X9_days_15 : iWp d mX9_days 15 [a0, a1, a2, a3] st h Q = iWp d mX9_days 16 [a0, a1, a2, a3] (.int 1 :: st) h Q := w_iconst dX9_days_15 rfl
theorem X9_days_16 : iWp d mX9_days 16 [a0, a1, a2, a3] st h Q = iWp d mX9_days 18 [a0, a1, a2, a3] (.int 60 :: st) h Q := w_bipush dX9_days_16 rfl
theorem X9_days_18 (he : iEv mX9_within [.int x0, .int x1, .int x2] h (some (.int rv)) h2) : iWp 5 mX9_days 18 [a0, a1, a2, a3] [.int x2, .int x1, .int x0] h Q = iWp 5 mX9_days 21 [a0, a1, a2, a3] [.int rv] h2 Q := iWp_cS dX9_days_18 fK_9_106 rfl rfl (Nat.le_of_ble_eq_true rfl) (Nat.le_of_ble_eq_true rfl) rfl (Nat.le_of_ble_eq_true rfl) he rfl
theorem X9_days_21 : iWp d mX9_days 21 [a0, a1, a2, a3] (.int x :: st) h Q = if x = 0 then iWp d mX9_days 24 [a0, a1, a2, a3] st h Q else iWp d mX9_days 31 [a0, a1, a2, a3] st h Q := w_ifc_ne dX9_days_21 rfl
theorem X9_days_24 : iWp d mX9_days 24 [.ref p, a1, a2, a3] st h Q = iWp d mX9_days 25 [.ref p, a1, a2, a3] (.ref p :: st) h Q := w_aload_n dX9_days_24 rfl
theorem X9_days_25 : iWp d mX9_days 25 [a0, a1, a2, a3] st h Q = iWp d mX9_days 27 [a0, a1, a2, a3] (.int (-6) :: st) h Q := w_bipush dX9_days_25 rfl
theorem X9_days_27 (he : iEv mX9_no [.ref p, .int x0] h (some (.int rv)) h2) (ho : iObj h p 9 = true) : iWp 5 mX9_days 27 [a0, a1, a2, a3] [.int x0, .ref p] h Q = iWp 5 mX9_days 30 [a0, a1, a2, a3] [.int rv] h2 Q := iWp_cV dX9_days_27 fK_9_99 rfl rfl ho (Nat.le_of_ble_eq_true rfl) (Nat.le_of_ble_eq_true rfl) rfl (Nat.le_of_ble_eq_true rfl) he rfl
theorem X9_days_30 : iWp d mX9_days 30 [a0, a1, a2, a3] [.int x] h Q = Q (some (.int x)) h := w_ireti dX9_days_30 rfl
theorem X9_days_31 : iWp d mX9_days 31 [.ref p, a1, a2, a3] st h Q = iWp d mX9_days 32 [.ref p, a1, a2, a3] (.ref p :: st) h Q := w_aload_n dX9_days_31 rfl
theorem X9_days_32 : iWp d mX9_days 32 [a0, .int x, a2, a3] st h Q = iWp d mX9_days 33 [a0, .int x, a2, a3] (.int x :: st) h Q := w_iload_n dX9_days_32 rfl
theorem X9_days_33 (he : iEv mX9_loads [.ref p, .int x0] h none h2) (ho : iObj h p 9 = true) : iWp 5 mX9_days 33 [a0, a1, a2, a3] [.int x0, .ref p] h Q = iWp 5 mX9_days 36 [a0, a1, a2, a3] [] h2 Q := iWp_cV dX9_days_33 fK_9_169 rfl rfl ho (Nat.le_of_ble_eq_true rfl) (Nat.le_of_ble_eq_true rfl) rfl (Nat.le_of_ble_eq_true rfl) he rfl
theorem X9_days_36 : iWp d mX9_days 36 [a0, a1, a2, a3] st h Q = iWp d mX9_days 37 [a0, a1, a2, a3] (.int 0 :: st) h Q := w_iconst dX9_days_36 rfl
theorem X9_days_37 : iWp d mX9_days 37 [a0, a1, a2, a3] (.int x :: st) h Q = iWp d mX9_days 38 [a0, a1, iClr a2, .int x] st h Q := w_istore_n dX9_days_37 (Nat.le_of_ble_eq_true rfl) rfl
theorem X9_days_38 : iWp d mX9_days 38 [a0, a1, a2, .int x] st h Q = iWp d mX9_days 39 [a0, a1, a2, .int x] (.int x :: st) h Q := w_iload_n dX9_days_38 rfl
theorem X9_days_39 : iWp d mX9_days 39 [a0, a1, .int x, a3] st h Q = iWp d mX9_days 40 [a0, a1, .int x, a3] (.int x :: st) h Q := w_iload_n dX9_days_39 rfl
theorem X9_days_40 : iWp d mX9_days 40 [a0, a1, a2, a3] (.int y :: .int x :: st) h Q = if y ≤ x then iWp d mX9_days 53 [a0, a1, a2, a3] st h Q else iWp d mX9_days 43 [a0, a1, a2, a3] st h Q := w_icmp_ge dX9_days_40 rfl
theorem X9_days_43 : iWp d mX9_days 43 [.ref p, a1, a2, a3] st h Q = iWp d mX9_days 44 [.ref p, a1, a2, a3] (.ref p :: st) h Q := w_aload_n dX9_days_43 rfl
theorem X9_days_44 (he : iEv mX9_day [.ref p] h none h2) (ho : iObj h p 9 = true) : iWp 5 mX9_days 44 [a0, a1, a2, a3] [.ref p] h Q = iWp 5 mX9_days 47 [a0, a1, a2, a3] [] h2 Q := iWp_cV dX9_days_44 fK_9_292 rfl rfl ho (Nat.le_of_ble_eq_true rfl) (Nat.le_of_ble_eq_true rfl) rfl (Nat.le_of_ble_eq_true rfl) he rfl
theorem X9_days_47 : iWp d mX9_days 47 [a0, a1, a2, .int x] st h Q = iWp d mX9_days 50 [a0, a1, iClr a2, .int (x + 1)] st h Q := w_iinc dX9_days_47 rfl (Nat.le_of_ble_eq_true rfl) rfl
theorem X9_days_50 : iWp d mX9_days 50 [a0, a1, a2, a3] st h Q = iWp d mX9_days 38 [a0, a1, a2, a3] st h Q := w_goto dX9_days_50 rfl
theorem X9_days_53 : iWp d mX9_days 53 [.ref p, a1, a2, a3] st h Q = iWp d mX9_days 54 [.ref p, a1, a2, a3] (.ref p :: st) h Q := w_aload_n dX9_days_53 rfl
theorem X9_days_54 : iWp d mX9_days 54 [a0, .int x, a2, a3] st h Q = iWp d mX9_days 55 [a0, .int x, a2, a3] (.int x :: st) h Q := w_iload_n dX9_days_54 rfl
theorem X9_days_55 (he : iEv mX9_lays [.ref p, .int x0] h none h2) (ho : iObj h p 9 = true) : iWp 5 mX9_days 55 [a0, a1, a2, a3] [.int x0, .ref p] h Q = iWp 5 mX9_days 58 [a0, a1, a2, a3] [] h2 Q := iWp_cV dX9_days_55 fK_9_162 rfl rfl ho (Nat.le_of_ble_eq_true rfl) (Nat.le_of_ble_eq_true rfl) rfl (Nat.le_of_ble_eq_true rfl) he rfl
theorem X9_days_58 : iWp d mX9_days 58 [.ref p, a1, a2, a3] st h Q = iWp d mX9_days 59 [.ref p, a1, a2, a3] (.ref p :: st) h Q := w_aload_n dX9_days_58 rfl
theorem X9_days_59 : iWp d mX9_days 59 [a0, a1, a2, a3] (.ref p :: st) h Q = iOb (iGet h p 9 1) (fun v => iWp d mX9_days 62 [a0, a1, a2, a3] (v :: st) h Q) := w_getf dX9_days_59 fF_9_7
theorem X9_days_62 : iWp d mX9_days 62 [a0, .int x, a2, a3] st h Q = iWp d mX9_days 63 [a0, .int x, a2, a3] (.int x :: st) h Q := w_iload_n dX9_days_62 rfl
theorem X9_days_63 : iWp d mX9_days 63 [a0, a1, a2, a3] (.int x :: .ref p :: st) h Q = iOb (iLdI h p x) (fun v => iWp d mX9_days 64 [a0, a1, a2, a3] (.int v :: st) h Q) := w_iaload dX9_days_63
theorem X9_days_64 : iWp d mX9_days 64 [a0, a1, a2, a3] [.int x] h Q = Q (some (.int x)) h := w_ireti dX9_days_64 rfl
theorem I9_days {Q : Option Value → iHp → Prop} (hw : iWp 5 mX9_days 0 [.ref p, .int x0, .int x1, iU] [] h Q) : ∃ r h1, iEv mX9_days [.ref p, .int x0, .int x1] h r h1 ∧ Q r h1 := iEv_of (by rfl) rfl hw
theorem J9_days {r : Option Value} {h1 : iHp} (hw : iWp 5 mX9_days 0 [.ref p, .int x0, .int x1, iU] [] h (fun r' h' => r' = r ∧ h' = h1)) : iEv mX9_days [.ref p, .int x0, .int x1] h r h1 := iEv_ev (by rfl) rfl hw
theorem X9_difference_0 : iWp d mX9_difference 0 [.ref p, a1, a2] st h Q = iWp d mX9_difference 1 [.ref p, a1, a2] (.ref p :: st) h Q := w_aload_n dX9_difference_0 rfl
theorem X9_difference_1 : iWp d mX9_difference 1 [a0, .int x, a2] st h Q = iWp d mX9_difference 2 [a0, .int x, a2] (.int x :: st) h Q := w_iload_n dX9_difference_1 rfl
theorem X9_difference_2 (he : iEv mX9_isTree [.ref p, .int x0] h (some (.int rv)) h2) (ho : iObj h p 9 = true) : iWp 9 mX9_difference 2 [a0, a1, a2] [.int x0, .ref p] h Q = iWp 9 mX9_difference 5 [a0, a1, a2] [.int rv] h2 Q := iWp_cV dX9_difference_2 fK_9_166 rfl rfl ho (Nat.le_of_ble_eq_true rfl) (Nat.le_of_ble_eq_true rfl) rfl (Nat.le_of_ble_eq_true rfl) he rfl
theorem X9_difference_5 : iWp d mX9_difference 5 [a0, a1, a2] (.int x :: st) h Q = if x = 0 then iWp d mX9_difference 16 [a0, a1, a2] st h Q else iWp d mX9_difference 8 [a0, a1, a2] st h Q := w_ifc_eq dX9_difference_5 rfl
theorem X9_difference_8 : iWp d mX9_difference 8 [.ref p, a1, a2] st h Q = iWp d mX9_difference 9 [.ref p, a1, a2] (.ref p :: st) h Q := w_aload_n dX9_difference_8 rfl
theorem X9_difference_9 : iWp d mX9_difference 9 [a0, a1, .int x] st h Q = iWp d mX9_difference 10 [a0, a1, .int x] (.int x :: st) h Q := w_iload_n dX9_difference_9 rfl
theorem X9_difference_10 (he : iEv mX9_isTree [.ref p, .int x0] h (some (.int rv)) h2) (ho : iObj h p 9 = true) : iWp 9 mX9_difference 10 [a0, a1, a2] [.int x0, .ref p] h Q = iWp 9 mX9_difference 13 [a0, a1, a2] [.int rv] h2 Q := iWp_cV dX9_difference_10 fK_9_166 rfl rfl ho (Nat.le_of_ble_eq_true rfl) (Nat.le_of_ble_eq_true rfl) rfl (Nat.le_of_ble_eq_true rfl) he rfl
theorem X9_difference_13 : iWp d mX9_difference 13 [a0, a1, a2] (.int x :: st) h Q = if x = 0 then iWp d mX9_difference 16 [a0, a1, a2] st h Q else iWp d mX9_difference 22 [a0, a1, a2] st h Q := w_ifc_ne dX9_difference_13 rfl
theorem X9_difference_16 : iWp d mX9_difference 16 [.ref p, a1, a2] st h Q = iWp d mX9_difference 17 [.ref p, a1, a2] (.ref p :: st) h Q := w_aload_n dX9_difference_16 rfl
theorem X9_difference_17 : iWp d mX9_difference 17 [a0, a1, a2] st h Q = iWp d mX9_difference 18 [a0, a1, a2] (.int (-1) :: st) h Q := w_iconst dX9_difference_17 rfl
theorem X9_difference_18 (he : iEv mX9_no [.ref p, .int x0] h (some (.int rv)) h2) (ho : iObj h p 9 = true) : iWp 9 mX9_difference 18 [a0, a1, a2] [.int x0, .ref p] h Q = iWp 9 mX9_difference 21 [a0, a1, a2] [.int rv] h2 Q := iWp_cV dX9_difference_18 fK_9_99 rfl rfl ho (Nat.le_of_ble_eq_true rfl) (Nat.le_of_ble_eq_true rfl) rfl (Nat.le_of_ble_eq_true rfl) he rfl
theorem X9_difference_21 : iWp d mX9_difference 21 [a0, a1, a2] [.int x] h Q = Q (some (.int x)) h := w_ireti dX9_difference_21 rfl
theorem X9_difference_22 : iWp d mX9_difference 22 [.ref p, a1, a2] st h Q = iWp d mX9_difference 23 [.ref p, a1, a2] (.ref p :: st) h Q := w_aload_n dX9_difference_22 rfl
theorem X9_difference_23 : iWp d mX9_difference 23 [a0, .int x, a2] st h Q = iWp d mX9_difference 24 [a0, .int x, a2] (.int x :: st) h Q := w_iload_n dX9_difference_23 rfl
theorem X9_difference_24 : iWp d mX9_difference 24 [a0, a1, .int x] st h Q = iWp d mX9_difference 25 [a0, a1, .int x] (.int x :: st) h Q := w_iload_n dX9_difference_24 rfl
theorem X9_difference_25 (he : iEv mX9_isUnlike [.ref p, .int x0, .int x1] h (some (.int rv)) h2) (ho : iObj h p 9 = true) : iWp 9 mX9_difference 25 [a0, a1, a2] [.int x1, .int x0, .ref p] h Q = iWp 9 mX9_difference 28 [a0, a1, a2] [.int rv] h2 Q := iWp_cV dX9_difference_25 fK_9_245 rfl rfl ho (Nat.le_of_ble_eq_true rfl) (Nat.le_of_ble_eq_true rfl) rfl (Nat.le_of_ble_eq_true rfl) he rfl
theorem X9_difference_28 : iWp d mX9_difference 28 [a0, a1, a2] (.int x :: st) h Q = if x = 0 then iWp d mX9_difference 38 [a0, a1, a2] st h Q else iWp d mX9_difference 31 [a0, a1, a2] st h Q := w_ifc_eq dX9_difference_28 rfl
theorem X9_difference_31 : iWp d mX9_difference 31 [.ref p, a1, a2] st h Q = iWp d mX9_difference 32 [.ref p, a1, a2] (.ref p :: st) h Q := w_aload_n dX9_difference_31 rfl
theorem X9_difference_32 : iWp d mX9_difference 32 [a0, a1, a2] st h Q = iWp d mX9_difference 34 [a0, a1, a2] (.int (-6) :: st) h Q := w_bipush dX9_difference_32 rfl
theorem X9_difference_34 (he : iEv mX9_no [.ref p, .int x0] h (some (.int rv)) h2) (ho : iObj h p 9 = true) : iWp 9 mX9_difference 34 [a0, a1, a2] [.int x0, .ref p] h Q = iWp 9 mX9_difference 37 [a0, a1, a2] [.int rv] h2 Q := iWp_cV dX9_difference_34 fK_9_99 rfl rfl ho (Nat.le_of_ble_eq_true rfl) (Nat.le_of_ble_eq_true rfl) rfl (Nat.le_of_ble_eq_true rfl) he rfl
theorem X9_difference_37 : iWp d mX9_difference 37 [a0, a1, a2] [.int x] h Q = Q (some (.int x)) h := w_ireti dX9_difference_37 rfl
theorem X9_difference_38 : iWp d mX9_difference 38 [.ref p, a1, a2] st h Q = iWp d mX9_difference 39 [.ref p, a1, a2] (.ref p :: st) h Q := w_aload_n dX9_difference_38 rfl
theorem X9_difference_39 : iWp d mX9_difference 39 [a0, .int x, a2] st h Q = iWp d mX9_difference 40 [a0, .int x, a2] (.int x :: st) h Q := w_iload_n dX9_difference_39 rfl
theorem X9_difference_40 : iWp d mX9_difference 40 [a0, a1, .int x] st h Q = iWp d mX9_difference 41 [a0, a1, .int x] (.int x :: st) h Q := w_iload_n dX9_difference_40 rfl
theorem X9_difference_41 (he : iEv mX9_differs [.ref p, .int x0, .int x1] h none h2) (ho : iObj h p 9 = true) : iWp 9 mX9_difference 41 [a0, a1, a2] [.int x1, .int x0, .ref p] h Q = iWp 9 mX9_difference 44 [a0, a1, a2] [] h2 Q := iWp_cV dX9_difference_41 fK_9_248 rfl rfl ho (Nat.le_of_ble_eq_true rfl) (Nat.le_of_ble_eq_true rfl) rfl (Nat.le_of_ble_eq_true rfl) he rfl
theorem X9_difference_44 : iWp d mX9_difference 44 [.ref p, a1, a2] st h Q = iWp d mX9_difference 45 [.ref p, a1, a2] (.ref p :: st) h Q := w_aload_n dX9_difference_44 rfl
theorem X9_difference_45 : iWp d mX9_difference 45 [a0, a1, a2] st h Q = iWp d mX9_difference 46 [a0, a1, a2] (.int 1 :: st) h Q := w_iconst dX9_difference_45 rfl
theorem X9_difference_46 : iWp d mX9_difference 46 [a0, a1, a2] st h Q = iWp d mX9_difference 47 [a0, a1, a2] (.int (-1) :: st) h Q := w_iconst dX9_difference_46 rfl
theorem X9_difference_47 (he : iEv mX9_newPatch [.ref p, .int x0, .int x1] h (some (.int rv)) h2) (ho : iObj h p 9 = true) : iWp 9 mX9_difference 47 [a0, a1, a2] [.int x1, .int x0, .ref p] h Q = iWp 9 mX9_difference 50 [a0, a1, a2] [.int rv] h2 Q := iWp_cV dX9_difference_47 fK_9_251 rfl rfl ho (Nat.le_of_ble_eq_true rfl) (Nat.le_of_ble_eq_true rfl) rfl (Nat.le_of_ble_eq_true rfl) he rfl
theorem X9_difference_50 : iWp d mX9_difference 50 [a0, a1, a2] [.int x] h Q = Q (some (.int x)) h := w_ireti dX9_difference_50 rfl
theorem I9_difference {Q : Option Value → iHp → Prop} (hw : iWp 9 mX9_difference 0 [.ref p, .int x0, .int x1] [] h Q) : ∃ r h1, iEv mX9_difference [.ref p, .int x0, .int x1] h r h1 ∧ Q r h1 := iEv_of (by rfl) rfl hw
theorem J9_difference {r : Option Value} {h1 : iHp} (hw : iWp 9 mX9_difference 0 [.ref p, .int x0, .int x1] [] h (fun r' h' => r' = r ∧ h' = h1)) : iEv mX9_difference [.ref p, .int x0, .int x1] h r h1 := iEv_ev (by rfl) rfl hw
theorem X9_differs_0 : iWp d mX9_differs 0 [.ref p, a1, a2, a3, a4] st h Q = iWp d mX9_differs 1 [.ref p, a1, a2, a3, a4] (.ref p :: st) h Q := w_aload_n dX9_differs_0 rfl
theorem X9_differs_1 : iWp d mX9_differs 1 [a0, .int x, a2, a3, a4] st h Q = iWp d mX9_differs 2 [a0, .int x, a2, a3, a4] (.int x :: st) h Q := w_iload_n dX9_differs_1 rfl
theorem X9_differs_2 (he : iEv mX9_loads [.ref p, .int x0] h none h2) (ho : iObj h p 9 = true) : iWp 8 mX9_differs 2 [a0, a1, a2, a3, a4] [.int x0, .ref p] h Q = iWp 8 mX9_differs 5 [a0, a1, a2, a3, a4] [] h2 Q := iWp_cV dX9_differs_2 fK_9_169 rfl rfl ho (Nat.le_of_ble_eq_true rfl) (Nat.le_of_ble_eq_true rfl) rfl (Nat.le_of_ble_eq_true rfl) he rfl
theorem X9_differs_5 : iWp d mX9_differs 5 [.ref p, a1, a2, a3, a4] st h Q = iWp d mX9_differs 6 [.ref p, a1, a2, a3, a4] (.ref p :: st) h Q := w_aload_n dX9_differs_5 rfl
theorem X9_differs_6 : iWp d mX9_differs 6 [a0, a1, a2, a3, a4] st h Q = iWp d mX9_differs 7 [a0, a1, a2, a3, a4] (.int 0 :: st) h Q := w_iconst dX9_differs_6 rfl
theorem X9_differs_7 : iWp d mX9_differs 7 [a0, a1, a2, a3, a4] (.int x :: .ref p :: st) h Q = iOb (iPut h p 9 25 (.int x)) (fun g => iWp d mX9_differs 10 [a0, a1, a2, a3, a4] st g Q) := w_putf dX9_differs_7 fF_9_200 ⟨rfl, (Or.inl rfl)⟩
theorem X9_differs_10 : iWp d mX9_differs 10 [a0, a1, a2, a3, a4] st h Q = iWp d mX9_differs 11 [a0, a1, a2, a3, a4] (.int 0 :: st) h Q := w_iconst dX9_differs_10 rfl
theorem X9_differs_11 : iWp d mX9_differs 11 [a0, a1, a2, a3, a4] (.int x :: st) h Q = iWp d mX9_differs 12 [a0, a1, iClr a2, .int x, a4] st h Q := w_istore_n dX9_differs_11 (Nat.le_of_ble_eq_true rfl) rfl
theorem X9_differs_12 : iWp d mX9_differs 12 [a0, a1, a2, .int x, a4] st h Q = iWp d mX9_differs 13 [a0, a1, a2, .int x, a4] (.int x :: st) h Q := w_iload_n dX9_differs_12 rfl
theorem X9_differs_13 : iWp d mX9_differs 13 [.ref p, a1, a2, a3, a4] st h Q = iWp d mX9_differs 14 [.ref p, a1, a2, a3, a4] (.ref p :: st) h Q := w_aload_n dX9_differs_13 rfl
theorem X9_differs_14 : iWp d mX9_differs 14 [a0, a1, a2, a3, a4] (.ref p :: st) h Q = iOb (iGet h p 9 1) (fun v => iWp d mX9_differs 17 [a0, a1, a2, a3, a4] (v :: st) h Q) := w_getf dX9_differs_14 fF_9_7
theorem X9_differs_17 : iWp d mX9_differs 17 [a0, .int x, a2, a3, a4] st h Q = iWp d mX9_differs 18 [a0, .int x, a2, a3, a4] (.int x :: st) h Q := w_iload_n dX9_differs_17 rfl
theorem X9_differs_18 : iWp d mX9_differs 18 [a0, a1, a2, a3, a4] (.int x :: .ref p :: st) h Q = iOb (iLdI h p x) (fun v => iWp d mX9_differs 19 [a0, a1, a2, a3, a4] (.int v :: st) h Q) := w_iaload dX9_differs_18
theorem X9_differs_19 : iWp d mX9_differs 19 [a0, a1, a2, a3, a4] (.int y :: .int x :: st) h Q = if y ≤ x then iWp d mX9_differs 110 [a0, a1, a2, a3, a4] st h Q else iWp d mX9_differs 22 [a0, a1, a2, a3, a4] st h Q := w_icmp_ge dX9_differs_19 rfl
theorem X9_differs_22 : iWp d mX9_differs 22 [.ref p, a1, a2, a3, a4] st h Q = iWp d mX9_differs 23 [.ref p, a1, a2, a3, a4] (.ref p :: st) h Q := w_aload_n dX9_differs_22 rfl
theorem X9_differs_23 : iWp d mX9_differs 23 [a0, a1, .int x, a3, a4] st h Q = iWp d mX9_differs 24 [a0, a1, .int x, a3, a4] (.int x :: st) h Q := w_iload_n dX9_differs_23 rfl
theorem X9_differs_24 : iWp d mX9_differs 24 [.ref p, a1, a2, a3, a4] st h Q = iWp d mX9_differs 25 [.ref p, a1, a2, a3, a4] (.ref p :: st) h Q := w_aload_n dX9_differs_24 rfl
theorem X9_differs_25 : iWp d mX9_differs 25 [a0, .int x, a2, a3, a4] st h Q = iWp d mX9_differs 26 [a0, .int x, a2, a3, a4] (.int x :: st) h Q := w_iload_n dX9_differs_25 rfl
theorem X9_differs_26 : iWp d mX9_differs 26 [a0, a1, a2, .int x, a4] st h Q = iWp d mX9_differs 27 [a0, a1, a2, .int x, a4] (.int x :: st) h Q := w_iload_n dX9_differs_26 rfl
theorem X9_differs_27 (he : iEv mX9_keyOf [.ref p, .int x0, .int x1] h (some (.int rv)) h2) (ho : iObj h p 9 = true) : iWp 8 mX9_differs 27 [a0, a1, a2, a3, a4] [.int x1, .int x0, .ref p, .int r0, .ref t1] h Q = iWp 8 mX9_differs 30 [a0, a1, a2, a3, a4] [.int rv, .int r0, .ref t1] h2 Q := iWp_cV dX9_differs_27 fK_9_211 rfl rfl ho (Nat.le_of_ble_eq_true rfl) (Nat.le_of_ble_eq_true rfl) rfl (Nat.le_of_ble_eq_true rfl) he rfl
theorem X9_differs_30 (he : iEv mX9_indexOf [.ref p, .int x0, .int x1] h (some (.int rv)) h2) (ho : iObj h p 9 = true) : iWp 8 mX9_differs 30 [a0, a1, a2, a3, a4] [.int x1, .int x0, .ref p] h Q = iWp 8 mX9_differs 33 [a0, a1, a2, a3, a4] [.int rv] h2 Q := iWp_cV dX9_differs_30 fK_9_230 rfl rfl ho (Nat.le_of_ble_eq_true rfl) (Nat.le_of_ble_eq_true rfl) rfl (Nat.le_of_ble_eq_true rfl) he rfl
theorem X9_differs_33 : iWp d mX9_differs 33 [a0, a1, a2, a3, a4] (.int x :: st) h Q = iWp d mX9_differs 35 [a0, a1, a2, iClr a3, .int x] st h Q := w_istore dX9_differs_33 (Nat.le_of_ble_eq_true rfl) rfl
theorem X9_differs_35 : iWp d mX9_differs 35 [a0, a1, a2, a3, .int x] st h Q = iWp d mX9_differs 37 [a0, a1, a2, a3, .int x] (.int x :: st) h Q := w_iload dX9_differs_35 rfl
theorem X9_differs_37 : iWp d mX9_differs 37 [a0, a1, a2, a3, a4] st h Q = iWp d mX9_differs 38 [a0, a1, a2, a3, a4] (.int (-1) :: st) h Q := w_iconst dX9_differs_37 rfl
theorem X9_differs_38 : iWp d mX9_differs 38 [a0, a1, a2, a3, a4] (.int y :: .int x :: st) h Q = if x = y then iWp d mX9_differs 104 [a0, a1, a2, a3, a4] st h Q else iWp d mX9_differs 41 [a0, a1, a2, a3, a4] st h Q := w_icmp_eq dX9_differs_38 rfl
theorem X9_differs_41 : iWp d mX9_differs 41 [.ref p, a1, a2, a3, a4] st h Q = iWp d mX9_differs 42 [.ref p, a1, a2, a3, a4] (.ref p :: st) h Q := w_aload_n dX9_differs_41 rfl
theorem X9_differs_42 : iWp d mX9_differs 42 [a0, a1, a2, a3, a4] (.ref p :: st) h Q = iOb (iGet h p 9 3) (fun v => iWp d mX9_differs 45 [a0, a1, a2, a3, a4] (v :: st) h Q) := w_getf dX9_differs_42 fF_9_16
theorem X9_differs_45 : iWp d mX9_differs 45 [a0, a1, a2, a3, a4] st h Q = iWp d mX9_differs 47 [a0, a1, a2, a3, a4] (.int 64 :: st) h Q := w_bipush dX9_differs_45 rfl
theorem X9_differs_47 : iWp d mX9_differs 47 [a0, a1, .int x, a3, a4] st h Q = iWp d mX9_differs 48 [a0, a1, .int x, a3, a4] (.int x :: st) h Q := w_iload_n dX9_differs_47 rfl
theorem X9_differs_48 : iWp d mX9_differs 48 [a0, a1, a2, a3, a4] (.int y :: .int x :: st) h Q = iWp d mX9_differs 49 [a0, a1, a2, a3, a4] (.int (x * y) :: st) h Q := w_imul dX9_differs_48
theorem X9_differs_49 : iWp d mX9_differs 49 [a0, a1, a2, a3, .int x] st h Q = iWp d mX9_differs 51 [a0, a1, a2, a3, .int x] (.int x :: st) h Q := w_iload dX9_differs_49 rfl
theorem X9_differs_51 : iWp d mX9_differs 51 [a0, a1, a2, a3, a4] (.int y :: .int x :: st) h Q = iWp d mX9_differs 52 [a0, a1, a2, a3, a4] (.int (x + y) :: st) h Q := w_iadd dX9_differs_51
theorem X9_differs_52 : iWp d mX9_differs 52 [a0, a1, a2, a3, a4] (.int x :: .ref p :: st) h Q = iOb (iLdI h p x) (fun v => iWp d mX9_differs 53 [a0, a1, a2, a3, a4] (.int v :: st) h Q) := w_iaload dX9_differs_52
theorem X9_differs_53 : iWp d mX9_differs 53 [.ref p, a1, a2, a3, a4] st h Q = iWp d mX9_differs 54 [.ref p, a1, a2, a3, a4] (.ref p :: st) h Q := w_aload_n dX9_differs_53 rfl
theorem X9_differs_54 : iWp d mX9_differs 54 [a0, a1, a2, a3, a4] (.ref p :: st) h Q = iOb (iGet h p 9 3) (fun v => iWp d mX9_differs 57 [a0, a1, a2, a3, a4] (v :: st) h Q) := w_getf dX9_differs_54 fF_9_16
theorem X9_differs_57 : iWp d mX9_differs 57 [a0, a1, a2, a3, a4] st h Q = iWp d mX9_differs 59 [a0, a1, a2, a3, a4] (.int 64 :: st) h Q := w_bipush dX9_differs_57 rfl
theorem X9_differs_59 : iWp d mX9_differs 59 [a0, .int x, a2, a3, a4] st h Q = iWp d mX9_differs 60 [a0, .int x, a2, a3, a4] (.int x :: st) h Q := w_iload_n dX9_differs_59 rfl
theorem X9_differs_60 : iWp d mX9_differs 60 [a0, a1, a2, a3, a4] (.int y :: .int x :: st) h Q = iWp d mX9_differs 61 [a0, a1, a2, a3, a4] (.int (x * y) :: st) h Q := w_imul dX9_differs_60
theorem X9_differs_61 : iWp d mX9_differs 61 [a0, a1, a2, .int x, a4] st h Q = iWp d mX9_differs 62 [a0, a1, a2, .int x, a4] (.int x :: st) h Q := w_iload_n dX9_differs_61 rfl
theorem X9_differs_62 : iWp d mX9_differs 62 [a0, a1, a2, a3, a4] (.int y :: .int x :: st) h Q = iWp d mX9_differs 63 [a0, a1, a2, a3, a4] (.int (x + y) :: st) h Q := w_iadd dX9_differs_62
theorem X9_differs_63 : iWp d mX9_differs 63 [a0, a1, a2, a3, a4] (.int x :: .ref p :: st) h Q = iOb (iLdI h p x) (fun v => iWp d mX9_differs 64 [a0, a1, a2, a3, a4] (.int v :: st) h Q) := w_iaload dX9_differs_63
theorem X9_differs_64 : iWp d mX9_differs 64 [a0, a1, a2, a3, a4] (.int y :: .int x :: st) h Q = if x = y then iWp d mX9_differs 104 [a0, a1, a2, a3, a4] st h Q else iWp d mX9_differs 67 [a0, a1, a2, a3, a4] st h Q := w_icmp_eq dX9_differs_64 rfl
theorem X9_differs_67 : iWp d mX9_differs 67 [.ref p, a1, a2, a3, a4] st h Q = iWp d mX9_differs 68 [.ref p, a1, a2, a3, a4] (.ref p :: st) h Q := w_aload_n dX9_differs_67 rfl
theorem X9_differs_68 : iWp d mX9_differs 68 [a0, a1, a2, a3, a4] st h Q = iWp d mX9_differs 69 [a0, a1, a2, a3, a4] (.int 0 :: st) h Q := w_iconst dX9_differs_68 rfl
theorem X9_differs_69 : iWp d mX9_differs 69 [.ref p, a1, a2, a3, a4] st h Q = iWp d mX9_differs 70 [.ref p, a1, a2, a3, a4] (.ref p :: st) h Q := w_aload_n dX9_differs_69 rfl
theorem X9_differs_70 : iWp d mX9_differs 70 [a0, .int x, a2, a3, a4] st h Q = iWp d mX9_differs 71 [a0, .int x, a2, a3, a4] (.int x :: st) h Q := w_iload_n dX9_differs_70 rfl
theorem X9_differs_71 : iWp d mX9_differs 71 [a0, a1, a2, .int x, a4] st h Q = iWp d mX9_differs 72 [a0, a1, a2, .int x, a4] (.int x :: st) h Q := w_iload_n dX9_differs_71 rfl
theorem X9_differs_72 (he : iEv mX9_keyOf [.ref p, .int x0, .int x1] h (some (.int rv)) h2) (ho : iObj h p 9 = true) : iWp 8 mX9_differs 72 [a0, a1, a2, a3, a4] [.int x1, .int x0, .ref p, .int r0, .ref t1] h Q = iWp 8 mX9_differs 75 [a0, a1, a2, a3, a4] [.int rv, .int r0, .ref t1] h2 Q := iWp_cV dX9_differs_72 fK_9_211 rfl rfl ho (Nat.le_of_ble_eq_true rfl) (Nat.le_of_ble_eq_true rfl) rfl (Nat.le_of_ble_eq_true rfl) he rfl
theorem X9_differs_75 : iWp d mX9_differs 75 [.ref p, a1, a2, a3, a4] st h Q = iWp d mX9_differs 76 [.ref p, a1, a2, a3, a4] (.ref p :: st) h Q := w_aload_n dX9_differs_75 rfl
theorem X9_differs_76 : iWp d mX9_differs 76 [a0, a1, a2, a3, a4] (.ref p :: st) h Q = iOb (iGet h p 9 3) (fun v => iWp d mX9_differs 79 [a0, a1, a2, a3, a4] (v :: st) h Q) := w_getf dX9_differs_76 fF_9_16
theorem X9_differs_79 : iWp d mX9_differs 79 [a0, a1, a2, a3, a4] st h Q = iWp d mX9_differs 81 [a0, a1, a2, a3, a4] (.int 64 :: st) h Q := w_bipush dX9_differs_79 rfl
theorem X9_differs_81 : iWp d mX9_differs 81 [a0, .int x, a2, a3, a4] st h Q = iWp d mX9_differs 82 [a0, .int x, a2, a3, a4] (.int x :: st) h Q := w_iload_n dX9_differs_81 rfl
theorem X9_differs_82 : iWp d mX9_differs 82 [a0, a1, a2, a3, a4] (.int y :: .int x :: st) h Q = iWp d mX9_differs 83 [a0, a1, a2, a3, a4] (.int (x * y) :: st) h Q := w_imul dX9_differs_82
theorem X9_differs_83 : iWp d mX9_differs 83 [a0, a1, a2, .int x, a4] st h Q = iWp d mX9_differs 84 [a0, a1, a2, .int x, a4] (.int x :: st) h Q := w_iload_n dX9_differs_83 rfl
theorem X9_differs_84 : iWp d mX9_differs 84 [a0, a1, a2, a3, a4] (.int y :: .int x :: st) h Q = iWp d mX9_differs 85 [a0, a1, a2, a3, a4] (.int (x + y) :: st) h Q := w_iadd dX9_differs_84
theorem X9_differs_85 : iWp d mX9_differs 85 [a0, a1, a2, a3, a4] (.int x :: .ref p :: st) h Q = iOb (iLdI h p x) (fun v => iWp d mX9_differs 86 [a0, a1, a2, a3, a4] (.int v :: st) h Q) := w_iaload dX9_differs_85
theorem X9_differs_86 : iWp d mX9_differs 86 [.ref p, a1, a2, a3, a4] st h Q = iWp d mX9_differs 87 [.ref p, a1, a2, a3, a4] (.ref p :: st) h Q := w_aload_n dX9_differs_86 rfl
theorem X9_differs_87 : iWp d mX9_differs 87 [a0, a1, a2, a3, a4] (.ref p :: st) h Q = iOb (iGet h p 9 3) (fun v => iWp d mX9_differs 90 [a0, a1, a2, a3, a4] (v :: st) h Q) := w_getf dX9_differs_87 fF_9_16
theorem X9_differs_90 : iWp d mX9_differs 90 [a0, a1, a2, a3, a4] st h Q = iWp d mX9_differs 92 [a0, a1, a2, a3, a4] (.int 64 :: st) h Q := w_bipush dX9_differs_90 rfl
theorem X9_differs_92 : iWp d mX9_differs 92 [a0, a1, .int x, a3, a4] st h Q = iWp d mX9_differs 93 [a0, a1, .int x, a3, a4] (.int x :: st) h Q := w_iload_n dX9_differs_92 rfl
theorem X9_differs_93 : iWp d mX9_differs 93 [a0, a1, a2, a3, a4] (.int y :: .int x :: st) h Q = iWp d mX9_differs 94 [a0, a1, a2, a3, a4] (.int (x * y) :: st) h Q := w_imul dX9_differs_93
theorem X9_differs_94 : iWp d mX9_differs 94 [a0, a1, a2, a3, .int x] st h Q = iWp d mX9_differs 96 [a0, a1, a2, a3, .int x] (.int x :: st) h Q := w_iload dX9_differs_94 rfl
theorem X9_differs_96 : iWp d mX9_differs 96 [a0, a1, a2, a3, a4] (.int y :: .int x :: st) h Q = iWp d mX9_differs 97 [a0, a1, a2, a3, a4] (.int (x + y) :: st) h Q := w_iadd dX9_differs_96
theorem X9_differs_97 : iWp d mX9_differs 97 [a0, a1, a2, a3, a4] (.int x :: .ref p :: st) h Q = iOb (iLdI h p x) (fun v => iWp d mX9_differs 98 [a0, a1, a2, a3, a4] (.int v :: st) h Q) := w_iaload dX9_differs_97
theorem X9_differs_98 : iWp d mX9_differs 98 [a0, a1, a2, a3, a4] st h Q = iWp d mX9_differs 99 [a0, a1, a2, a3, a4] (.int 0 :: st) h Q := w_iconst dX9_differs_98 rfl
theorem X9_differs_99 : iWp d mX9_differs 99 [a0, a1, a2, a3, a4] st h Q = iWp d mX9_differs 100 [a0, a1, a2, a3, a4] (.int 0 :: st) h Q := w_iconst dX9_differs_99 rfl
theorem X9_differs_100 : iWp d mX9_differs 100 [a0, a1, a2, a3, a4] st h Q = iWp d mX9_differs 101 [a0, a1, a2, a3, a4] (.int 0 :: st) h Q := w_iconst dX9_differs_100 rfl
theorem X9_differs_101 (he : iEv mX9_goes [.ref p, .int x0, .int x1, .int x2, .int x3, .int x4, .int x5, .int x6] h none h2) (ho : iObj h p 9 = true) : iWp 8 mX9_differs 101 [a0, a1, a2, a3, a4] [.int x6, .int x5, .int x4, .int x3, .int x2, .int x1, .int x0, .ref p] h Q = iWp 8 mX9_differs 104 [a0, a1, a2, a3, a4] [] h2 Q := iWp_cV dX9_differs_101 fK_9_233 rfl rfl ho (Nat.le_of_ble_eq_true rfl) (Nat.le_of_ble_eq_true rfl) rfl (Nat.le_of_ble_eq_true rfl) he rfl
theorem X9_differs_104 : iWp d mX9_differs 104 [a0, a1, a2, .int x, a4] st h Q = iWp d mX9_differs 107 [a0, a1, iClr a2, .int (x + 1), a4] st h Q := w_iinc dX9_differs_104 rfl (Nat.le_of_ble_eq_true rfl) rfl
theorem X9_differs_107 : iWp d mX9_differs 107 [a0, a1, a2, a3, a4] st h Q = iWp d mX9_differs 12 [a0, a1, a2, a3, a4] st h Q := w_goto dX9_differs_107 rfl
theorem X9_differs_110 : iWp d mX9_differs 110 [a0, a1, a2, a3, a4] st h Q = iWp d mX9_differs 111 [a0, a1, a2, a3, a4] (.int 0 :: st) h Q := w_iconst dX9_differs_110 rfl
theorem X9_differs_111 : iWp d mX9_differs 111 [a0, a1, a2, a3, a4] (.int x :: st) h Q = iWp d mX9_differs 112 [a0, a1, iClr a2, .int x, a4] st h Q := w_istore_n dX9_differs_111 (Nat.le_of_ble_eq_true rfl) rfl
theorem X9_differs_112 : iWp d mX9_differs 112 [a0, a1, a2, .int x, a4] st h Q = iWp d mX9_differs 113 [a0, a1, a2, .int x, a4] (.int x :: st) h Q := w_iload_n dX9_differs_112 rfl
theorem X9_differs_113 : iWp d mX9_differs 113 [.ref p, a1, a2, a3, a4] st h Q = iWp d mX9_differs 114 [.ref p, a1, a2, a3, a4] (.ref p :: st) h Q := w_aload_n dX9_differs_113 rfl
theorem X9_differs_114 : iWp d mX9_differs 114 [a0, a1, a2, a3, a4] (.ref p :: st) h Q = iOb (iGet h p 9 1) (fun v => iWp d mX9_differs 117 [a0, a1, a2, a3, a4] (v :: st) h Q) := w_getf dX9_differs_114 fF_9_7
theorem X9_differs_117 : iWp d mX9_differs 117 [a0, a1, .int x, a3, a4] st h Q = iWp d mX9_differs 118 [a0, a1, .int x, a3, a4] (.int x :: st) h Q := w_iload_n dX9_differs_117 rfl
theorem X9_differs_118 : iWp d mX9_differs 118 [a0, a1, a2, a3, a4] (.int x :: .ref p :: st) h Q = iOb (iLdI h p x) (fun v => iWp d mX9_differs 119 [a0, a1, a2, a3, a4] (.int v :: st) h Q) := w_iaload dX9_differs_118
theorem X9_differs_119 : iWp d mX9_differs 119 [a0, a1, a2, a3, a4] (.int y :: .int x :: st) h Q = if y ≤ x then iWp d mX9_differs 135 [a0, a1, a2, a3, a4] st h Q else iWp d mX9_differs 122 [a0, a1, a2, a3, a4] st h Q := w_icmp_ge dX9_differs_119 rfl
theorem X9_differs_122 : iWp d mX9_differs 122 [.ref p, a1, a2, a3, a4] st h Q = iWp d mX9_differs 123 [.ref p, a1, a2, a3, a4] (.ref p :: st) h Q := w_aload_n dX9_differs_122 rfl
theorem X9_differs_123 : iWp d mX9_differs 123 [a0, .int x, a2, a3, a4] st h Q = iWp d mX9_differs 124 [a0, .int x, a2, a3, a4] (.int x :: st) h Q := w_iload_n dX9_differs_123 rfl
theorem X9_differs_124 : iWp d mX9_differs 124 [a0, a1, .int x, a3, a4] st h Q = iWp d mX9_differs 125 [a0, a1, .int x, a3, a4] (.int x :: st) h Q := w_iload_n dX9_differs_124 rfl
theorem X9_differs_125 : iWp d mX9_differs 125 [a0, a1, a2, .int x, a4] st h Q = iWp d mX9_differs 126 [a0, a1, a2, .int x, a4] (.int x :: st) h Q := w_iload_n dX9_differs_125 rfl
theorem X9_differs_126 (he : iEv mX9_ordered [.ref p, .int x0, .int x1, .int x2] h none h2) (ho : iObj h p 9 = true) : iWp 8 mX9_differs 126 [a0, a1, a2, a3, a4] [.int x2, .int x1, .int x0, .ref p] h Q = iWp 8 mX9_differs 129 [a0, a1, a2, a3, a4] [] h2 Q := iWp_cV dX9_differs_126 fK_9_236 rfl rfl ho (Nat.le_of_ble_eq_true rfl) (Nat.le_of_ble_eq_true rfl) rfl (Nat.le_of_ble_eq_true rfl) he rfl
theorem X9_differs_129 : iWp d mX9_differs 129 [a0, a1, a2, .int x, a4] st h Q = iWp d mX9_differs 132 [a0, a1, iClr a2, .int (x + 1), a4] st h Q := w_iinc dX9_differs_129 rfl (Nat.le_of_ble_eq_true rfl) rfl
theorem X9_differs_132 : iWp d mX9_differs 132 [a0, a1, a2, a3, a4] st h Q = iWp d mX9_differs 112 [a0, a1, a2, a3, a4] st h Q := w_goto dX9_differs_132 rfl
theorem X9_differs_135 : iWp d mX9_differs 135 [.ref p, a1, a2, a3, a4] st h Q = iWp d mX9_differs 136 [.ref p, a1, a2, a3, a4] (.ref p :: st) h Q := w_aload_n dX9_differs_135 rfl
theorem X9_differs_136 : iWp d mX9_differs 136 [a0, a1, a2, a3, a4] (.ref p :: st) h Q = iOb (iGet h p 9 1) (fun v => iWp d mX9_differs 139 [a0, a1, a2, a3, a4] (v :: st) h Q) := w_getf dX9_differs_136 fF_9_7
theorem X9_differs_139 : iWp d mX9_differs 139 [a0, .int x, a2, a3, a4] st h Q = iWp d mX9_differs 140 [a0, .int x, a2, a3, a4] (.int x :: st) h Q := w_iload_n dX9_differs_139 rfl
theorem X9_differs_140 : iWp d mX9_differs 140 [a0, a1, a2, a3, a4] (.int x :: .ref p :: st) h Q = iOb (iLdI h p x) (fun v => iWp d mX9_differs 141 [a0, a1, a2, a3, a4] (.int v :: st) h Q) := w_iaload dX9_differs_140
theorem X9_differs_141 : iWp d mX9_differs 141 [a0, a1, a2, a3, a4] st h Q = iWp d mX9_differs 142 [a0, a1, a2, a3, a4] (.int 1 :: st) h Q := w_iconst dX9_differs_141 rfl
theorem X9_differs_142 : iWp d mX9_differs 142 [a0, a1, a2, a3, a4] (.int y :: .int x :: st) h Q = iWp d mX9_differs 143 [a0, a1, a2, a3, a4] (.int (x - y) :: st) h Q := w_isub dX9_differs_142
theorem X9_differs_143 : iWp d mX9_differs 143 [a0, a1, a2, a3, a4] (.int x :: st) h Q = iWp d mX9_differs 144 [a0, a1, iClr a2, .int x, a4] st h Q := w_istore_n dX9_differs_143 (Nat.le_of_ble_eq_true rfl) rfl
theorem X9_differs_144 : iWp d mX9_differs 144 [a0, a1, a2, .int x, a4] st h Q = iWp d mX9_differs 145 [a0, a1, a2, .int x, a4] (.int x :: st) h Q := w_iload_n dX9_differs_144 rfl
theorem X9_differs_145 : iWp d mX9_differs 145 [a0, a1, a2, a3, a4] (.int x :: st) h Q = if x < 0 then iWp d mX9_differs 216 [a0, a1, a2, a3, a4] st h Q else iWp d mX9_differs 148 [a0, a1, a2, a3, a4] st h Q := w_ifc_lt dX9_differs_145 rfl
theorem X9_differs_148 : iWp d mX9_differs 148 [.ref p, a1, a2, a3, a4] st h Q = iWp d mX9_differs 149 [.ref p, a1, a2, a3, a4] (.ref p :: st) h Q := w_aload_n dX9_differs_148 rfl
theorem X9_differs_149 : iWp d mX9_differs 149 [a0, a1, .int x, a3, a4] st h Q = iWp d mX9_differs 150 [a0, a1, .int x, a3, a4] (.int x :: st) h Q := w_iload_n dX9_differs_149 rfl
theorem X9_differs_150 : iWp d mX9_differs 150 [.ref p, a1, a2, a3, a4] st h Q = iWp d mX9_differs 151 [.ref p, a1, a2, a3, a4] (.ref p :: st) h Q := w_aload_n dX9_differs_150 rfl
theorem X9_differs_151 : iWp d mX9_differs 151 [a0, .int x, a2, a3, a4] st h Q = iWp d mX9_differs 152 [a0, .int x, a2, a3, a4] (.int x :: st) h Q := w_iload_n dX9_differs_151 rfl
theorem X9_differs_152 : iWp d mX9_differs 152 [a0, a1, a2, .int x, a4] st h Q = iWp d mX9_differs 153 [a0, a1, a2, .int x, a4] (.int x :: st) h Q := w_iload_n dX9_differs_152 rfl
theorem X9_differs_153 (he : iEv mX9_keyOf [.ref p, .int x0, .int x1] h (some (.int rv)) h2) (ho : iObj h p 9 = true) : iWp 8 mX9_differs 153 [a0, a1, a2, a3, a4] [.int x1, .int x0, .ref p, .int r0, .ref t1] h Q = iWp 8 mX9_differs 156 [a0, a1, a2, a3, a4] [.int rv, .int r0, .ref t1] h2 Q := iWp_cV dX9_differs_153 fK_9_211 rfl rfl ho (Nat.le_of_ble_eq_true rfl) (Nat.le_of_ble_eq_true rfl) rfl (Nat.le_of_ble_eq_true rfl) he rfl
theorem X9_differs_156 (he : iEv mX9_indexOf [.ref p, .int x0, .int x1] h (some (.int rv)) h2) (ho : iObj h p 9 = true) : iWp 8 mX9_differs 156 [a0, a1, a2, a3, a4] [.int x1, .int x0, .ref p] h Q = iWp 8 mX9_differs 159 [a0, a1, a2, a3, a4] [.int rv] h2 Q := iWp_cV dX9_differs_156 fK_9_230 rfl rfl ho (Nat.le_of_ble_eq_true rfl) (Nat.le_of_ble_eq_true rfl) rfl (Nat.le_of_ble_eq_true rfl) he rfl
theorem X9_differs_159 : iWp d mX9_differs 159 [a0, a1, a2, a3, a4] st h Q = iWp d mX9_differs 160 [a0, a1, a2, a3, a4] (.int (-1) :: st) h Q := w_iconst dX9_differs_159 rfl
theorem X9_differs_160 : iWp d mX9_differs 160 [a0, a1, a2, a3, a4] (.int y :: .int x :: st) h Q = if x = y then iWp d mX9_differs 166 [a0, a1, a2, a3, a4] st h Q else iWp d mX9_differs 163 [a0, a1, a2, a3, a4] st h Q := w_icmp_eq dX9_differs_160 rfl
theorem X9_differs_163 : iWp d mX9_differs 163 [a0, a1, a2, a3, a4] st h Q = iWp d mX9_differs 210 [a0, a1, a2, a3, a4] st h Q := w_goto dX9_differs_163 rfl
theorem X9_differs_166 : iWp d mX9_differs 166 [.ref p, a1, a2, a3, a4] st h Q = iWp d mX9_differs 167 [.ref p, a1, a2, a3, a4] (.ref p :: st) h Q := w_aload_n dX9_differs_166 rfl
theorem X9_differs_167 : iWp d mX9_differs 167 [.ref p, a1, a2, a3, a4] st h Q = iWp d mX9_differs 168 [.ref p, a1, a2, a3, a4] (.ref p :: st) h Q := w_aload_n dX9_differs_167 rfl
theorem X9_differs_168 : iWp d mX9_differs 168 [a0, .int x, a2, a3, a4] st h Q = iWp d mX9_differs 169 [a0, .int x, a2, a3, a4] (.int x :: st) h Q := w_iload_n dX9_differs_168 rfl
theorem X9_differs_169 : iWp d mX9_differs 169 [a0, a1, a2, .int x, a4] st h Q = iWp d mX9_differs 170 [a0, a1, a2, .int x, a4] (.int x :: st) h Q := w_iload_n dX9_differs_169 rfl
theorem X9_differs_170 (he : iEv mX9_keyOf [.ref p, .int x0, .int x1] h (some (.int rv)) h2) (ho : iObj h p 9 = true) : iWp 8 mX9_differs 170 [a0, a1, a2, a3, a4] [.int x1, .int x0, .ref p, .ref t0] h Q = iWp 8 mX9_differs 173 [a0, a1, a2, a3, a4] [.int rv, .ref t0] h2 Q := iWp_cV dX9_differs_170 fK_9_211 rfl rfl ho (Nat.le_of_ble_eq_true rfl) (Nat.le_of_ble_eq_true rfl) rfl (Nat.le_of_ble_eq_true rfl) he rfl
theorem X9_differs_173 (he : iEv mX9_find [.ref p, .int x0] h (some (.int rv)) h2) (ho : iObj h p 9 = true) : iWp 8 mX9_differs 173 [a0, a1, a2, a3, a4] [.int x0, .ref p] h Q = iWp 8 mX9_differs 176 [a0, a1, a2, a3, a4] [.int rv] h2 Q := iWp_cV dX9_differs_173 fK_9_153 rfl rfl ho (Nat.le_of_ble_eq_true rfl) (Nat.le_of_ble_eq_true rfl) rfl (Nat.le_of_ble_eq_true rfl) he rfl
theorem X9_differs_176 : iWp d mX9_differs 176 [a0, a1, a2, a3, a4] (.int x :: st) h Q = iWp d mX9_differs 178 [a0, a1, a2, iClr a3, .int x] st h Q := w_istore dX9_differs_176 (Nat.le_of_ble_eq_true rfl) rfl
theorem X9_differs_178 : iWp d mX9_differs 178 [.ref p, a1, a2, a3, a4] st h Q = iWp d mX9_differs 179 [.ref p, a1, a2, a3, a4] (.ref p :: st) h Q := w_aload_n dX9_differs_178 rfl
theorem X9_differs_179 : iWp d mX9_differs 179 [a0, a1, a2, a3, a4] st h Q = iWp d mX9_differs 180 [a0, a1, a2, a3, a4] (.int 1 :: st) h Q := w_iconst dX9_differs_179 rfl
theorem X9_differs_180 : iWp d mX9_differs 180 [.ref p, a1, a2, a3, a4] st h Q = iWp d mX9_differs 181 [.ref p, a1, a2, a3, a4] (.ref p :: st) h Q := w_aload_n dX9_differs_180 rfl
theorem X9_differs_181 : iWp d mX9_differs 181 [a0, .int x, a2, a3, a4] st h Q = iWp d mX9_differs 182 [a0, .int x, a2, a3, a4] (.int x :: st) h Q := w_iload_n dX9_differs_181 rfl
theorem X9_differs_182 : iWp d mX9_differs 182 [a0, a1, a2, .int x, a4] st h Q = iWp d mX9_differs 183 [a0, a1, a2, .int x, a4] (.int x :: st) h Q := w_iload_n dX9_differs_182 rfl
theorem X9_differs_183 (he : iEv mX9_keyOf [.ref p, .int x0, .int x1] h (some (.int rv)) h2) (ho : iObj h p 9 = true) : iWp 8 mX9_differs 183 [a0, a1, a2, a3, a4] [.int x1, .int x0, .ref p, .int r0, .ref t1] h Q = iWp 8 mX9_differs 186 [a0, a1, a2, a3, a4] [.int rv, .int r0, .ref t1] h2 Q := iWp_cV dX9_differs_183 fK_9_211 rfl rfl ho (Nat.le_of_ble_eq_true rfl) (Nat.le_of_ble_eq_true rfl) rfl (Nat.le_of_ble_eq_true rfl) he rfl
theorem X9_differs_186 : iWp d mX9_differs 186 [.ref p, a1, a2, a3, a4] st h Q = iWp d mX9_differs 187 [.ref p, a1, a2, a3, a4] (.ref p :: st) h Q := w_aload_n dX9_differs_186 rfl
theorem X9_differs_187 : iWp d mX9_differs 187 [a0, a1, a2, a3, a4] (.ref p :: st) h Q = iOb (iGet h p 9 20) (fun v => iWp d mX9_differs 190 [a0, a1, a2, a3, a4] (v :: st) h Q) := w_getf dX9_differs_187 fF_9_47
theorem X9_differs_190 : iWp d mX9_differs 190 [a0, a1, a2, a3, .int x] st h Q = iWp d mX9_differs 192 [a0, a1, a2, a3, .int x] (.int x :: st) h Q := w_iload dX9_differs_190 rfl
theorem X9_differs_192 : iWp d mX9_differs 192 [a0, a1, a2, a3, a4] (.int x :: .ref p :: st) h Q = iOb (iLdI h p x) (fun v => iWp d mX9_differs 193 [a0, a1, a2, a3, a4] (.int v :: st) h Q) := w_iaload dX9_differs_192
theorem X9_differs_193 : iWp d mX9_differs 193 [.ref p, a1, a2, a3, a4] st h Q = iWp d mX9_differs 194 [.ref p, a1, a2, a3, a4] (.ref p :: st) h Q := w_aload_n dX9_differs_193 rfl
theorem X9_differs_194 : iWp d mX9_differs 194 [a0, a1, a2, a3, .int x] st h Q = iWp d mX9_differs 196 [a0, a1, a2, a3, .int x] (.int x :: st) h Q := w_iload dX9_differs_194 rfl
theorem X9_differs_196 (he : iEv mX9_parentKey [.ref p, .int x0] h (some (.int rv)) h2) (ho : iObj h p 9 = true) : iWp 8 mX9_differs 196 [a0, a1, a2, a3, a4] [.int x0, .ref p, .int r0, .int r1, .int r2, .ref t3] h Q = iWp 8 mX9_differs 199 [a0, a1, a2, a3, a4] [.int rv, .int r0, .int r1, .int r2, .ref t3] h2 Q := iWp_cV dX9_differs_196 fK_9_172 rfl rfl ho (Nat.le_of_ble_eq_true rfl) (Nat.le_of_ble_eq_true rfl) rfl (Nat.le_of_ble_eq_true rfl) he rfl
theorem X9_differs_199 : iWp d mX9_differs 199 [.ref p, a1, a2, a3, a4] st h Q = iWp d mX9_differs 200 [.ref p, a1, a2, a3, a4] (.ref p :: st) h Q := w_aload_n dX9_differs_199 rfl
theorem X9_differs_200 : iWp d mX9_differs 200 [a0, a1, a2, a3, .int x] st h Q = iWp d mX9_differs 202 [a0, a1, a2, a3, .int x] (.int x :: st) h Q := w_iload dX9_differs_200 rfl
theorem X9_differs_202 (he : iEv mX9_place [.ref p, .int x0] h (some (.int rv)) h2) (ho : iObj h p 9 = true) : iWp 8 mX9_differs 202 [a0, a1, a2, a3, a4] [.int x0, .ref p, .int r0, .int r1, .int r2, .int r3, .ref t4] h Q = iWp 8 mX9_differs 205 [a0, a1, a2, a3, a4] [.int rv, .int r0, .int r1, .int r2, .int r3, .ref t4] h2 Q := iWp_cV dX9_differs_202 fK_9_175 rfl rfl ho (Nat.le_of_ble_eq_true rfl) (Nat.le_of_ble_eq_true rfl) rfl (Nat.le_of_ble_eq_true rfl) he rfl
theorem X9_differs_205 : iWp d mX9_differs 205 [a0, a1, a2, a3, a4] st h Q = iWp d mX9_differs 206 [a0, a1, a2, a3, a4] (.int 0 :: st) h Q := w_iconst dX9_differs_205 rfl
theorem X9_differs_206 : iWp d mX9_differs 206 [a0, a1, a2, a3, a4] st h Q = iWp d mX9_differs 207 [a0, a1, a2, a3, a4] (.int 0 :: st) h Q := w_iconst dX9_differs_206 rfl
theorem X9_differs_207 (he : iEv mX9_goes [.ref p, .int x0, .int x1, .int x2, .int x3, .int x4, .int x5, .int x6] h none h2) (ho : iObj h p 9 = true) : iWp 8 mX9_differs 207 [a0, a1, a2, a3, a4] [.int x6, .int x5, .int x4, .int x3, .int x2, .int x1, .int x0, .ref p] h Q = iWp 8 mX9_differs 210 [a0, a1, a2, a3, a4] [] h2 Q := iWp_cV dX9_differs_207 fK_9_233 rfl rfl ho (Nat.le_of_ble_eq_true rfl) (Nat.le_of_ble_eq_true rfl) rfl (Nat.le_of_ble_eq_true rfl) he rfl
theorem X9_differs_210 : iWp d mX9_differs 210 [a0, a1, a2, .int x, a4] st h Q = iWp d mX9_differs 213 [a0, a1, iClr a2, .int (x + (-1)), a4] st h Q := w_iinc dX9_differs_210 rfl (Nat.le_of_ble_eq_true rfl) rfl
theorem X9_differs_213 : iWp d mX9_differs 213 [a0, a1, a2, a3, a4] st h Q = iWp d mX9_differs 144 [a0, a1, a2, a3, a4] st h Q := w_goto dX9_differs_213 rfl
theorem X9_differs_216 : iWp d mX9_differs 216 [a0, a1, a2, a3, a4] [] h Q = Q none h := w_ret dX9_differs_216 rfl
theorem I9_differs {Q : Option Value → iHp → Prop} (hw : iWp 8 mX9_differs 0 [.ref p, .int x0, .int x1, iU, iU] [] h Q) : ∃ r h1, iEv mX9_differs [.ref p, .int x0, .int x1] h r h1 ∧ Q r h1 := iEv_of (by rfl) rfl hw
theorem J9_differs {r : Option Value} {h1 : iHp} (hw : iWp 8 mX9_differs 0 [.ref p, .int x0, .int x1, iU, iU] [] h (fun r' h' => r' = r ∧ h' = h1)) : iEv mX9_differs [.ref p, .int x0, .int x1] h r h1 := iEv_ev (by rfl) rfl hw
theorem X9_does_0 : iWp d mX9_does 0 [.ref p, a1, a2, a3, a4] st h Q = iWp d mX9_does 1 [.ref p, a1, a2, a3, a4] (.ref p :: st) h Q := w_aload_n dX9_does_0 rfl
theorem X9_does_1 : iWp d mX9_does 1 [a0, .ref p, a2, a3, a4] st h Q = iWp d mX9_does 2 [a0, .ref p, a2, a3, a4] (.ref p :: st) h Q := w_aload_n dX9_does_1 rfl
theorem X9_does_1n : iWp d mX9_does 1 [a0, .null, a2, a3, a4] st h Q = iWp d mX9_does 2 [a0, .null, a2, a3, a4] (.null :: st) h Q := w_aload_nN dX9_does_1 rfl
theorem X9_does_2 : iWp d mX9_does 2 [a0, a1, .int x, a3, a4] st h Q = iWp d mX9_does 3 [a0, a1, .int x, a3, a4] (.int x :: st) h Q := w_iload_n dX9_does_2 rfl
theorem X9_does_3 : iWp d mX9_does 3 [a0, a1, a2, a3, a4] st h Q = iWp d mX9_does 4 [a0, a1, a2, a3, a4] (.int 1 :: st) h Q := w_iconst dX9_does_3 rfl
theorem X9_does_4 : iWp d mX9_does 4 [a0, a1, a2, a3, a4] (.int y :: .int x :: st) h Q = iWp d mX9_does 5 [a0, a1, a2, a3, a4] (.int (x + y) :: st) h Q := w_iadd dX9_does_4
theorem X9_does_5 : iWp d mX9_does 5 [a0, a1, a2, a3, a4] (.int x :: .ref p :: st) h Q = iOb (iLdI h p x) (fun v => iWp d mX9_does 6 [a0, a1, a2, a3, a4] (.int v :: st) h Q) := w_iaload dX9_does_5
theorem X9_does_6 (he : iEv mX9_find [.ref p, .int x0] h (some (.int rv)) h2) (ho : iObj h p 9 = true) : iWp 5 mX9_does 6 [a0, a1, a2, a3, a4] [.int x0, .ref p] h Q = iWp 5 mX9_does 9 [a0, a1, a2, a3, a4] [.int rv] h2 Q := iWp_cV dX9_does_6 fK_9_153 rfl rfl ho (Nat.le_of_ble_eq_true rfl) (Nat.le_of_ble_eq_true rfl) rfl (Nat.le_of_ble_eq_true rfl) he rfl
theorem X9_does_9 : iWp d mX9_does 9 [a0, a1, a2, a3, a4] (.int x :: st) h Q = iWp d mX9_does 10 [a0, a1, iClr a2, .int x, a4] st h Q := w_istore_n dX9_does_9 (Nat.le_of_ble_eq_true rfl) rfl
theorem X9_does_10 : iWp d mX9_does 10 [a0, .ref p, a2, a3, a4] st h Q = iWp d mX9_does 11 [a0, .ref p, a2, a3, a4] (.ref p :: st) h Q := w_aload_n dX9_does_10 rfl
theorem X9_does_10n : iWp d mX9_does 10 [a0, .null, a2, a3, a4] st h Q = iWp d mX9_does 11 [a0, .null, a2, a3, a4] (.null :: st) h Q := w_aload_nN dX9_does_10 rfl
theorem X9_does_11 : iWp d mX9_does 11 [a0, a1, .int x, a3, a4] st h Q = iWp d mX9_does 12 [a0, a1, .int x, a3, a4] (.int x :: st) h Q := w_iload_n dX9_does_11 rfl
theorem X9_does_12 : iWp d mX9_does 12 [a0, a1, a2, a3, a4] (.int x :: .ref p :: st) h Q = iOb (iLdI h p x) (fun v => iWp d mX9_does 13 [a0, a1, a2, a3, a4] (.int v :: st) h Q) := w_iaload dX9_does_12
theorem X9_does_13_0 : iWp d mX9_does 13 [a0, a1, a2, a3, a4] (.int 0 :: st) h Q = iWp d mX9_does 40 [a0, a1, a2, a3, a4] st h Q := w_switch dX9_does_13 rfl rfl rfl
theorem X9_does_13_1 : iWp d mX9_does 13 [a0, a1, a2, a3, a4] (.int 1 :: st) h Q = iWp d mX9_does 74 [a0, a1, a2, a3, a4] st h Q := w_switch dX9_does_13 rfl rfl rfl
theorem X9_does_13_2 : iWp d mX9_does 13 [a0, a1, a2, a3, a4] (.int 2 :: st) h Q = iWp d mX9_does 137 [a0, a1, a2, a3, a4] st h Q := w_switch dX9_does_13 rfl rfl rfl
theorem X9_does_13_d (hx : x.toInt < 0 ∨ 2 < x.toInt) : iWp d mX9_does 13 [a0, a1, a2, a3, a4] (.int x :: st) h Q = iWp d mX9_does 222 [a0, a1, a2, a3, a4] st h Q := w_switchD dX9_does_13 hx rfl
theorem X9_does_40 : iWp d mX9_does 40 [a0, a1, a2, .int x, a4] st h Q = iWp d mX9_does 41 [a0, a1, a2, .int x, a4] (.int x :: st) h Q := w_iload_n dX9_does_40 rfl
theorem X9_does_41 : iWp d mX9_does 41 [a0, a1, a2, a3, a4] st h Q = iWp d mX9_does 42 [a0, a1, a2, a3, a4] (.int (-1) :: st) h Q := w_iconst dX9_does_41 rfl
theorem X9_does_42 : iWp d mX9_does 42 [a0, a1, a2, a3, a4] (.int y :: .int x :: st) h Q = if x = y then iWp d mX9_does 59 [a0, a1, a2, a3, a4] st h Q else iWp d mX9_does 45 [a0, a1, a2, a3, a4] st h Q := w_icmp_eq dX9_does_42 rfl
theorem X9_does_45 : iWp d mX9_does 45 [.ref p, a1, a2, a3, a4] st h Q = iWp d mX9_does 46 [.ref p, a1, a2, a3, a4] (.ref p :: st) h Q := w_aload_n dX9_does_45 rfl
theorem X9_does_46 : iWp d mX9_does 46 [a0, a1, a2, a3, a4] (.ref p :: st) h Q = iOb (iGet h p 9 20) (fun v => iWp d mX9_does 49 [a0, a1, a2, a3, a4] (v :: st) h Q) := w_getf dX9_does_46 fF_9_47
theorem X9_does_49 : iWp d mX9_does 49 [a0, a1, a2, .int x, a4] st h Q = iWp d mX9_does 50 [a0, a1, a2, .int x, a4] (.int x :: st) h Q := w_iload_n dX9_does_49 rfl
theorem X9_does_50 : iWp d mX9_does 50 [a0, a1, a2, a3, a4] (.int x :: .ref p :: st) h Q = iOb (iLdI h p x) (fun v => iWp d mX9_does 51 [a0, a1, a2, a3, a4] (.int v :: st) h Q) := w_iaload dX9_does_50
theorem X9_does_51 : iWp d mX9_does 51 [a0, .ref p, a2, a3, a4] st h Q = iWp d mX9_does 52 [a0, .ref p, a2, a3, a4] (.ref p :: st) h Q := w_aload_n dX9_does_51 rfl
theorem X9_does_51n : iWp d mX9_does 51 [a0, .null, a2, a3, a4] st h Q = iWp d mX9_does 52 [a0, .null, a2, a3, a4] (.null :: st) h Q := w_aload_nN dX9_does_51 rfl
theorem X9_does_52 : iWp d mX9_does 52 [a0, a1, .int x, a3, a4] st h Q = iWp d mX9_does 53 [a0, a1, .int x, a3, a4] (.int x :: st) h Q := w_iload_n dX9_does_52 rfl
theorem X9_does_53 : iWp d mX9_does 53 [a0, a1, a2, a3, a4] st h Q = iWp d mX9_does 54 [a0, a1, a2, a3, a4] (.int 2 :: st) h Q := w_iconst dX9_does_53 rfl
theorem X9_does_54 : iWp d mX9_does 54 [a0, a1, a2, a3, a4] (.int y :: .int x :: st) h Q = iWp d mX9_does 55 [a0, a1, a2, a3, a4] (.int (x + y) :: st) h Q := w_iadd dX9_does_54
theorem X9_does_55 : iWp d mX9_does 55 [a0, a1, a2, a3, a4] (.int x :: .ref p :: st) h Q = iOb (iLdI h p x) (fun v => iWp d mX9_does 56 [a0, a1, a2, a3, a4] (.int v :: st) h Q) := w_iaload dX9_does_55
theorem X9_does_56 : iWp d mX9_does 56 [a0, a1, a2, a3, a4] (.int y :: .int x :: st) h Q = if x = y then iWp d mX9_does 61 [a0, a1, a2, a3, a4] st h Q else iWp d mX9_does 59 [a0, a1, a2, a3, a4] st h Q := w_icmp_eq dX9_does_56 rfl
theorem X9_does_59 : iWp d mX9_does 59 [a0, a1, a2, a3, a4] st h Q = iWp d mX9_does 60 [a0, a1, a2, a3, a4] (.int 0 :: st) h Q := w_iconst dX9_does_59 rfl
theorem X9_does_60 : iWp d mX9_does 60 [a0, a1, a2, a3, a4] [.int (iB b)] h Q = Q (some (.int (iB b))) h := w_iretb dX9_does_60 rfl
theorem X9_does_60z : iWp d mX9_does 60 [a0, a1, a2, a3, a4] [.int 0] h Q = Q (some (.int (iB false))) h := w_iretb (bb := false) dX9_does_60 rfl
theorem X9_does_60o : iWp d mX9_does 60 [a0, a1, a2, a3, a4] [.int 1] h Q = Q (some (.int (iB true))) h := w_iretb (bb := true) dX9_does_60 rfl
theorem X9_does_61 : iWp d mX9_does 61 [.ref p, a1, a2, a3, a4] st h Q = iWp d mX9_does 62 [.ref p, a1, a2, a3, a4] (.ref p :: st) h Q := w_aload_n dX9_does_61 rfl
theorem X9_does_62 : iWp d mX9_does 62 [a0, a1, a2, a3, a4] (.ref p :: st) h Q = iOb (iGet h p 9 20) (fun v => iWp d mX9_does 65 [a0, a1, a2, a3, a4] (v :: st) h Q) := w_getf dX9_does_62 fF_9_47
theorem X9_does_65 : iWp d mX9_does 65 [a0, a1, a2, .int x, a4] st h Q = iWp d mX9_does 66 [a0, a1, a2, .int x, a4] (.int x :: st) h Q := w_iload_n dX9_does_65 rfl
theorem X9_does_66 : iWp d mX9_does 66 [a0, .ref p, a2, a3, a4] st h Q = iWp d mX9_does 67 [a0, .ref p, a2, a3, a4] (.ref p :: st) h Q := w_aload_n dX9_does_66 rfl
theorem X9_does_66n : iWp d mX9_does 66 [a0, .null, a2, a3, a4] st h Q = iWp d mX9_does 67 [a0, .null, a2, a3, a4] (.null :: st) h Q := w_aload_nN dX9_does_66 rfl
theorem X9_does_67 : iWp d mX9_does 67 [a0, a1, .int x, a3, a4] st h Q = iWp d mX9_does 68 [a0, a1, .int x, a3, a4] (.int x :: st) h Q := w_iload_n dX9_does_67 rfl
theorem X9_does_68 : iWp d mX9_does 68 [a0, a1, a2, a3, a4] st h Q = iWp d mX9_does 69 [a0, a1, a2, a3, a4] (.int 3 :: st) h Q := w_iconst dX9_does_68 rfl
theorem X9_does_69 : iWp d mX9_does 69 [a0, a1, a2, a3, a4] (.int y :: .int x :: st) h Q = iWp d mX9_does 70 [a0, a1, a2, a3, a4] (.int (x + y) :: st) h Q := w_iadd dX9_does_69
theorem X9_does_70 : iWp d mX9_does 70 [a0, a1, a2, a3, a4] (.int x :: .ref p :: st) h Q = iOb (iLdI h p x) (fun v => iWp d mX9_does 71 [a0, a1, a2, a3, a4] (.int v :: st) h Q) := w_iaload dX9_does_70
theorem X9_does_71 : iWp d mX9_does 71 [a0, a1, a2, a3, a4] (.int y :: .int x :: .ref p :: st) h Q = iOb (iStI h p x y) (fun g => iWp d mX9_does 72 [a0, a1, a2, a3, a4] st g Q) := w_iastore dX9_does_71
theorem X9_does_72 : iWp d mX9_does 72 [a0, a1, a2, a3, a4] st h Q = iWp d mX9_does 73 [a0, a1, a2, a3, a4] (.int 1 :: st) h Q := w_iconst dX9_does_72 rfl
theorem X9_does_73 : iWp d mX9_does 73 [a0, a1, a2, a3, a4] [.int (iB b)] h Q = Q (some (.int (iB b))) h := w_iretb dX9_does_73 rfl
theorem X9_does_73z : iWp d mX9_does 73 [a0, a1, a2, a3, a4] [.int 0] h Q = Q (some (.int (iB false))) h := w_iretb (bb := false) dX9_does_73 rfl
theorem X9_does_73o : iWp d mX9_does 73 [a0, a1, a2, a3, a4] [.int 1] h Q = Q (some (.int (iB true))) h := w_iretb (bb := true) dX9_does_73 rfl
theorem X9_does_74 : iWp d mX9_does 74 [a0, a1, a2, .int x, a4] st h Q = iWp d mX9_does 75 [a0, a1, a2, .int x, a4] (.int x :: st) h Q := w_iload_n dX9_does_74 rfl
theorem X9_does_75 : iWp d mX9_does 75 [a0, a1, a2, a3, a4] st h Q = iWp d mX9_does 76 [a0, a1, a2, a3, a4] (.int (-1) :: st) h Q := w_iconst dX9_does_75 rfl
theorem X9_does_76 : iWp d mX9_does 76 [a0, a1, a2, a3, a4] (.int y :: .int x :: st) h Q = if x = y then iWp d mX9_does 127 [a0, a1, a2, a3, a4] st h Q else iWp d mX9_does 79 [a0, a1, a2, a3, a4] st h Q := w_icmp_eq dX9_does_76 rfl
theorem X9_does_79 : iWp d mX9_does 79 [.ref p, a1, a2, a3, a4] st h Q = iWp d mX9_does 80 [.ref p, a1, a2, a3, a4] (.ref p :: st) h Q := w_aload_n dX9_does_79 rfl
theorem X9_does_80 : iWp d mX9_does 80 [a0, a1, a2, .int x, a4] st h Q = iWp d mX9_does 81 [a0, a1, a2, .int x, a4] (.int x :: st) h Q := w_iload_n dX9_does_80 rfl
theorem X9_does_81 (he : iEv mX9_children [.ref p, .int x0] h (some (.int rv)) h2) (ho : iObj h p 9 = true) : iWp 5 mX9_does 81 [a0, a1, a2, a3, a4] [.int x0, .ref p] h Q = iWp 5 mX9_does 84 [a0, a1, a2, a3, a4] [.int rv] h2 Q := iWp_cV dX9_does_81 fK_9_178 rfl rfl ho (Nat.le_of_ble_eq_true rfl) (Nat.le_of_ble_eq_true rfl) rfl (Nat.le_of_ble_eq_true rfl) he rfl
theorem X9_does_84 : iWp d mX9_does 84 [a0, a1, a2, a3, a4] (.int x :: st) h Q = if 0 < x then iWp d mX9_does 127 [a0, a1, a2, a3, a4] st h Q else iWp d mX9_does 87 [a0, a1, a2, a3, a4] st h Q := w_ifc_gt dX9_does_84 rfl
theorem X9_does_87 : iWp d mX9_does 87 [.ref p, a1, a2, a3, a4] st h Q = iWp d mX9_does 88 [.ref p, a1, a2, a3, a4] (.ref p :: st) h Q := w_aload_n dX9_does_87 rfl
theorem X9_does_88 : iWp d mX9_does 88 [a0, a1, a2, a3, a4] (.ref p :: st) h Q = iOb (iGet h p 9 20) (fun v => iWp d mX9_does 91 [a0, a1, a2, a3, a4] (v :: st) h Q) := w_getf dX9_does_88 fF_9_47
theorem X9_does_91 : iWp d mX9_does 91 [a0, a1, a2, .int x, a4] st h Q = iWp d mX9_does 92 [a0, a1, a2, .int x, a4] (.int x :: st) h Q := w_iload_n dX9_does_91 rfl
theorem X9_does_92 : iWp d mX9_does 92 [a0, a1, a2, a3, a4] (.int x :: .ref p :: st) h Q = iOb (iLdI h p x) (fun v => iWp d mX9_does 93 [a0, a1, a2, a3, a4] (.int v :: st) h Q) := w_iaload dX9_does_92
theorem X9_does_93 : iWp d mX9_does 93 [a0, .ref p, a2, a3, a4] st h Q = iWp d mX9_does 94 [a0, .ref p, a2, a3, a4] (.ref p :: st) h Q := w_aload_n dX9_does_93 rfl
theorem X9_does_93n : iWp d mX9_does 93 [a0, .null, a2, a3, a4] st h Q = iWp d mX9_does 94 [a0, .null, a2, a3, a4] (.null :: st) h Q := w_aload_nN dX9_does_93 rfl
theorem X9_does_94 : iWp d mX9_does 94 [a0, a1, .int x, a3, a4] st h Q = iWp d mX9_does 95 [a0, a1, .int x, a3, a4] (.int x :: st) h Q := w_iload_n dX9_does_94 rfl
theorem X9_does_95 : iWp d mX9_does 95 [a0, a1, a2, a3, a4] st h Q = iWp d mX9_does 96 [a0, a1, a2, a3, a4] (.int 2 :: st) h Q := w_iconst dX9_does_95 rfl
theorem X9_does_96 : iWp d mX9_does 96 [a0, a1, a2, a3, a4] (.int y :: .int x :: st) h Q = iWp d mX9_does 97 [a0, a1, a2, a3, a4] (.int (x + y) :: st) h Q := w_iadd dX9_does_96
theorem X9_does_97 : iWp d mX9_does 97 [a0, a1, a2, a3, a4] (.int x :: .ref p :: st) h Q = iOb (iLdI h p x) (fun v => iWp d mX9_does 98 [a0, a1, a2, a3, a4] (.int v :: st) h Q) := w_iaload dX9_does_97
theorem X9_does_98 : iWp d mX9_does 98 [a0, a1, a2, a3, a4] (.int y :: .int x :: st) h Q = if x = y then iWp d mX9_does 101 [a0, a1, a2, a3, a4] st h Q else iWp d mX9_does 127 [a0, a1, a2, a3, a4] st h Q := w_icmp_ne dX9_does_98 rfl
theorem X9_does_101 : iWp d mX9_does 101 [.ref p, a1, a2, a3, a4] st h Q = iWp d mX9_does 102 [.ref p, a1, a2, a3, a4] (.ref p :: st) h Q := w_aload_n dX9_does_101 rfl
theorem X9_does_102 : iWp d mX9_does 102 [a0, a1, a2, .int x, a4] st h Q = iWp d mX9_does 103 [a0, a1, a2, .int x, a4] (.int x :: st) h Q := w_iload_n dX9_does_102 rfl
theorem X9_does_103 (he : iEv mX9_parentKey [.ref p, .int x0] h (some (.int rv)) h2) (ho : iObj h p 9 = true) : iWp 5 mX9_does 103 [a0, a1, a2, a3, a4] [.int x0, .ref p] h Q = iWp 5 mX9_does 106 [a0, a1, a2, a3, a4] [.int rv] h2 Q := iWp_cV dX9_does_103 fK_9_172 rfl rfl ho (Nat.le_of_ble_eq_true rfl) (Nat.le_of_ble_eq_true rfl) rfl (Nat.le_of_ble_eq_true rfl) he rfl
theorem X9_does_106 : iWp d mX9_does 106 [a0, .ref p, a2, a3, a4] st h Q = iWp d mX9_does 107 [a0, .ref p, a2, a3, a4] (.ref p :: st) h Q := w_aload_n dX9_does_106 rfl
theorem X9_does_106n : iWp d mX9_does 106 [a0, .null, a2, a3, a4] st h Q = iWp d mX9_does 107 [a0, .null, a2, a3, a4] (.null :: st) h Q := w_aload_nN dX9_does_106 rfl
theorem X9_does_107 : iWp d mX9_does 107 [a0, a1, .int x, a3, a4] st h Q = iWp d mX9_does 108 [a0, a1, .int x, a3, a4] (.int x :: st) h Q := w_iload_n dX9_does_107 rfl
theorem X9_does_108 : iWp d mX9_does 108 [a0, a1, a2, a3, a4] st h Q = iWp d mX9_does 109 [a0, a1, a2, a3, a4] (.int 3 :: st) h Q := w_iconst dX9_does_108 rfl
theorem X9_does_109 : iWp d mX9_does 109 [a0, a1, a2, a3, a4] (.int y :: .int x :: st) h Q = iWp d mX9_does 110 [a0, a1, a2, a3, a4] (.int (x + y) :: st) h Q := w_iadd dX9_does_109
theorem X9_does_110 : iWp d mX9_does 110 [a0, a1, a2, a3, a4] (.int x :: .ref p :: st) h Q = iOb (iLdI h p x) (fun v => iWp d mX9_does 111 [a0, a1, a2, a3, a4] (.int v :: st) h Q) := w_iaload dX9_does_110
theorem X9_does_111 : iWp d mX9_does 111 [a0, a1, a2, a3, a4] (.int y :: .int x :: st) h Q = if x = y then iWp d mX9_does 114 [a0, a1, a2, a3, a4] st h Q else iWp d mX9_does 127 [a0, a1, a2, a3, a4] st h Q := w_icmp_ne dX9_does_111 rfl
theorem X9_does_114 : iWp d mX9_does 114 [.ref p, a1, a2, a3, a4] st h Q = iWp d mX9_does 115 [.ref p, a1, a2, a3, a4] (.ref p :: st) h Q := w_aload_n dX9_does_114 rfl
theorem X9_does_115 : iWp d mX9_does 115 [a0, a1, a2, .int x, a4] st h Q = iWp d mX9_does 116 [a0, a1, a2, .int x, a4] (.int x :: st) h Q := w_iload_n dX9_does_115 rfl
theorem X9_does_116 (he : iEv mX9_place [.ref p, .int x0] h (some (.int rv)) h2) (ho : iObj h p 9 = true) : iWp 5 mX9_does 116 [a0, a1, a2, a3, a4] [.int x0, .ref p] h Q = iWp 5 mX9_does 119 [a0, a1, a2, a3, a4] [.int rv] h2 Q := iWp_cV dX9_does_116 fK_9_175 rfl rfl ho (Nat.le_of_ble_eq_true rfl) (Nat.le_of_ble_eq_true rfl) rfl (Nat.le_of_ble_eq_true rfl) he rfl
theorem X9_does_119 : iWp d mX9_does 119 [a0, .ref p, a2, a3, a4] st h Q = iWp d mX9_does 120 [a0, .ref p, a2, a3, a4] (.ref p :: st) h Q := w_aload_n dX9_does_119 rfl
theorem X9_does_119n : iWp d mX9_does 119 [a0, .null, a2, a3, a4] st h Q = iWp d mX9_does 120 [a0, .null, a2, a3, a4] (.null :: st) h Q := w_aload_nN dX9_does_119 rfl
theorem X9_does_120 : iWp d mX9_does 120 [a0, a1, .int x, a3, a4] st h Q = iWp d mX9_does 121 [a0, a1, .int x, a3, a4] (.int x :: st) h Q := w_iload_n dX9_does_120 rfl
theorem X9_does_121 : iWp d mX9_does 121 [a0, a1, a2, a3, a4] st h Q = iWp d mX9_does 122 [a0, a1, a2, a3, a4] (.int 4 :: st) h Q := w_iconst dX9_does_121 rfl
theorem X9_does_122 : iWp d mX9_does 122 [a0, a1, a2, a3, a4] (.int y :: .int x :: st) h Q = iWp d mX9_does 123 [a0, a1, a2, a3, a4] (.int (x + y) :: st) h Q := w_iadd dX9_does_122
theorem X9_does_123 : iWp d mX9_does 123 [a0, a1, a2, a3, a4] (.int x :: .ref p :: st) h Q = iOb (iLdI h p x) (fun v => iWp d mX9_does 124 [a0, a1, a2, a3, a4] (.int v :: st) h Q) := w_iaload dX9_does_123
theorem X9_does_124 : iWp d mX9_does 124 [a0, a1, a2, a3, a4] (.int y :: .int x :: st) h Q = if x = y then iWp d mX9_does 129 [a0, a1, a2, a3, a4] st h Q else iWp d mX9_does 127 [a0, a1, a2, a3, a4] st h Q := w_icmp_eq dX9_does_124 rfl
theorem X9_does_127 : iWp d mX9_does 127 [a0, a1, a2, a3, a4] st h Q = iWp d mX9_does 128 [a0, a1, a2, a3, a4] (.int 0 :: st) h Q := w_iconst dX9_does_127 rfl
theorem X9_does_128 : iWp d mX9_does 128 [a0, a1, a2, a3, a4] [.int (iB b)] h Q = Q (some (.int (iB b))) h := w_iretb dX9_does_128 rfl
theorem X9_does_128z : iWp d mX9_does 128 [a0, a1, a2, a3, a4] [.int 0] h Q = Q (some (.int (iB false))) h := w_iretb (bb := false) dX9_does_128 rfl
theorem X9_does_128o : iWp d mX9_does 128 [a0, a1, a2, a3, a4] [.int 1] h Q = Q (some (.int (iB true))) h := w_iretb (bb := true) dX9_does_128 rfl
theorem X9_does_129 : iWp d mX9_does 129 [.ref p, a1, a2, a3, a4] st h Q = iWp d mX9_does 130 [.ref p, a1, a2, a3, a4] (.ref p :: st) h Q := w_aload_n dX9_does_129 rfl
theorem X9_does_130 : iWp d mX9_does 130 [a0, a1, a2, .int x, a4] st h Q = iWp d mX9_does 131 [a0, a1, a2, .int x, a4] (.int x :: st) h Q := w_iload_n dX9_does_130 rfl
theorem X9_does_131 : iWp d mX9_does 131 [a0, a1, a2, a3, a4] st h Q = iWp d mX9_does 132 [a0, a1, a2, a3, a4] (.int 1 :: st) h Q := w_iconst dX9_does_131 rfl
theorem X9_does_132 (he : iEv mX9_cuts [.ref p, .int x0, .int x1] h none h2) (ho : iObj h p 9 = true) : iWp 5 mX9_does 132 [a0, a1, a2, a3, a4] [.int x1, .int x0, .ref p] h Q = iWp 5 mX9_does 135 [a0, a1, a2, a3, a4] [] h2 Q := iWp_cV dX9_does_132 fK_9_188 rfl rfl ho (Nat.le_of_ble_eq_true rfl) (Nat.le_of_ble_eq_true rfl) rfl (Nat.le_of_ble_eq_true rfl) he rfl
theorem X9_does_135 : iWp d mX9_does 135 [a0, a1, a2, a3, a4] st h Q = iWp d mX9_does 136 [a0, a1, a2, a3, a4] (.int 1 :: st) h Q := w_iconst dX9_does_135 rfl
theorem X9_does_136 : iWp d mX9_does 136 [a0, a1, a2, a3, a4] [.int (iB b)] h Q = Q (some (.int (iB b))) h := w_iretb dX9_does_136 rfl
theorem X9_does_136z : iWp d mX9_does 136 [a0, a1, a2, a3, a4] [.int 0] h Q = Q (some (.int (iB false))) h := w_iretb (bb := false) dX9_does_136 rfl
theorem X9_does_136o : iWp d mX9_does 136 [a0, a1, a2, a3, a4] [.int 1] h Q = Q (some (.int (iB true))) h := w_iretb (bb := true) dX9_does_136 rfl
theorem X9_does_137 : iWp d mX9_does 137 [.ref p, a1, a2, a3, a4] st h Q = iWp d mX9_does 138 [.ref p, a1, a2, a3, a4] (.ref p :: st) h Q := w_aload_n dX9_does_137 rfl
theorem X9_does_138 : iWp d mX9_does 138 [a0, .ref p, a2, a3, a4] st h Q = iWp d mX9_does 139 [a0, .ref p, a2, a3, a4] (.ref p :: st) h Q := w_aload_n dX9_does_138 rfl
theorem X9_does_138n : iWp d mX9_does 138 [a0, .null, a2, a3, a4] st h Q = iWp d mX9_does 139 [a0, .null, a2, a3, a4] (.null :: st) h Q := w_aload_nN dX9_does_138 rfl
theorem X9_does_139 : iWp d mX9_does 139 [a0, a1, .int x, a3, a4] st h Q = iWp d mX9_does 140 [a0, a1, .int x, a3, a4] (.int x :: st) h Q := w_iload_n dX9_does_139 rfl
theorem X9_does_140 : iWp d mX9_does 140 [a0, a1, a2, a3, a4] st h Q = iWp d mX9_does 141 [a0, a1, a2, a3, a4] (.int 3 :: st) h Q := w_iconst dX9_does_140 rfl
theorem X9_does_141 : iWp d mX9_does 141 [a0, a1, a2, a3, a4] (.int y :: .int x :: st) h Q = iWp d mX9_does 142 [a0, a1, a2, a3, a4] (.int (x + y) :: st) h Q := w_iadd dX9_does_141
theorem X9_does_142 : iWp d mX9_does 142 [a0, a1, a2, a3, a4] (.int x :: .ref p :: st) h Q = iOb (iLdI h p x) (fun v => iWp d mX9_does 143 [a0, a1, a2, a3, a4] (.int v :: st) h Q) := w_iaload dX9_does_142
theorem X9_does_143 (he : iEv mX9_find [.ref p, .int x0] h (some (.int rv)) h2) (ho : iObj h p 9 = true) : iWp 5 mX9_does 143 [a0, a1, a2, a3, a4] [.int x0, .ref p] h Q = iWp 5 mX9_does 146 [a0, a1, a2, a3, a4] [.int rv] h2 Q := iWp_cV dX9_does_143 fK_9_153 rfl rfl ho (Nat.le_of_ble_eq_true rfl) (Nat.le_of_ble_eq_true rfl) rfl (Nat.le_of_ble_eq_true rfl) he rfl
theorem X9_does_146 : iWp d mX9_does 146 [a0, a1, a2, a3, a4] (.int x :: st) h Q = iWp d mX9_does 148 [a0, a1, a2, iClr a3, .int x] st h Q := w_istore dX9_does_146 (Nat.le_of_ble_eq_true rfl) rfl
theorem X9_does_148 : iWp d mX9_does 148 [a0, a1, a2, .int x, a4] st h Q = iWp d mX9_does 149 [a0, a1, a2, .int x, a4] (.int x :: st) h Q := w_iload_n dX9_does_148 rfl
theorem X9_does_149 : iWp d mX9_does 149 [a0, a1, a2, a3, a4] st h Q = iWp d mX9_does 150 [a0, a1, a2, a3, a4] (.int (-1) :: st) h Q := w_iconst dX9_does_149 rfl
theorem X9_does_150 : iWp d mX9_does 150 [a0, a1, a2, a3, a4] (.int y :: .int x :: st) h Q = if x = y then iWp d mX9_does 153 [a0, a1, a2, a3, a4] st h Q else iWp d mX9_does 177 [a0, a1, a2, a3, a4] st h Q := w_icmp_ne dX9_does_150 rfl
theorem X9_does_153 : iWp d mX9_does 153 [a0, a1, a2, a3, .int x] st h Q = iWp d mX9_does 155 [a0, a1, a2, a3, .int x] (.int x :: st) h Q := w_iload dX9_does_153 rfl
theorem X9_does_155 : iWp d mX9_does 155 [a0, a1, a2, a3, a4] st h Q = iWp d mX9_does 156 [a0, a1, a2, a3, a4] (.int (-1) :: st) h Q := w_iconst dX9_does_155 rfl
theorem X9_does_156 : iWp d mX9_does 156 [a0, a1, a2, a3, a4] (.int y :: .int x :: st) h Q = if x = y then iWp d mX9_does 177 [a0, a1, a2, a3, a4] st h Q else iWp d mX9_does 159 [a0, a1, a2, a3, a4] st h Q := w_icmp_eq dX9_does_156 rfl
theorem X9_does_159 : iWp d mX9_does 159 [a0, .ref p, a2, a3, a4] st h Q = iWp d mX9_does 160 [a0, .ref p, a2, a3, a4] (.ref p :: st) h Q := w_aload_n dX9_does_159 rfl
theorem X9_does_159n : iWp d mX9_does 159 [a0, .null, a2, a3, a4] st h Q = iWp d mX9_does 160 [a0, .null, a2, a3, a4] (.null :: st) h Q := w_aload_nN dX9_does_159 rfl
theorem X9_does_160 : iWp d mX9_does 160 [a0, a1, .int x, a3, a4] st h Q = iWp d mX9_does 161 [a0, a1, .int x, a3, a4] (.int x :: st) h Q := w_iload_n dX9_does_160 rfl
theorem X9_does_161 : iWp d mX9_does 161 [a0, a1, a2, a3, a4] st h Q = iWp d mX9_does 162 [a0, a1, a2, a3, a4] (.int 4 :: st) h Q := w_iconst dX9_does_161 rfl
theorem X9_does_162 : iWp d mX9_does 162 [a0, a1, a2, a3, a4] (.int y :: .int x :: st) h Q = iWp d mX9_does 163 [a0, a1, a2, a3, a4] (.int (x + y) :: st) h Q := w_iadd dX9_does_162
theorem X9_does_163 : iWp d mX9_does 163 [a0, a1, a2, a3, a4] (.int x :: .ref p :: st) h Q = iOb (iLdI h p x) (fun v => iWp d mX9_does 164 [a0, a1, a2, a3, a4] (.int v :: st) h Q) := w_iaload dX9_does_163
theorem X9_does_164 : iWp d mX9_does 164 [a0, a1, a2, a3, a4] st h Q = iWp d mX9_does 165 [a0, a1, a2, a3, a4] (.int 0 :: st) h Q := w_iconst dX9_does_164 rfl
theorem X9_does_165 : iWp d mX9_does 165 [.ref p, a1, a2, a3, a4] st h Q = iWp d mX9_does 166 [.ref p, a1, a2, a3, a4] (.ref p :: st) h Q := w_aload_n dX9_does_165 rfl
theorem X9_does_166 : iWp d mX9_does 166 [a0, a1, a2, a3, .int x] st h Q = iWp d mX9_does 168 [a0, a1, a2, a3, .int x] (.int x :: st) h Q := w_iload dX9_does_166 rfl
theorem X9_does_168 (he : iEv mX9_children [.ref p, .int x0] h (some (.int rv)) h2) (ho : iObj h p 9 = true) : iWp 5 mX9_does 168 [a0, a1, a2, a3, a4] [.int x0, .ref p, .int r0, .int r1] h Q = iWp 5 mX9_does 171 [a0, a1, a2, a3, a4] [.int rv, .int r0, .int r1] h2 Q := iWp_cV dX9_does_168 fK_9_178 rfl rfl ho (Nat.le_of_ble_eq_true rfl) (Nat.le_of_ble_eq_true rfl) rfl (Nat.le_of_ble_eq_true rfl) he rfl
theorem X9_does_171 (he : iEv mX9_within [.int x0, .int x1, .int x2] h (some (.int rv)) h2) : iWp 5 mX9_does 171 [a0, a1, a2, a3, a4] [.int x2, .int x1, .int x0] h Q = iWp 5 mX9_does 174 [a0, a1, a2, a3, a4] [.int rv] h2 Q := iWp_cS dX9_does_171 fK_9_106 rfl rfl (Nat.le_of_ble_eq_true rfl) (Nat.le_of_ble_eq_true rfl) rfl (Nat.le_of_ble_eq_true rfl) he rfl
theorem X9_does_174 : iWp d mX9_does 174 [a0, a1, a2, a3, a4] (.int x :: st) h Q = if x = 0 then iWp d mX9_does 177 [a0, a1, a2, a3, a4] st h Q else iWp d mX9_does 179 [a0, a1, a2, a3, a4] st h Q := w_ifc_ne dX9_does_174 rfl
theorem X9_does_177 : iWp d mX9_does 177 [a0, a1, a2, a3, a4] st h Q = iWp d mX9_does 178 [a0, a1, a2, a3, a4] (.int 0 :: st) h Q := w_iconst dX9_does_177 rfl
theorem X9_does_178 : iWp d mX9_does 178 [a0, a1, a2, a3, a4] [.int (iB b)] h Q = Q (some (.int (iB b))) h := w_iretb dX9_does_178 rfl
theorem X9_does_178z : iWp d mX9_does 178 [a0, a1, a2, a3, a4] [.int 0] h Q = Q (some (.int (iB false))) h := w_iretb (bb := false) dX9_does_178 rfl
theorem X9_does_178o : iWp d mX9_does 178 [a0, a1, a2, a3, a4] [.int 1] h Q = Q (some (.int (iB true))) h := w_iretb (bb := true) dX9_does_178 rfl
theorem X9_does_179 : iWp d mX9_does 179 [.ref p, a1, a2, a3, a4] st h Q = iWp d mX9_does 180 [.ref p, a1, a2, a3, a4] (.ref p :: st) h Q := w_aload_n dX9_does_179 rfl
theorem X9_does_180 : iWp d mX9_does 180 [a0, a1, a2, a3, a4] (.ref p :: st) h Q = iOb (iGet h p 9 22) (fun v => iWp d mX9_does 183 [a0, a1, a2, a3, a4] (v :: st) h Q) := w_getf dX9_does_180 fF_9_53
theorem X9_does_183 : iWp d mX9_does 183 [a0, a1, a2, a3, a4] st h Q = iWp d mX9_does 184 [a0, a1, a2, a3, a4] (.int 0 :: st) h Q := w_iconst dX9_does_183 rfl
theorem X9_does_184 : iWp d mX9_does 184 [a0, .ref p, a2, a3, a4] st h Q = iWp d mX9_does 185 [a0, .ref p, a2, a3, a4] (.ref p :: st) h Q := w_aload_n dX9_does_184 rfl
theorem X9_does_184n : iWp d mX9_does 184 [a0, .null, a2, a3, a4] st h Q = iWp d mX9_does 185 [a0, .null, a2, a3, a4] (.null :: st) h Q := w_aload_nN dX9_does_184 rfl
theorem X9_does_185 : iWp d mX9_does 185 [a0, a1, .int x, a3, a4] st h Q = iWp d mX9_does 186 [a0, a1, .int x, a3, a4] (.int x :: st) h Q := w_iload_n dX9_does_185 rfl
theorem X9_does_186 : iWp d mX9_does 186 [a0, a1, a2, a3, a4] st h Q = iWp d mX9_does 187 [a0, a1, a2, a3, a4] (.int 1 :: st) h Q := w_iconst dX9_does_186 rfl
theorem X9_does_187 : iWp d mX9_does 187 [a0, a1, a2, a3, a4] (.int y :: .int x :: st) h Q = iWp d mX9_does 188 [a0, a1, a2, a3, a4] (.int (x + y) :: st) h Q := w_iadd dX9_does_187
theorem X9_does_188 : iWp d mX9_does 188 [a0, a1, a2, a3, a4] (.int x :: .ref p :: st) h Q = iOb (iLdI h p x) (fun v => iWp d mX9_does 189 [a0, a1, a2, a3, a4] (.int v :: st) h Q) := w_iaload dX9_does_188
theorem X9_does_189 : iWp d mX9_does 189 [a0, a1, a2, a3, a4] (.int y :: .int x :: .ref p :: st) h Q = iOb (iStI h p x y) (fun g => iWp d mX9_does 190 [a0, a1, a2, a3, a4] st g Q) := w_iastore dX9_does_189
theorem X9_does_190 : iWp d mX9_does 190 [.ref p, a1, a2, a3, a4] st h Q = iWp d mX9_does 191 [.ref p, a1, a2, a3, a4] (.ref p :: st) h Q := w_aload_n dX9_does_190 rfl
theorem X9_does_191 : iWp d mX9_does 191 [a0, a1, a2, a3, a4] (.ref p :: st) h Q = iOb (iGet h p 9 23) (fun v => iWp d mX9_does 194 [a0, a1, a2, a3, a4] (v :: st) h Q) := w_getf dX9_does_191 fF_9_56
theorem X9_does_194 : iWp d mX9_does 194 [a0, a1, a2, a3, a4] st h Q = iWp d mX9_does 195 [a0, a1, a2, a3, a4] (.int 0 :: st) h Q := w_iconst dX9_does_194 rfl
theorem X9_does_195 : iWp d mX9_does 195 [a0, .ref p, a2, a3, a4] st h Q = iWp d mX9_does 196 [a0, .ref p, a2, a3, a4] (.ref p :: st) h Q := w_aload_n dX9_does_195 rfl
theorem X9_does_195n : iWp d mX9_does 195 [a0, .null, a2, a3, a4] st h Q = iWp d mX9_does 196 [a0, .null, a2, a3, a4] (.null :: st) h Q := w_aload_nN dX9_does_195 rfl
theorem X9_does_196 : iWp d mX9_does 196 [a0, a1, .int x, a3, a4] st h Q = iWp d mX9_does 197 [a0, a1, .int x, a3, a4] (.int x :: st) h Q := w_iload_n dX9_does_196 rfl
theorem X9_does_197 : iWp d mX9_does 197 [a0, a1, a2, a3, a4] st h Q = iWp d mX9_does 198 [a0, a1, a2, a3, a4] (.int 2 :: st) h Q := w_iconst dX9_does_197 rfl
theorem X9_does_198 : iWp d mX9_does 198 [a0, a1, a2, a3, a4] (.int y :: .int x :: st) h Q = iWp d mX9_does 199 [a0, a1, a2, a3, a4] (.int (x + y) :: st) h Q := w_iadd dX9_does_198
theorem X9_does_199 : iWp d mX9_does 199 [a0, a1, a2, a3, a4] (.int x :: .ref p :: st) h Q = iOb (iLdI h p x) (fun v => iWp d mX9_does 200 [a0, a1, a2, a3, a4] (.int v :: st) h Q) := w_iaload dX9_does_199
theorem X9_does_200 : iWp d mX9_does 200 [a0, a1, a2, a3, a4] (.int y :: .int x :: .ref p :: st) h Q = iOb (iStI h p x y) (fun g => iWp d mX9_does 201 [a0, a1, a2, a3, a4] st g Q) := w_iastore dX9_does_200
theorem X9_does_201 : iWp d mX9_does 201 [.ref p, a1, a2, a3, a4] st h Q = iWp d mX9_does 202 [.ref p, a1, a2, a3, a4] (.ref p :: st) h Q := w_aload_n dX9_does_201 rfl
theorem X9_does_202 : iWp d mX9_does 202 [a0, a1, a2, a3, a4] (.ref p :: st) h Q = iOb (iGet h p 9 24) (fun v => iWp d mX9_does 205 [a0, a1, a2, a3, a4] (v :: st) h Q) := w_getf dX9_does_202 fF_9_59
theorem X9_does_205 : iWp d mX9_does 205 [a0, a1, a2, a3, a4] st h Q = iWp d mX9_does 206 [a0, a1, a2, a3, a4] (.int 0 :: st) h Q := w_iconst dX9_does_205 rfl
theorem X9_does_206 : iWp d mX9_does 206 [a0, a1, a2, a3, a4] st h Q = iWp d mX9_does 207 [a0, a1, a2, a3, a4] (.int 0 :: st) h Q := w_iconst dX9_does_206 rfl
theorem X9_does_207 : iWp d mX9_does 207 [a0, a1, a2, a3, a4] (.int y :: .int x :: .ref p :: st) h Q = iOb (iStI h p x y) (fun g => iWp d mX9_does 208 [a0, a1, a2, a3, a4] st g Q) := w_iastore dX9_does_207
theorem X9_does_208 : iWp d mX9_does 208 [.ref p, a1, a2, a3, a4] st h Q = iWp d mX9_does 209 [.ref p, a1, a2, a3, a4] (.ref p :: st) h Q := w_aload_n dX9_does_208 rfl
theorem X9_does_209 : iWp d mX9_does 209 [a0, a1, a2, a3, a4] st h Q = iWp d mX9_does 210 [a0, a1, a2, a3, a4] (.int 1 :: st) h Q := w_iconst dX9_does_209 rfl
theorem X9_does_210 : iWp d mX9_does 210 [a0, a1, a2, a3, .int x] st h Q = iWp d mX9_does 212 [a0, a1, a2, a3, .int x] (.int x :: st) h Q := w_iload dX9_does_210 rfl
theorem X9_does_212 : iWp d mX9_does 212 [a0, .ref p, a2, a3, a4] st h Q = iWp d mX9_does 213 [a0, .ref p, a2, a3, a4] (.ref p :: st) h Q := w_aload_n dX9_does_212 rfl
theorem X9_does_212n : iWp d mX9_does 212 [a0, .null, a2, a3, a4] st h Q = iWp d mX9_does 213 [a0, .null, a2, a3, a4] (.null :: st) h Q := w_aload_nN dX9_does_212 rfl
theorem X9_does_213 : iWp d mX9_does 213 [a0, a1, .int x, a3, a4] st h Q = iWp d mX9_does 214 [a0, a1, .int x, a3, a4] (.int x :: st) h Q := w_iload_n dX9_does_213 rfl
theorem X9_does_214 : iWp d mX9_does 214 [a0, a1, a2, a3, a4] st h Q = iWp d mX9_does 215 [a0, a1, a2, a3, a4] (.int 4 :: st) h Q := w_iconst dX9_does_214 rfl
theorem X9_does_215 : iWp d mX9_does 215 [a0, a1, a2, a3, a4] (.int y :: .int x :: st) h Q = iWp d mX9_does 216 [a0, a1, a2, a3, a4] (.int (x + y) :: st) h Q := w_iadd dX9_does_215
theorem X9_does_216 : iWp d mX9_does 216 [a0, a1, a2, a3, a4] (.int x :: .ref p :: st) h Q = iOb (iLdI h p x) (fun v => iWp d mX9_does 217 [a0, a1, a2, a3, a4] (.int v :: st) h Q) := w_iaload dX9_does_216
theorem X9_does_217 (he : iEv mX9_puts [.ref p, .int x0, .int x1, .int x2] h none h2) (ho : iObj h p 9 = true) : iWp 5 mX9_does 217 [a0, a1, a2, a3, a4] [.int x2, .int x1, .int x0, .ref p] h Q = iWp 5 mX9_does 220 [a0, a1, a2, a3, a4] [] h2 Q := iWp_cV dX9_does_217 fK_9_192 rfl rfl ho (Nat.le_of_ble_eq_true rfl) (Nat.le_of_ble_eq_true rfl) rfl (Nat.le_of_ble_eq_true rfl) he rfl
theorem X9_does_220 : iWp d mX9_does 220 [a0, a1, a2, a3, a4] st h Q = iWp d mX9_does 221 [a0, a1, a2, a3, a4] (.int 1 :: st) h Q := w_iconst dX9_does_220 rfl
theorem X9_does_221 : iWp d mX9_does 221 [a0, a1, a2, a3, a4] [.int (iB b)] h Q = Q (some (.int (iB b))) h := w_iretb dX9_does_221 rfl
theorem X9_does_221z : iWp d mX9_does 221 [a0, a1, a2, a3, a4] [.int 0] h Q = Q (some (.int (iB false))) h := w_iretb (bb := false) dX9_does_221 rfl
theorem X9_does_221o : iWp d mX9_does 221 [a0, a1, a2, a3, a4] [.int 1] h Q = Q (some (.int (iB true))) h := w_iretb (bb := true) dX9_does_221 rfl
theorem X9_does_222 : iWp d mX9_does 222 [.ref p, a1, a2, a3, a4] st h Q = iWp d mX9_does 223 [.ref p, a1, a2, a3, a4] (.ref p :: st) h Q := w_aload_n dX9_does_222 rfl
theorem X9_does_223 : iWp d mX9_does 223 [a0, .ref p, a2, a3, a4] st h Q = iWp d mX9_does 224 [a0, .ref p, a2, a3, a4] (.ref p :: st) h Q := w_aload_n dX9_does_223 rfl
theorem X9_does_223n : iWp d mX9_does 223 [a0, .null, a2, a3, a4] st h Q = iWp d mX9_does 224 [a0, .null, a2, a3, a4] (.null :: st) h Q := w_aload_nN dX9_does_223 rfl
theorem X9_does_224 : iWp d mX9_does 224 [a0, a1, .int x, a3, a4] st h Q = iWp d mX9_does 225 [a0, a1, .int x, a3, a4] (.int x :: st) h Q := w_iload_n dX9_does_224 rfl
theorem X9_does_225 : iWp d mX9_does 225 [a0, a1, a2, .int x, a4] st h Q = iWp d mX9_does 226 [a0, a1, a2, .int x, a4] (.int x :: st) h Q := w_iload_n dX9_does_225 rfl
theorem X9_does_226 (he : iEv mX9_moves [.ref p, b0, .int x1, .int x2] h (some (.int rv)) h2) (ho : iObj h p 9 = true) (c0 : b0.category = 1) : iWp 5 mX9_does 226 [a0, a1, a2, a3, a4] [.int x2, .int x1, b0, .ref p] h Q = iWp 5 mX9_does 229 [a0, a1, a2, a3, a4] [.int rv] h2 Q := iWp_cV dX9_does_226 fK_9_196 rfl rfl ho (Nat.le_of_ble_eq_true rfl) (Nat.le_of_ble_eq_true rfl) (by simp [iInit, cat_i, cat_r, cat_l, mX9_moves, c0]) (Nat.le_of_ble_eq_true rfl) he rfl
theorem X9_does_229 : iWp d mX9_does 229 [a0, a1, a2, a3, a4] [.int (iB b)] h Q = Q (some (.int (iB b))) h := w_iretb dX9_does_229 rfl
theorem X9_does_229z : iWp d mX9_does 229 [a0, a1, a2, a3, a4] [.int 0] h Q = Q (some (.int (iB false))) h := w_iretb (bb := false) dX9_does_229 rfl
theorem X9_does_229o : iWp d mX9_does 229 [a0, a1, a2, a3, a4] [.int 1] h Q = Q (some (.int (iB true))) h := w_iretb (bb := true) dX9_does_229 rfl
theorem I9_does {Q : Option Value → iHp → Prop} (c0 : b0.category = 1) (hw : iWp 5 mX9_does 0 [.ref p, b0, .int x1, iU, iU] [] h Q) : ∃ r h1, iEv mX9_does [.ref p, b0, .int x1] h r h1 ∧ Q r h1 := iEv_of (by rfl) (by simp [iInit, cat_i, cat_r, cat_l, mX9_does, c0]) hw
theorem J9_does {r : Option Value} {h1 : iHp} (c0 : b0.category = 1) (hw : iWp 5 mX9_does 0 [.ref p, b0, .int x1, iU, iU] [] h (fun r' h' => r' = r ∧ h' = h1)) : iEv mX9_does [.ref p, b0, .int x1] h r h1 := iEv_ev (by rfl) (by simp [iInit, cat_i, cat_r, cat_l, mX9_does, c0]) hw
theorem X9_draw_0 : iWp d mX9_draw 0 [.ref p, a1] st h Q = iWp d mX9_draw 1 [.ref p, a1] (.ref p :: st) h Q := w_aload_n dX9_draw_0 rfl
theorem X9_draw_1 : iWp d mX9_draw 1 [.ref p, a1] st h Q = iWp d mX9_draw 2 [.ref p, a1] (.ref p :: st) h Q := w_aload_n dX9_draw_1 rfl
theorem X9_draw_2 : iWp d mX9_draw 2 [a0, a1] (.ref p :: st) h Q = iOb (iGet h p 9 10) (fun v => iWp d mX9_draw 5 [a0, a1] (v :: st) h Q) := w_getf dX9_draw_2 fF_9_92
theorem X9_draw_5 : iWp d mX9_draw 5 [a0, a1] st h Q = iWp d mX9_draw 8 [a0, a1] (.int 1103515245 :: st) h Q := w_ldc_w dX9_draw_5 rfl
theorem X9_draw_8 : iWp d mX9_draw 8 [a0, a1] (.int y :: .int x :: st) h Q = iWp d mX9_draw 9 [a0, a1] (.int (x * y) :: st) h Q := w_imul dX9_draw_8
theorem X9_draw_9 : iWp d mX9_draw 9 [a0, a1] st h Q = iWp d mX9_draw 12 [a0, a1] (.int 12345 :: st) h Q := w_sipush dX9_draw_9 rfl
theorem X9_draw_12 : iWp d mX9_draw 12 [a0, a1] (.int y :: .int x :: st) h Q = iWp d mX9_draw 13 [a0, a1] (.int (x + y) :: st) h Q := w_iadd dX9_draw_12
theorem X9_draw_13 : iWp d mX9_draw 13 [a0, a1] (.int x :: .ref p :: st) h Q = iOb (iPut h p 9 10 (.int x)) (fun g => iWp d mX9_draw 16 [a0, a1] st g Q) := w_putf dX9_draw_13 fF_9_92 ⟨rfl, (Or.inl rfl)⟩
theorem X9_draw_16 : iWp d mX9_draw 16 [.ref p, a1] st h Q = iWp d mX9_draw 17 [.ref p, a1] (.ref p :: st) h Q := w_aload_n dX9_draw_16 rfl
theorem X9_draw_17 : iWp d mX9_draw 17 [a0, a1] (.ref p :: st) h Q = iOb (iGet h p 9 10) (fun v => iWp d mX9_draw 20 [a0, a1] (v :: st) h Q) := w_getf dX9_draw_17 fF_9_92
theorem X9_draw_20 : iWp d mX9_draw 20 [a0, a1] st h Q = iWp d mX9_draw 22 [a0, a1] (.int 16 :: st) h Q := w_bipush dX9_draw_20 rfl
theorem X9_draw_22 : iWp d mX9_draw 22 [a0, a1] (.int y :: .int x :: st) h Q = iWp d mX9_draw 23 [a0, a1] (.int (x.toUInt32 >>> (y.toUInt32 &&& Int32.toUInt32 31)).toInt32 :: st) h Q := w_iushr dX9_draw_22
theorem X9_draw_23 : iWp d mX9_draw 23 [a0, .int x] st h Q = iWp d mX9_draw 24 [a0, .int x] (.int x :: st) h Q := w_iload_n dX9_draw_23 rfl
theorem X9_draw_24 (hz : ¬ y = 0) : iWp d mX9_draw 24 [a0, a1] (.int y :: .int x :: st) h Q = iWp d mX9_draw 25 [a0, a1] (.int (x - x / y * y) :: st) h Q := w_irem dX9_draw_24 hz
theorem X9_draw_25 : iWp d mX9_draw 25 [a0, a1] [.int x] h Q = Q (some (.int x)) h := w_ireti dX9_draw_25 rfl
theorem I9_draw {Q : Option Value → iHp → Prop} (hw : iWp 1 mX9_draw 0 [.ref p, .int x0] [] h Q) : ∃ r h1, iEv mX9_draw [.ref p, .int x0] h r h1 ∧ Q r h1 := iEv_of (by rfl) rfl hw
theorem J9_draw {r : Option Value} {h1 : iHp} (hw : iWp 1 mX9_draw 0 [.ref p, .int x0] [] h (fun r' h' => r' = r ∧ h' = h1)) : iEv mX9_draw [.ref p, .int x0] h r h1 := iEv_ev (by rfl) rfl hw
theorem X9_drop_0 : iWp d mX9_drop 0 [.ref p, a1] st h Q = iWp d mX9_drop 1 [.ref p, a1] (.ref p :: st) h Q := w_aload_n dX9_drop_0 rfl
theorem X9_drop_1 : iWp d mX9_drop 1 [a0, .int x] st h Q = iWp d mX9_drop 2 [a0, .int x] (.int x :: st) h Q := w_iload_n dX9_drop_1 rfl
theorem X9_drop_2 (he : iEv mX9_isTree [.ref p, .int x0] h (some (.int rv)) h2) (ho : iObj h p 9 = true) : iWp 3 mX9_drop 2 [a0, a1] [.int x0, .ref p] h Q = iWp 3 mX9_drop 5 [a0, a1] [.int rv] h2 Q := iWp_cV dX9_drop_2 fK_9_166 rfl rfl ho (Nat.le_of_ble_eq_true rfl) (Nat.le_of_ble_eq_true rfl) rfl (Nat.le_of_ble_eq_true rfl) he rfl
theorem X9_drop_5 : iWp d mX9_drop 5 [a0, a1] (.int x :: st) h Q = if x = 0 then iWp d mX9_drop 8 [a0, a1] st h Q else iWp d mX9_drop 14 [a0, a1] st h Q := w_ifc_ne dX9_drop_5 rfl
theorem X9_drop_8 : iWp d mX9_drop 8 [.ref p, a1] st h Q = iWp d mX9_drop 9 [.ref p, a1] (.ref p :: st) h Q := w_aload_n dX9_drop_8 rfl
theorem X9_drop_9 : iWp d mX9_drop 9 [a0, a1] st h Q = iWp d mX9_drop 10 [a0, a1] (.int (-1) :: st) h Q := w_iconst dX9_drop_9 rfl
theorem X9_drop_10 (he : iEv mX9_no [.ref p, .int x0] h (some (.int rv)) h2) (ho : iObj h p 9 = true) : iWp 3 mX9_drop 10 [a0, a1] [.int x0, .ref p] h Q = iWp 3 mX9_drop 13 [a0, a1] [.int rv] h2 Q := iWp_cV dX9_drop_10 fK_9_99 rfl rfl ho (Nat.le_of_ble_eq_true rfl) (Nat.le_of_ble_eq_true rfl) rfl (Nat.le_of_ble_eq_true rfl) he rfl
theorem X9_drop_13 : iWp d mX9_drop 13 [a0, a1] [.int x] h Q = Q (some (.int x)) h := w_ireti dX9_drop_13 rfl
theorem X9_drop_14 : iWp d mX9_drop 14 [a0, .int x] st h Q = iWp d mX9_drop 15 [a0, .int x] (.int x :: st) h Q := w_iload_n dX9_drop_14 rfl
theorem X9_drop_15 : iWp d mX9_drop 15 [.ref p, a1] st h Q = iWp d mX9_drop 16 [.ref p, a1] (.ref p :: st) h Q := w_aload_n dX9_drop_15 rfl
theorem X9_drop_16 : iWp d mX9_drop 16 [a0, a1] (.ref p :: st) h Q = iOb (iGet h p 9 0) (fun v => iWp d mX9_drop 19 [a0, a1] (v :: st) h Q) := w_getf dX9_drop_16 fF_9_103
theorem X9_drop_19 : iWp d mX9_drop 19 [a0, a1] st h Q = iWp d mX9_drop 20 [a0, a1] (.int 1 :: st) h Q := w_iconst dX9_drop_19 rfl
theorem X9_drop_20 : iWp d mX9_drop 20 [a0, a1] (.int y :: .int x :: st) h Q = iWp d mX9_drop 21 [a0, a1] (.int (x - y) :: st) h Q := w_isub dX9_drop_20
theorem X9_drop_21 : iWp d mX9_drop 21 [a0, a1] (.int y :: .int x :: st) h Q = if x = y then iWp d mX9_drop 31 [a0, a1] st h Q else iWp d mX9_drop 24 [a0, a1] st h Q := w_icmp_eq dX9_drop_21 rfl
theorem X9_drop_24 : iWp d mX9_drop 24 [.ref p, a1] st h Q = iWp d mX9_drop 25 [.ref p, a1] (.ref p :: st) h Q := w_aload_n dX9_drop_24 rfl
theorem X9_drop_25 : iWp d mX9_drop 25 [a0, a1] st h Q = iWp d mX9_drop 27 [a0, a1] (.int (-6) :: st) h Q := w_bipush dX9_drop_25 rfl
theorem X9_drop_27 (he : iEv mX9_no [.ref p, .int x0] h (some (.int rv)) h2) (ho : iObj h p 9 = true) : iWp 3 mX9_drop 27 [a0, a1] [.int x0, .ref p] h Q = iWp 3 mX9_drop 30 [a0, a1] [.int rv] h2 Q := iWp_cV dX9_drop_27 fK_9_99 rfl rfl ho (Nat.le_of_ble_eq_true rfl) (Nat.le_of_ble_eq_true rfl) rfl (Nat.le_of_ble_eq_true rfl) he rfl
theorem X9_drop_30 : iWp d mX9_drop 30 [a0, a1] [.int x] h Q = Q (some (.int x)) h := w_ireti dX9_drop_30 rfl
theorem X9_drop_31 : iWp d mX9_drop 31 [.ref p, a1] st h Q = iWp d mX9_drop 32 [.ref p, a1] (.ref p :: st) h Q := w_aload_n dX9_drop_31 rfl
theorem X9_drop_32 : iWp d mX9_drop 32 [a0, a1] (.ref p :: st) h Q = iWp d mX9_drop 33 [a0, a1] (.ref p :: .ref p :: st) h Q := w_dup dX9_drop_32 rfl
theorem X9_drop_33 : iWp d mX9_drop 33 [a0, a1] (.ref p :: st) h Q = iOb (iGet h p 9 0) (fun v => iWp d mX9_drop 36 [a0, a1] (v :: st) h Q) := w_getf dX9_drop_33 fF_9_103
theorem X9_drop_36 : iWp d mX9_drop 36 [a0, a1] st h Q = iWp d mX9_drop 37 [a0, a1] (.int 1 :: st) h Q := w_iconst dX9_drop_36 rfl
theorem X9_drop_37 : iWp d mX9_drop 37 [a0, a1] (.int y :: .int x :: st) h Q = iWp d mX9_drop 38 [a0, a1] (.int (x - y) :: st) h Q := w_isub dX9_drop_37
theorem X9_drop_38 : iWp d mX9_drop 38 [a0, a1] (.int x :: .ref p :: st) h Q = iOb (iPut h p 9 0 (.int x)) (fun g => iWp d mX9_drop 41 [a0, a1] st g Q) := w_putf dX9_drop_38 fF_9_103 ⟨rfl, (Or.inl rfl)⟩
theorem X9_drop_41 : iWp d mX9_drop 41 [.ref p, a1] st h Q = iWp d mX9_drop 42 [.ref p, a1] (.ref p :: st) h Q := w_aload_n dX9_drop_41 rfl
theorem X9_drop_42 : iWp d mX9_drop 42 [a0, a1] (.ref p :: st) h Q = iOb (iGet h p 9 0) (fun v => iWp d mX9_drop 45 [a0, a1] (v :: st) h Q) := w_getf dX9_drop_42 fF_9_103
theorem X9_drop_45 : iWp d mX9_drop 45 [a0, a1] [.int x] h Q = Q (some (.int x)) h := w_ireti dX9_drop_45 rfl
theorem I9_drop {Q : Option Value → iHp → Prop} (hw : iWp 3 mX9_drop 0 [.ref p, .int x0] [] h Q) : ∃ r h1, iEv mX9_drop [.ref p, .int x0] h r h1 ∧ Q r h1 := iEv_of (by rfl) rfl hw
theorem J9_drop {r : Option Value} {h1 : iHp} (hw : iWp 3 mX9_drop 0 [.ref p, .int x0] [] h (fun r' h' => r' = r ∧ h' = h1)) : iEv mX9_drop [.ref p, .int x0] h r h1 := iEv_ev (by rfl) rfl hw
theorem X9_edit_0 : iWp d mX9_edit 0 [.ref p, a1, a2] st h Q = iWp d mX9_edit 1 [.ref p, a1, a2] (.ref p :: st) h Q := w_aload_n dX9_edit_0 rfl
theorem X9_edit_1 : iWp d mX9_edit 1 [a0, a1, a2] (.ref p :: st) h Q = iOb (iGet h p 9 8) (fun v => iWp d mX9_edit 4 [a0, a1, a2] (v :: st) h Q) := w_getf dX9_edit_1 fF_9_25
theorem X9_edit_4 : iWp d mX9_edit 4 [a0, a1, a2] st h Q = iWp d mX9_edit 7 [a0, a1, a2] (.int 840 :: st) h Q := w_sipush dX9_edit_4 rfl
theorem X9_edit_7 : iWp d mX9_edit 7 [a0, .int x, a2] st h Q = iWp d mX9_edit 8 [a0, .int x, a2] (.int x :: st) h Q := w_iload_n dX9_edit_7 rfl
theorem X9_edit_8 : iWp d mX9_edit 8 [a0, a1, a2] (.int y :: .int x :: st) h Q = iWp d mX9_edit 9 [a0, a1, a2] (.int (x * y) :: st) h Q := w_imul dX9_edit_8
theorem X9_edit_9 : iWp d mX9_edit 9 [a0, a1, .int x] st h Q = iWp d mX9_edit 10 [a0, a1, .int x] (.int x :: st) h Q := w_iload_n dX9_edit_9 rfl
theorem X9_edit_10 : iWp d mX9_edit 10 [a0, a1, a2] (.int y :: .int x :: st) h Q = iWp d mX9_edit 11 [a0, a1, a2] (.int (x + y) :: st) h Q := w_iadd dX9_edit_10
theorem X9_edit_11 : iWp d mX9_edit 11 [a0, a1, a2] (.int x :: .ref p :: st) h Q = iOb (iLdI h p x) (fun v => iWp d mX9_edit 12 [a0, a1, a2] (.int v :: st) h Q) := w_iaload dX9_edit_11
theorem X9_edit_12 : iWp d mX9_edit 12 [a0, a1, a2] [.int x] h Q = Q (some (.int x)) h := w_ireti dX9_edit_12 rfl
theorem I9_edit {Q : Option Value → iHp → Prop} (hw : iWp 1 mX9_edit 0 [.ref p, .int x0, .int x1] [] h Q) : ∃ r h1, iEv mX9_edit [.ref p, .int x0, .int x1] h r h1 ∧ Q r h1 := iEv_of (by rfl) rfl hw
theorem J9_edit {r : Option Value} {h1 : iHp} (hw : iWp 1 mX9_edit 0 [.ref p, .int x0, .int x1] [] h (fun r' h' => r' = r ∧ h' = h1)) : iEv mX9_edit [.ref p, .int x0, .int x1] h r h1 := iEv_ev (by rfl) rfl hw
theorem X9_edit__0 : iWp d mX9_edit_ 0 [.ref p, a1, a2, a3] st h Q = iWp d mX9_edit_ 1 [.ref p, a1, a2, a3] (.ref p :: st) h Q := w_aload_n dX9_edit__0 rfl
theorem X9_edit__1 : iWp d mX9_edit_ 1 [a0, .int x, a2, a3] st h Q = iWp d mX9_edit_ 2 [a0, .int x, a2, a3] (.int x :: st) h Q := w_iload_n dX9_edit__1 rfl
theorem X9_edit__2 (he : iEv mX9_isPatch [.ref p, .int x0] h (some (.int rv)) h2) (ho : iObj h p 9 = true) : iWp 3 mX9_edit_ 2 [a0, a1, a2, a3] [.int x0, .ref p] h Q = iWp 3 mX9_edit_ 5 [a0, a1, a2, a3] [.int rv] h2 Q := iWp_cV dX9_edit__2 fK_9_120 rfl rfl ho (Nat.le_of_ble_eq_true rfl) (Nat.le_of_ble_eq_true rfl) rfl (Nat.le_of_ble_eq_true rfl) he rfl
theorem X9_edit__5 : iWp d mX9_edit_ 5 [a0, a1, a2, a3] (.int x :: st) h Q = if x = 0 then iWp d mX9_edit_ 8 [a0, a1, a2, a3] st h Q else iWp d mX9_edit_ 14 [a0, a1, a2, a3] st h Q := w_ifc_ne dX9_edit__5 rfl
theorem X9_edit__8 : iWp d mX9_edit_ 8 [.ref p, a1, a2, a3] st h Q = iWp d mX9_edit_ 9 [.ref p, a1, a2, a3] (.ref p :: st) h Q := w_aload_n dX9_edit__8 rfl
theorem X9_edit__9 : iWp d mX9_edit_ 9 [a0, a1, a2, a3] st h Q = iWp d mX9_edit_ 10 [a0, a1, a2, a3] (.int (-1) :: st) h Q := w_iconst dX9_edit__9 rfl
theorem X9_edit__10 (he : iEv mX9_no [.ref p, .int x0] h (some (.int rv)) h2) (ho : iObj h p 9 = true) : iWp 3 mX9_edit_ 10 [a0, a1, a2, a3] [.int x0, .ref p] h Q = iWp 3 mX9_edit_ 13 [a0, a1, a2, a3] [.int rv] h2 Q := iWp_cV dX9_edit__10 fK_9_99 rfl rfl ho (Nat.le_of_ble_eq_true rfl) (Nat.le_of_ble_eq_true rfl) rfl (Nat.le_of_ble_eq_true rfl) he rfl
theorem X9_edit__13 : iWp d mX9_edit_ 13 [a0, a1, a2, a3] [.int x] h Q = Q (some (.int x)) h := w_ireti dX9_edit__13 rfl
theorem X9_edit__14 : iWp d mX9_edit_ 14 [a0, a1, .int x, a3] st h Q = iWp d mX9_edit_ 15 [a0, a1, .int x, a3] (.int x :: st) h Q := w_iload_n dX9_edit__14 rfl
theorem X9_edit__15 : iWp d mX9_edit_ 15 [a0, a1, a2, a3] st h Q = iWp d mX9_edit_ 16 [a0, a1, a2, a3] (.int 0 :: st) h Q := w_iconst dX9_edit__15 rfl
theorem X9_edit__16 : iWp d mX9_edit_ 16 [.ref p, a1, a2, a3] st h Q = iWp d mX9_edit_ 17 [.ref p, a1, a2, a3] (.ref p :: st) h Q := w_aload_n dX9_edit__16 rfl
theorem X9_edit__17 : iWp d mX9_edit_ 17 [a0, a1, a2, a3] st h Q = iWp d mX9_edit_ 18 [a0, a1, a2, a3] (.int 0 :: st) h Q := w_iconst dX9_edit__17 rfl
theorem X9_edit__18 : iWp d mX9_edit_ 18 [a0, .int x, a2, a3] st h Q = iWp d mX9_edit_ 19 [a0, .int x, a2, a3] (.int x :: st) h Q := w_iload_n dX9_edit__18 rfl
theorem X9_edit__19 (he : iEv mX9_of [.ref p, .int x0, .int x1] h (some (.int rv)) h2) (ho : iObj h p 9 = true) : iWp 3 mX9_edit_ 19 [a0, a1, a2, a3] [.int x1, .int x0, .ref p, .int r0, .int r1] h Q = iWp 3 mX9_edit_ 22 [a0, a1, a2, a3] [.int rv, .int r0, .int r1] h2 Q := iWp_cV dX9_edit__19 fK_9_123 rfl rfl ho (Nat.le_of_ble_eq_true rfl) (Nat.le_of_ble_eq_true rfl) rfl (Nat.le_of_ble_eq_true rfl) he rfl
theorem X9_edit__22 : iWp d mX9_edit_ 22 [a0, a1, a2, a3] st h Q = iWp d mX9_edit_ 23 [a0, a1, a2, a3] (.int 1 :: st) h Q := w_iconst dX9_edit__22 rfl
theorem X9_edit__23 : iWp d mX9_edit_ 23 [a0, a1, a2, a3] (.int y :: .int x :: st) h Q = iWp d mX9_edit_ 24 [a0, a1, a2, a3] (.int (x - y) :: st) h Q := w_isub dX9_edit__23
theorem X9_edit__24 (he : iEv mX9_within [.int x0, .int x1, .int x2] h (some (.int rv)) h2) : iWp 3 mX9_edit_ 24 [a0, a1, a2, a3] [.int x2, .int x1, .int x0] h Q = iWp 3 mX9_edit_ 27 [a0, a1, a2, a3] [.int rv] h2 Q := iWp_cS dX9_edit__24 fK_9_106 rfl rfl (Nat.le_of_ble_eq_true rfl) (Nat.le_of_ble_eq_true rfl) rfl (Nat.le_of_ble_eq_true rfl) he rfl
theorem X9_edit__27 : iWp d mX9_edit_ 27 [a0, a1, a2, a3] (.int x :: st) h Q = if x = 0 then iWp d mX9_edit_ 54 [a0, a1, a2, a3] st h Q else iWp d mX9_edit_ 30 [a0, a1, a2, a3] st h Q := w_ifc_eq dX9_edit__27 rfl
theorem X9_edit__30 : iWp d mX9_edit_ 30 [a0, a1, a2, .int x] st h Q = iWp d mX9_edit_ 31 [a0, a1, a2, .int x] (.int x :: st) h Q := w_iload_n dX9_edit__30 rfl
theorem X9_edit__31 : iWp d mX9_edit_ 31 [a0, a1, a2, a3] st h Q = iWp d mX9_edit_ 32 [a0, a1, a2, a3] (.int 0 :: st) h Q := w_iconst dX9_edit__31 rfl
theorem X9_edit__32 : iWp d mX9_edit_ 32 [a0, a1, a2, a3] st h Q = iWp d mX9_edit_ 34 [a0, a1, a2, a3] (.int 6 :: st) h Q := w_bipush dX9_edit__32 rfl
theorem X9_edit__34 (he : iEv mX9_within [.int x0, .int x1, .int x2] h (some (.int rv)) h2) : iWp 3 mX9_edit_ 34 [a0, a1, a2, a3] [.int x2, .int x1, .int x0] h Q = iWp 3 mX9_edit_ 37 [a0, a1, a2, a3] [.int rv] h2 Q := iWp_cS dX9_edit__34 fK_9_106 rfl rfl (Nat.le_of_ble_eq_true rfl) (Nat.le_of_ble_eq_true rfl) rfl (Nat.le_of_ble_eq_true rfl) he rfl
theorem X9_edit__37 : iWp d mX9_edit_ 37 [a0, a1, a2, a3] (.int x :: st) h Q = if x = 0 then iWp d mX9_edit_ 54 [a0, a1, a2, a3] st h Q else iWp d mX9_edit_ 40 [a0, a1, a2, a3] st h Q := w_ifc_eq dX9_edit__37 rfl
theorem X9_edit__40 : iWp d mX9_edit_ 40 [.ref p, a1, a2, a3] st h Q = iWp d mX9_edit_ 41 [.ref p, a1, a2, a3] (.ref p :: st) h Q := w_aload_n dX9_edit__40 rfl
theorem X9_edit__41 : iWp d mX9_edit_ 41 [a0, .int x, a2, a3] st h Q = iWp d mX9_edit_ 42 [a0, .int x, a2, a3] (.int x :: st) h Q := w_iload_n dX9_edit__41 rfl
theorem X9_edit__42 : iWp d mX9_edit_ 42 [a0, a1, a2, a3] st h Q = iWp d mX9_edit_ 44 [a0, a1, a2, a3] (.int 7 :: st) h Q := w_bipush dX9_edit__42 rfl
theorem X9_edit__44 : iWp d mX9_edit_ 44 [a0, a1, .int x, a3] st h Q = iWp d mX9_edit_ 45 [a0, a1, .int x, a3] (.int x :: st) h Q := w_iload_n dX9_edit__44 rfl
theorem X9_edit__45 : iWp d mX9_edit_ 45 [a0, a1, a2, a3] (.int y :: .int x :: st) h Q = iWp d mX9_edit_ 46 [a0, a1, a2, a3] (.int (x * y) :: st) h Q := w_imul dX9_edit__45
theorem X9_edit__46 : iWp d mX9_edit_ 46 [a0, a1, a2, .int x] st h Q = iWp d mX9_edit_ 47 [a0, a1, a2, .int x] (.int x :: st) h Q := w_iload_n dX9_edit__46 rfl
theorem X9_edit__47 : iWp d mX9_edit_ 47 [a0, a1, a2, a3] (.int y :: .int x :: st) h Q = iWp d mX9_edit_ 48 [a0, a1, a2, a3] (.int (x + y) :: st) h Q := w_iadd dX9_edit__47
theorem X9_edit__48 (he : iEv mX9_edit [.ref p, .int x0, .int x1] h (some (.int rv)) h2) (ho : iObj h p 9 = true) : iWp 3 mX9_edit_ 48 [a0, a1, a2, a3] [.int x1, .int x0, .ref p] h Q = iWp 3 mX9_edit_ 51 [a0, a1, a2, a3] [.int rv] h2 Q := iWp_cV dX9_edit__48 fK_9_254 rfl rfl ho (Nat.le_of_ble_eq_true rfl) (Nat.le_of_ble_eq_true rfl) rfl (Nat.le_of_ble_eq_true rfl) he rfl
theorem X9_edit__51 : iWp d mX9_edit_ 51 [a0, a1, a2, a3] st h Q = iWp d mX9_edit_ 60 [a0, a1, a2, a3] st h Q := w_goto dX9_edit__51 rfl
theorem X9_edit__54 : iWp d mX9_edit_ 54 [.ref p, a1, a2, a3] st h Q = iWp d mX9_edit_ 55 [.ref p, a1, a2, a3] (.ref p :: st) h Q := w_aload_n dX9_edit__54 rfl
theorem X9_edit__55 : iWp d mX9_edit_ 55 [a0, a1, a2, a3] st h Q = iWp d mX9_edit_ 57 [a0, a1, a2, a3] (.int (-5) :: st) h Q := w_bipush dX9_edit__55 rfl
theorem X9_edit__57 (he : iEv mX9_no [.ref p, .int x0] h (some (.int rv)) h2) (ho : iObj h p 9 = true) : iWp 3 mX9_edit_ 57 [a0, a1, a2, a3] [.int x0, .ref p] h Q = iWp 3 mX9_edit_ 60 [a0, a1, a2, a3] [.int rv] h2 Q := iWp_cV dX9_edit__57 fK_9_99 rfl rfl ho (Nat.le_of_ble_eq_true rfl) (Nat.le_of_ble_eq_true rfl) rfl (Nat.le_of_ble_eq_true rfl) he rfl
theorem X9_edit__60 : iWp d mX9_edit_ 60 [a0, a1, a2, a3] [.int x] h Q = Q (some (.int x)) h := w_ireti dX9_edit__60 rfl
theorem I9_edit_ {Q : Option Value → iHp → Prop} (hw : iWp 3 mX9_edit_ 0 [.ref p, .int x0, .int x1, .int x2] [] h Q) : ∃ r h1, iEv mX9_edit_ [.ref p, .int x0, .int x1, .int x2] h r h1 ∧ Q r h1 := iEv_of (by rfl) rfl hw
theorem J9_edit_ {r : Option Value} {h1 : iHp} (hw : iWp 3 mX9_edit_ 0 [.ref p, .int x0, .int x1, .int x2] [] h (fun r' h' => r' = r ∧ h' = h1)) : iEv mX9_edit_ [.ref p, .int x0, .int x1, .int x2] h r h1 := iEv_ev (by rfl) rfl hw
theorem X9_element_0 : iWp d mX9_element 0 [a0, .int x, a2] st h Q = iWp d mX9_element 1 [a0, .int x, a2] (.int x :: st) h Q := w_iload_n dX9_element_0 rfl
theorem X9_element_1 : iWp d mX9_element 1 [a0, a1, a2] st h Q = iWp d mX9_element 2 [a0, a1, a2] (.int 0 :: st) h Q := w_iconst dX9_element_1 rfl
theorem X9_element_2 : iWp d mX9_element 2 [a0, a1, a2] st h Q = iWp d mX9_element 4 [a0, a1, a2] (.int 7 :: st) h Q := w_bipush dX9_element_2 rfl
theorem X9_element_4 (he : iEv mX9_within [.int x0, .int x1, .int x2] h (some (.int rv)) h2) : iWp 2 mX9_element 4 [a0, a1, a2] [.int x2, .int x1, .int x0] h Q = iWp 2 mX9_element 7 [a0, a1, a2] [.int rv] h2 Q := iWp_cS dX9_element_4 fK_9_106 rfl rfl (Nat.le_of_ble_eq_true rfl) (Nat.le_of_ble_eq_true rfl) rfl (Nat.le_of_ble_eq_true rfl) he rfl
theorem X9_element_7 : iWp d mX9_element 7 [a0, a1, a2] (.int x :: st) h Q = if x = 0 then iWp d mX9_element 49 [a0, a1, a2] st h Q else iWp d mX9_element 10 [a0, a1, a2] st h Q := w_ifc_eq dX9_element_7 rfl
theorem X9_element_10 : iWp d mX9_element 10 [.ref p, a1, a2] st h Q = iWp d mX9_element 11 [.ref p, a1, a2] (.ref p :: st) h Q := w_aload_n dX9_element_10 rfl
theorem X9_element_11 : iWp d mX9_element 11 [a0, .int x, a2] st h Q = iWp d mX9_element 12 [a0, .int x, a2] (.int x :: st) h Q := w_iload_n dX9_element_11 rfl
theorem X9_element_12 (he : iEv mX9_isRow [.ref p, .int x0] h (some (.int rv)) h2) (ho : iObj h p 9 = true) : iWp 2 mX9_element 12 [a0, a1, a2] [.int x0, .ref p] h Q = iWp 2 mX9_element 15 [a0, a1, a2] [.int rv] h2 Q := iWp_cV dX9_element_12 fK_9_113 rfl rfl ho (Nat.le_of_ble_eq_true rfl) (Nat.le_of_ble_eq_true rfl) rfl (Nat.le_of_ble_eq_true rfl) he rfl
theorem X9_element_15 : iWp d mX9_element 15 [a0, a1, a2] (.int x :: st) h Q = if x = 0 then iWp d mX9_element 49 [a0, a1, a2] st h Q else iWp d mX9_element 18 [a0, a1, a2] st h Q := w_ifc_eq dX9_element_15 rfl
theorem X9_element_18 : iWp d mX9_element 18 [a0, a1, .int x] st h Q = iWp d mX9_element 19 [a0, a1, .int x] (.int x :: st) h Q := w_iload_n dX9_element_18 rfl
theorem X9_element_19 : iWp d mX9_element 19 [a0, a1, a2] st h Q = iWp d mX9_element 20 [a0, a1, a2] (.int 0 :: st) h Q := w_iconst dX9_element_19 rfl
theorem X9_element_20 : iWp d mX9_element 20 [.ref p, a1, a2] st h Q = iWp d mX9_element 21 [.ref p, a1, a2] (.ref p :: st) h Q := w_aload_n dX9_element_20 rfl
theorem X9_element_21 : iWp d mX9_element 21 [a0, a1, a2] (.ref p :: st) h Q = iOb (iGet h p 9 12) (fun v => iWp d mX9_element 24 [a0, a1, a2] (v :: st) h Q) := w_getf dX9_element_21 fF_9_34
theorem X9_element_24 : iWp d mX9_element 24 [a0, .int x, a2] st h Q = iWp d mX9_element 25 [a0, .int x, a2] (.int x :: st) h Q := w_iload_n dX9_element_24 rfl
theorem X9_element_25 : iWp d mX9_element 25 [a0, a1, a2] (.int x :: .ref p :: st) h Q = iOb (iLdI h p x) (fun v => iWp d mX9_element 26 [a0, a1, a2] (.int v :: st) h Q) := w_iaload dX9_element_25
theorem X9_element_26 : iWp d mX9_element 26 [a0, a1, a2] st h Q = iWp d mX9_element 27 [a0, a1, a2] (.int 1 :: st) h Q := w_iconst dX9_element_26 rfl
theorem X9_element_27 : iWp d mX9_element 27 [a0, a1, a2] (.int y :: .int x :: st) h Q = iWp d mX9_element 28 [a0, a1, a2] (.int (x - y) :: st) h Q := w_isub dX9_element_27
theorem X9_element_28 (he : iEv mX9_within [.int x0, .int x1, .int x2] h (some (.int rv)) h2) : iWp 2 mX9_element 28 [a0, a1, a2] [.int x2, .int x1, .int x0] h Q = iWp 2 mX9_element 31 [a0, a1, a2] [.int rv] h2 Q := iWp_cS dX9_element_28 fK_9_106 rfl rfl (Nat.le_of_ble_eq_true rfl) (Nat.le_of_ble_eq_true rfl) rfl (Nat.le_of_ble_eq_true rfl) he rfl
theorem X9_element_31 : iWp d mX9_element 31 [a0, a1, a2] (.int x :: st) h Q = if x = 0 then iWp d mX9_element 49 [a0, a1, a2] st h Q else iWp d mX9_element 34 [a0, a1, a2] st h Q := w_ifc_eq dX9_element_31 rfl
theorem X9_element_34 : iWp d mX9_element 34 [.ref p, a1, a2] st h Q = iWp d mX9_element 35 [.ref p, a1, a2] (.ref p :: st) h Q := w_aload_n dX9_element_34 rfl
theorem X9_element_35 : iWp d mX9_element 35 [a0, a1, a2] (.ref p :: st) h Q = iOb (iGet h p 9 13) (fun v => iWp d mX9_element 38 [a0, a1, a2] (v :: st) h Q) := w_getf dX9_element_35 fF_9_37
theorem X9_element_38 : iWp d mX9_element 38 [a0, a1, a2] st h Q = iWp d mX9_element 41 [a0, a1, a2] (.int 160 :: st) h Q := w_sipush dX9_element_38 rfl
theorem X9_element_41 : iWp d mX9_element 41 [a0, .int x, a2] st h Q = iWp d mX9_element 42 [a0, .int x, a2] (.int x :: st) h Q := w_iload_n dX9_element_41 rfl
theorem X9_element_42 : iWp d mX9_element 42 [a0, a1, a2] (.int y :: .int x :: st) h Q = iWp d mX9_element 43 [a0, a1, a2] (.int (x * y) :: st) h Q := w_imul dX9_element_42
theorem X9_element_43 : iWp d mX9_element 43 [a0, a1, .int x] st h Q = iWp d mX9_element 44 [a0, a1, .int x] (.int x :: st) h Q := w_iload_n dX9_element_43 rfl
theorem X9_element_44 : iWp d mX9_element 44 [a0, a1, a2] (.int y :: .int x :: st) h Q = iWp d mX9_element 45 [a0, a1, a2] (.int (x + y) :: st) h Q := w_iadd dX9_element_44
theorem X9_element_45 : iWp d mX9_element 45 [a0, a1, a2] (.int x :: .ref p :: st) h Q = iOb (iLdL h p x) (fun v => iWp d mX9_element 46 [a0, a1, a2] (.long v :: st) h Q) := w_laload dX9_element_45
theorem X9_element_46 : iWp d mX9_element 46 [a0, a1, a2] st h Q = iWp d mX9_element 50 [a0, a1, a2] st h Q := w_goto dX9_element_46 rfl
theorem X9_element_49 : iWp d mX9_element 49 [a0, a1, a2] st h Q = iWp d mX9_element 50 [a0, a1, a2] (.long 0 :: st) h Q := w_lconst dX9_element_49 rfl
theorem X9_element_50 : iWp d mX9_element 50 [a0, a1, a2] [.long u] h Q = Q (some (.long u)) h := w_lret dX9_element_50 rfl
theorem I9_element {Q : Option Value → iHp → Prop} (hw : iWp 2 mX9_element 0 [.ref p, .int x0, .int x1] [] h Q) : ∃ r h1, iEv mX9_element [.ref p, .int x0, .int x1] h r h1 ∧ Q r h1 := iEv_of (by rfl) rfl hw
theorem J9_element {r : Option Value} {h1 : iHp} (hw : iWp 2 mX9_element 0 [.ref p, .int x0, .int x1] [] h (fun r' h' => r' = r ∧ h' = h1)) : iEv mX9_element [.ref p, .int x0, .int x1] h r h1 := iEv_ev (by rfl) rfl hw
theorem X9_end_0 : iWp d mX9_end 0 [a0, .int x, a2] st h Q = iWp d mX9_end 1 [a0, .int x, a2] (.int x :: st) h Q := w_iload_n dX9_end_0 rfl
theorem X9_end_1 : iWp d mX9_end 1 [a0, a1, a2] st h Q = iWp d mX9_end 2 [a0, a1, a2] (.int 1 :: st) h Q := w_iconst dX9_end_1 rfl
theorem X9_end_2 : iWp d mX9_end 2 [a0, a1, a2] (.int y :: .int x :: st) h Q = iWp d mX9_end 3 [a0, a1, a2] (.int (x + y) :: st) h Q := w_iadd dX9_end_2
theorem X9_end_3 : iWp d mX9_end 3 [a0, a1, a2] (.int x :: st) h Q = iWp d mX9_end 4 [a0, iClr a1, .int x] st h Q := w_istore_n dX9_end_3 (Nat.le_of_ble_eq_true rfl) rfl
theorem X9_end_4 : iWp d mX9_end 4 [a0, a1, .int x] st h Q = iWp d mX9_end 5 [a0, a1, .int x] (.int x :: st) h Q := w_iload_n dX9_end_4 rfl
theorem X9_end_5 : iWp d mX9_end 5 [.ref p, a1, a2] st h Q = iWp d mX9_end 6 [.ref p, a1, a2] (.ref p :: st) h Q := w_aload_n dX9_end_5 rfl
theorem X9_end_6 : iWp d mX9_end 6 [a0, a1, a2] (.ref p :: st) h Q = iOb (iGet h p 9 18) (fun v => iWp d mX9_end 9 [a0, a1, a2] (v :: st) h Q) := w_getf dX9_end_6 fF_9_127
theorem X9_end_9 : iWp d mX9_end 9 [a0, a1, a2] (.int y :: .int x :: st) h Q = if y ≤ x then iWp d mX9_end 33 [a0, a1, a2] st h Q else iWp d mX9_end 12 [a0, a1, a2] st h Q := w_icmp_ge dX9_end_9 rfl
theorem X9_end_12 : iWp d mX9_end 12 [.ref p, a1, a2] st h Q = iWp d mX9_end 13 [.ref p, a1, a2] (.ref p :: st) h Q := w_aload_n dX9_end_12 rfl
theorem X9_end_13 : iWp d mX9_end 13 [a0, a1, a2] (.ref p :: st) h Q = iOb (iGet h p 9 21) (fun v => iWp d mX9_end 16 [a0, a1, a2] (v :: st) h Q) := w_getf dX9_end_13 fF_9_50
theorem X9_end_16 : iWp d mX9_end 16 [a0, a1, .int x] st h Q = iWp d mX9_end 17 [a0, a1, .int x] (.int x :: st) h Q := w_iload_n dX9_end_16 rfl
theorem X9_end_17 : iWp d mX9_end 17 [a0, a1, a2] (.int x :: .ref p :: st) h Q = iOb (iLdI h p x) (fun v => iWp d mX9_end 18 [a0, a1, a2] (.int v :: st) h Q) := w_iaload dX9_end_17
theorem X9_end_18 : iWp d mX9_end 18 [.ref p, a1, a2] st h Q = iWp d mX9_end 19 [.ref p, a1, a2] (.ref p :: st) h Q := w_aload_n dX9_end_18 rfl
theorem X9_end_19 : iWp d mX9_end 19 [a0, a1, a2] (.ref p :: st) h Q = iOb (iGet h p 9 21) (fun v => iWp d mX9_end 22 [a0, a1, a2] (v :: st) h Q) := w_getf dX9_end_19 fF_9_50
theorem X9_end_22 : iWp d mX9_end 22 [a0, .int x, a2] st h Q = iWp d mX9_end 23 [a0, .int x, a2] (.int x :: st) h Q := w_iload_n dX9_end_22 rfl
theorem X9_end_23 : iWp d mX9_end 23 [a0, a1, a2] (.int x :: .ref p :: st) h Q = iOb (iLdI h p x) (fun v => iWp d mX9_end 24 [a0, a1, a2] (.int v :: st) h Q) := w_iaload dX9_end_23
theorem X9_end_24 : iWp d mX9_end 24 [a0, a1, a2] (.int y :: .int x :: st) h Q = if x ≤ y then iWp d mX9_end 33 [a0, a1, a2] st h Q else iWp d mX9_end 27 [a0, a1, a2] st h Q := w_icmp_le dX9_end_24 rfl
theorem X9_end_27 : iWp d mX9_end 27 [a0, a1, .int x] st h Q = iWp d mX9_end 30 [a0, iClr a1, .int (x + 1)] st h Q := w_iinc dX9_end_27 rfl (Nat.le_of_ble_eq_true rfl) rfl
theorem X9_end_30 : iWp d mX9_end 30 [a0, a1, a2] st h Q = iWp d mX9_end 4 [a0, a1, a2] st h Q := w_goto dX9_end_30 rfl
theorem X9_end_33 : iWp d mX9_end 33 [a0, a1, .int x] st h Q = iWp d mX9_end 34 [a0, a1, .int x] (.int x :: st) h Q := w_iload_n dX9_end_33 rfl
theorem X9_end_34 : iWp d mX9_end 34 [a0, a1, a2] [.int x] h Q = Q (some (.int x)) h := w_ireti dX9_end_34 rfl
theorem I9_end {Q : Option Value → iHp → Prop} (hw : iWp 1 mX9_end 0 [.ref p, .int x0, iU] [] h Q) : ∃ r h1, iEv mX9_end [.ref p, .int x0] h r h1 ∧ Q r h1 := iEv_of (by rfl) rfl hw
theorem J9_end {r : Option Value} {h1 : iHp} (hw : iWp 1 mX9_end 0 [.ref p, .int x0, iU] [] h (fun r' h' => r' = r ∧ h' = h1)) : iEv mX9_end [.ref p, .int x0] h r h1 := iEv_ev (by rfl) rfl hw
theorem X9_far_0 : iWp d mX9_far 0 [.ref p, a1, a2] st h Q = iWp d mX9_far 1 [.ref p, a1, a2] (.ref p :: st) h Q := w_aload_n dX9_far_0 rfl
theorem X9_far_1 : iWp d mX9_far 1 [a0, .int x, a2] st h Q = iWp d mX9_far 2 [a0, .int x, a2] (.int x :: st) h Q := w_iload_n dX9_far_1 rfl
theorem X9_far_2 (he : iEv mX9_isTree [.ref p, .int x0] h (some (.int rv)) h2) (ho : iObj h p 9 = true) : iWp 9 mX9_far 2 [a0, a1, a2] [.int x0, .ref p] h Q = iWp 9 mX9_far 5 [a0, a1, a2] [.int rv] h2 Q := iWp_cV dX9_far_2 fK_9_166 rfl rfl ho (Nat.le_of_ble_eq_true rfl) (Nat.le_of_ble_eq_true rfl) rfl (Nat.le_of_ble_eq_true rfl) he rfl
theorem X9_far_5 : iWp d mX9_far 5 [a0, a1, a2] (.int x :: st) h Q = if x = 0 then iWp d mX9_far 16 [a0, a1, a2] st h Q else iWp d mX9_far 8 [a0, a1, a2] st h Q := w_ifc_eq dX9_far_5 rfl
theorem X9_far_8 : iWp d mX9_far 8 [.ref p, a1, a2] st h Q = iWp d mX9_far 9 [.ref p, a1, a2] (.ref p :: st) h Q := w_aload_n dX9_far_8 rfl
theorem X9_far_9 : iWp d mX9_far 9 [a0, a1, .int x] st h Q = iWp d mX9_far 10 [a0, a1, .int x] (.int x :: st) h Q := w_iload_n dX9_far_9 rfl
theorem X9_far_10 (he : iEv mX9_isTree [.ref p, .int x0] h (some (.int rv)) h2) (ho : iObj h p 9 = true) : iWp 9 mX9_far 10 [a0, a1, a2] [.int x0, .ref p] h Q = iWp 9 mX9_far 13 [a0, a1, a2] [.int rv] h2 Q := iWp_cV dX9_far_10 fK_9_166 rfl rfl ho (Nat.le_of_ble_eq_true rfl) (Nat.le_of_ble_eq_true rfl) rfl (Nat.le_of_ble_eq_true rfl) he rfl
theorem X9_far_13 : iWp d mX9_far 13 [a0, a1, a2] (.int x :: st) h Q = if x = 0 then iWp d mX9_far 16 [a0, a1, a2] st h Q else iWp d mX9_far 22 [a0, a1, a2] st h Q := w_ifc_ne dX9_far_13 rfl
theorem X9_far_16 : iWp d mX9_far 16 [.ref p, a1, a2] st h Q = iWp d mX9_far 17 [.ref p, a1, a2] (.ref p :: st) h Q := w_aload_n dX9_far_16 rfl
theorem X9_far_17 : iWp d mX9_far 17 [a0, a1, a2] st h Q = iWp d mX9_far 18 [a0, a1, a2] (.int (-1) :: st) h Q := w_iconst dX9_far_17 rfl
theorem X9_far_18 (he : iEv mX9_no [.ref p, .int x0] h (some (.int rv)) h2) (ho : iObj h p 9 = true) : iWp 9 mX9_far 18 [a0, a1, a2] [.int x0, .ref p] h Q = iWp 9 mX9_far 21 [a0, a1, a2] [.int rv] h2 Q := iWp_cV dX9_far_18 fK_9_99 rfl rfl ho (Nat.le_of_ble_eq_true rfl) (Nat.le_of_ble_eq_true rfl) rfl (Nat.le_of_ble_eq_true rfl) he rfl
theorem X9_far_21 : iWp d mX9_far 21 [a0, a1, a2] [.int x] h Q = Q (some (.int x)) h := w_ireti dX9_far_21 rfl
theorem X9_far_22 : iWp d mX9_far 22 [.ref p, a1, a2] st h Q = iWp d mX9_far 23 [.ref p, a1, a2] (.ref p :: st) h Q := w_aload_n dX9_far_22 rfl
theorem X9_far_23 : iWp d mX9_far 23 [a0, .int x, a2] st h Q = iWp d mX9_far 24 [a0, .int x, a2] (.int x :: st) h Q := w_iload_n dX9_far_23 rfl
theorem X9_far_24 : iWp d mX9_far 24 [a0, a1, .int x] st h Q = iWp d mX9_far 25 [a0, a1, .int x] (.int x :: st) h Q := w_iload_n dX9_far_24 rfl
theorem X9_far_25 (he : iEv mX9_isUnlike [.ref p, .int x0, .int x1] h (some (.int rv)) h2) (ho : iObj h p 9 = true) : iWp 9 mX9_far 25 [a0, a1, a2] [.int x1, .int x0, .ref p] h Q = iWp 9 mX9_far 28 [a0, a1, a2] [.int rv] h2 Q := iWp_cV dX9_far_25 fK_9_245 rfl rfl ho (Nat.le_of_ble_eq_true rfl) (Nat.le_of_ble_eq_true rfl) rfl (Nat.le_of_ble_eq_true rfl) he rfl
theorem X9_far_28 : iWp d mX9_far 28 [a0, a1, a2] (.int x :: st) h Q = if x = 0 then iWp d mX9_far 38 [a0, a1, a2] st h Q else iWp d mX9_far 31 [a0, a1, a2] st h Q := w_ifc_eq dX9_far_28 rfl
theorem X9_far_31 : iWp d mX9_far 31 [.ref p, a1, a2] st h Q = iWp d mX9_far 32 [.ref p, a1, a2] (.ref p :: st) h Q := w_aload_n dX9_far_31 rfl
theorem X9_far_32 : iWp d mX9_far 32 [a0, a1, a2] st h Q = iWp d mX9_far 34 [a0, a1, a2] (.int (-6) :: st) h Q := w_bipush dX9_far_32 rfl
theorem X9_far_34 (he : iEv mX9_no [.ref p, .int x0] h (some (.int rv)) h2) (ho : iObj h p 9 = true) : iWp 9 mX9_far 34 [a0, a1, a2] [.int x0, .ref p] h Q = iWp 9 mX9_far 37 [a0, a1, a2] [.int rv] h2 Q := iWp_cV dX9_far_34 fK_9_99 rfl rfl ho (Nat.le_of_ble_eq_true rfl) (Nat.le_of_ble_eq_true rfl) rfl (Nat.le_of_ble_eq_true rfl) he rfl
theorem X9_far_37 : iWp d mX9_far 37 [a0, a1, a2] [.int x] h Q = Q (some (.int x)) h := w_ireti dX9_far_37 rfl
theorem X9_far_38 : iWp d mX9_far 38 [.ref p, a1, a2] st h Q = iWp d mX9_far 39 [.ref p, a1, a2] (.ref p :: st) h Q := w_aload_n dX9_far_38 rfl
theorem X9_far_39 : iWp d mX9_far 39 [a0, .int x, a2] st h Q = iWp d mX9_far 40 [a0, .int x, a2] (.int x :: st) h Q := w_iload_n dX9_far_39 rfl
theorem X9_far_40 : iWp d mX9_far 40 [a0, a1, .int x] st h Q = iWp d mX9_far 41 [a0, a1, .int x] (.int x :: st) h Q := w_iload_n dX9_far_40 rfl
theorem X9_far_41 (he : iEv mX9_differs [.ref p, .int x0, .int x1] h none h2) (ho : iObj h p 9 = true) : iWp 9 mX9_far 41 [a0, a1, a2] [.int x1, .int x0, .ref p] h Q = iWp 9 mX9_far 44 [a0, a1, a2] [] h2 Q := iWp_cV dX9_far_41 fK_9_248 rfl rfl ho (Nat.le_of_ble_eq_true rfl) (Nat.le_of_ble_eq_true rfl) rfl (Nat.le_of_ble_eq_true rfl) he rfl
theorem X9_far_44 : iWp d mX9_far 44 [.ref p, a1, a2] st h Q = iWp d mX9_far 45 [.ref p, a1, a2] (.ref p :: st) h Q := w_aload_n dX9_far_44 rfl
theorem X9_far_45 : iWp d mX9_far 45 [a0, a1, a2] (.ref p :: st) h Q = iOb (iGet h p 9 25) (fun v => iWp d mX9_far 48 [a0, a1, a2] (v :: st) h Q) := w_getf dX9_far_45 fF_9_200
theorem X9_far_48 : iWp d mX9_far 48 [a0, a1, a2] [.int x] h Q = Q (some (.int x)) h := w_ireti dX9_far_48 rfl
theorem I9_far {Q : Option Value → iHp → Prop} (hw : iWp 9 mX9_far 0 [.ref p, .int x0, .int x1] [] h Q) : ∃ r h1, iEv mX9_far [.ref p, .int x0, .int x1] h r h1 ∧ Q r h1 := iEv_of (by rfl) rfl hw
theorem J9_far {r : Option Value} {h1 : iHp} (hw : iWp 9 mX9_far 0 [.ref p, .int x0, .int x1] [] h (fun r' h' => r' = r ∧ h' = h1)) : iEv mX9_far [.ref p, .int x0, .int x1] h r h1 := iEv_ev (by rfl) rfl hw
theorem X9_fault_0 : iWp d mX9_fault 0 [.ref p] st h Q = iWp d mX9_fault 1 [.ref p] (.ref p :: st) h Q := w_aload_n dX9_fault_0 rfl
theorem X9_fault_1 : iWp d mX9_fault 1 [a0] (.ref p :: st) h Q = iOb (iGet h p 9 14) (fun v => iWp d mX9_fault 4 [a0] (v :: st) h Q) := w_getf dX9_fault_1 fF_9_96
theorem X9_fault_4 : iWp d mX9_fault 4 [a0] [.int x] h Q = Q (some (.int x)) h := w_ireti dX9_fault_4 rfl
theorem I9_fault {Q : Option Value → iHp → Prop} (hw : iWp 1 mX9_fault 0 [.ref p] [] h Q) : ∃ r h1, iEv mX9_fault [.ref p] h r h1 ∧ Q r h1 := iEv_of (by rfl) rfl hw
theorem J9_fault {r : Option Value} {h1 : iHp} (hw : iWp 1 mX9_fault 0 [.ref p] [] h (fun r' h' => r' = r ∧ h' = h1)) : iEv mX9_fault [.ref p] h r h1 := iEv_ev (by rfl) rfl hw
theorem X9_find_0 : iWp d mX9_find 0 [a0, a1, a2] st h Q = iWp d mX9_find 1 [a0, a1, a2] (.int 0 :: st) h Q := w_iconst dX9_find_0 rfl
theorem X9_find_1 : iWp d mX9_find 1 [a0, a1, a2] (.int x :: st) h Q = iWp d mX9_find 2 [a0, iClr a1, .int x] st h Q := w_istore_n dX9_find_1 (Nat.le_of_ble_eq_true rfl) rfl
theorem X9_find_2 : iWp d mX9_find 2 [a0, a1, .int x] st h Q = iWp d mX9_find 3 [a0, a1, .int x] (.int x :: st) h Q := w_iload_n dX9_find_2 rfl
theorem X9_find_3 : iWp d mX9_find 3 [.ref p, a1, a2] st h Q = iWp d mX9_find 4 [.ref p, a1, a2] (.ref p :: st) h Q := w_aload_n dX9_find_3 rfl
theorem X9_find_4 : iWp d mX9_find 4 [a0, a1, a2] (.ref p :: st) h Q = iOb (iGet h p 9 18) (fun v => iWp d mX9_find 7 [a0, a1, a2] (v :: st) h Q) := w_getf dX9_find_4 fF_9_127
theorem X9_find_7 : iWp d mX9_find 7 [a0, a1, a2] (.int y :: .int x :: st) h Q = if y ≤ x then iWp d mX9_find 28 [a0, a1, a2] st h Q else iWp d mX9_find 10 [a0, a1, a2] st h Q := w_icmp_ge dX9_find_7 rfl
theorem X9_find_10 : iWp d mX9_find 10 [.ref p, a1, a2] st h Q = iWp d mX9_find 11 [.ref p, a1, a2] (.ref p :: st) h Q := w_aload_n dX9_find_10 rfl
theorem X9_find_11 : iWp d mX9_find 11 [a0, a1, a2] (.ref p :: st) h Q = iOb (iGet h p 9 19) (fun v => iWp d mX9_find 14 [a0, a1, a2] (v :: st) h Q) := w_getf dX9_find_11 fF_9_44
theorem X9_find_14 : iWp d mX9_find 14 [a0, a1, .int x] st h Q = iWp d mX9_find 15 [a0, a1, .int x] (.int x :: st) h Q := w_iload_n dX9_find_14 rfl
theorem X9_find_15 : iWp d mX9_find 15 [a0, a1, a2] (.int x :: .ref p :: st) h Q = iOb (iLdI h p x) (fun v => iWp d mX9_find 16 [a0, a1, a2] (.int v :: st) h Q) := w_iaload dX9_find_15
theorem X9_find_16 : iWp d mX9_find 16 [a0, .int x, a2] st h Q = iWp d mX9_find 17 [a0, .int x, a2] (.int x :: st) h Q := w_iload_n dX9_find_16 rfl
theorem X9_find_17 : iWp d mX9_find 17 [a0, a1, a2] (.int y :: .int x :: st) h Q = if x = y then iWp d mX9_find 20 [a0, a1, a2] st h Q else iWp d mX9_find 22 [a0, a1, a2] st h Q := w_icmp_ne dX9_find_17 rfl
theorem X9_find_20 : iWp d mX9_find 20 [a0, a1, .int x] st h Q = iWp d mX9_find 21 [a0, a1, .int x] (.int x :: st) h Q := w_iload_n dX9_find_20 rfl
theorem X9_find_21 : iWp d mX9_find 21 [a0, a1, a2] [.int x] h Q = Q (some (.int x)) h := w_ireti dX9_find_21 rfl
theorem X9_find_22 : iWp d mX9_find 22 [a0, a1, .int x] st h Q = iWp d mX9_find 25 [a0, iClr a1, .int (x + 1)] st h Q := w_iinc dX9_find_22 rfl (Nat.le_of_ble_eq_true rfl) rfl
theorem X9_find_25 : iWp d mX9_find 25 [a0, a1, a2] st h Q = iWp d mX9_find 2 [a0, a1, a2] st h Q := w_goto dX9_find_25 rfl
theorem X9_find_28 : iWp d mX9_find 28 [a0, a1, a2] st h Q = iWp d mX9_find 29 [a0, a1, a2] (.int (-1) :: st) h Q := w_iconst dX9_find_28 rfl
theorem X9_find_29 : iWp d mX9_find 29 [a0, a1, a2] [.int x] h Q = Q (some (.int x)) h := w_ireti dX9_find_29 rfl
theorem I9_find {Q : Option Value → iHp → Prop} (hw : iWp 1 mX9_find 0 [.ref p, .int x0, iU] [] h Q) : ∃ r h1, iEv mX9_find [.ref p, .int x0] h r h1 ∧ Q r h1 := iEv_of (by rfl) rfl hw
theorem J9_find {r : Option Value} {h1 : iHp} (hw : iWp 1 mX9_find 0 [.ref p, .int x0, iU] [] h (fun r' h' => r' = r ∧ h' = h1)) : iEv mX9_find [.ref p, .int x0] h r h1 := iEv_ev (by rfl) rfl hw
theorem X9_find__0 : iWp d mX9_find_ 0 [.ref p, a1, a2] st h Q = iWp d mX9_find_ 1 [.ref p, a1, a2] (.ref p :: st) h Q := w_aload_n dX9_find__0 rfl
theorem X9_find__1 : iWp d mX9_find_ 1 [a0, .int x, a2] st h Q = iWp d mX9_find_ 2 [a0, .int x, a2] (.int x :: st) h Q := w_iload_n dX9_find__1 rfl
theorem X9_find__2 (he : iEv mX9_isTree [.ref p, .int x0] h (some (.int rv)) h2) (ho : iObj h p 9 = true) : iWp 3 mX9_find_ 2 [a0, a1, a2] [.int x0, .ref p] h Q = iWp 3 mX9_find_ 5 [a0, a1, a2] [.int rv] h2 Q := iWp_cV dX9_find__2 fK_9_166 rfl rfl ho (Nat.le_of_ble_eq_true rfl) (Nat.le_of_ble_eq_true rfl) rfl (Nat.le_of_ble_eq_true rfl) he rfl
theorem X9_find__5 : iWp d mX9_find_ 5 [a0, a1, a2] (.int x :: st) h Q = if x = 0 then iWp d mX9_find_ 8 [a0, a1, a2] st h Q else iWp d mX9_find_ 14 [a0, a1, a2] st h Q := w_ifc_ne dX9_find__5 rfl
theorem X9_find__8 : iWp d mX9_find_ 8 [.ref p, a1, a2] st h Q = iWp d mX9_find_ 9 [.ref p, a1, a2] (.ref p :: st) h Q := w_aload_n dX9_find__8 rfl
theorem X9_find__9 : iWp d mX9_find_ 9 [a0, a1, a2] st h Q = iWp d mX9_find_ 10 [a0, a1, a2] (.int (-1) :: st) h Q := w_iconst dX9_find__9 rfl
theorem X9_find__10 (he : iEv mX9_no10 [.ref p, .int x0] h (some (.int rv)) h2) (ho : iObj h p 9 = true) : iWp 3 mX9_find_ 10 [a0, a1, a2] [.int x0, .ref p] h Q = iWp 3 mX9_find_ 13 [a0, a1, a2] [.int rv] h2 Q := iWp_cV dX9_find__10 fK_9_181 rfl rfl ho (Nat.le_of_ble_eq_true rfl) (Nat.le_of_ble_eq_true rfl) rfl (Nat.le_of_ble_eq_true rfl) he rfl
theorem X9_find__13 : iWp d mX9_find_ 13 [a0, a1, a2] [.int x] h Q = Q (some (.int x)) h := w_ireti dX9_find__13 rfl
theorem X9_find__14 : iWp d mX9_find_ 14 [.ref p, a1, a2] st h Q = iWp d mX9_find_ 15 [.ref p, a1, a2] (.ref p :: st) h Q := w_aload_n dX9_find__14 rfl
theorem X9_find__15 : iWp d mX9_find_ 15 [a0, .int x, a2] st h Q = iWp d mX9_find_ 16 [a0, .int x, a2] (.int x :: st) h Q := w_iload_n dX9_find__15 rfl
theorem X9_find__16 (he : iEv mX9_loads [.ref p, .int x0] h none h2) (ho : iObj h p 9 = true) : iWp 3 mX9_find_ 16 [a0, a1, a2] [.int x0, .ref p] h Q = iWp 3 mX9_find_ 19 [a0, a1, a2] [] h2 Q := iWp_cV dX9_find__16 fK_9_169 rfl rfl ho (Nat.le_of_ble_eq_true rfl) (Nat.le_of_ble_eq_true rfl) rfl (Nat.le_of_ble_eq_true rfl) he rfl
theorem X9_find__19 : iWp d mX9_find_ 19 [.ref p, a1, a2] st h Q = iWp d mX9_find_ 20 [.ref p, a1, a2] (.ref p :: st) h Q := w_aload_n dX9_find__19 rfl
theorem X9_find__20 : iWp d mX9_find_ 20 [a0, a1, .int x] st h Q = iWp d mX9_find_ 21 [a0, a1, .int x] (.int x :: st) h Q := w_iload_n dX9_find__20 rfl
theorem X9_find__21 (he : iEv mX9_find [.ref p, .int x0] h (some (.int rv)) h2) (ho : iObj h p 9 = true) : iWp 3 mX9_find_ 21 [a0, a1, a2] [.int x0, .ref p] h Q = iWp 3 mX9_find_ 24 [a0, a1, a2] [.int rv] h2 Q := iWp_cV dX9_find__21 fK_9_153 rfl rfl ho (Nat.le_of_ble_eq_true rfl) (Nat.le_of_ble_eq_true rfl) rfl (Nat.le_of_ble_eq_true rfl) he rfl
theorem X9_find__24 : iWp d mX9_find_ 24 [a0, a1, a2] [.int x] h Q = Q (some (.int x)) h := w_ireti dX9_find__24 rfl
theorem I9_find_ {Q : Option Value → iHp → Prop} (hw : iWp 3 mX9_find_ 0 [.ref p, .int x0, .int x1] [] h Q) : ∃ r h1, iEv mX9_find_ [.ref p, .int x0, .int x1] h r h1 ∧ Q r h1 := iEv_of (by rfl) rfl hw
theorem J9_find_ {r : Option Value} {h1 : iHp} (hw : iWp 3 mX9_find_ 0 [.ref p, .int x0, .int x1] [] h (fun r' h' => r' = r ∧ h' = h1)) : iEv mX9_find_ [.ref p, .int x0, .int x1] h r h1 := iEv_ev (by rfl) rfl hw
theorem X9_forget_0 : iWp d mX9_forget 0 [.ref p, a1] st h Q = iWp d mX9_forget 1 [.ref p, a1] (.ref p :: st) h Q := w_aload_n dX9_forget_0 rfl
theorem X9_forget_1 : iWp d mX9_forget 1 [a0, a1] (.ref p :: st) h Q = iOb (iGet h p 9 5) (fun v => iWp d mX9_forget 4 [a0, a1] (v :: st) h Q) := w_getf dX9_forget_1 fF_9_110
theorem X9_forget_4 : iWp d mX9_forget 4 [a0, a1] (.int x :: st) h Q = if x = 0 then iWp d mX9_forget 7 [a0, a1] st h Q else iWp d mX9_forget 14 [a0, a1] st h Q := w_ifc_ne dX9_forget_4 rfl
theorem X9_forget_7 : iWp d mX9_forget 7 [.ref p, a1] st h Q = iWp d mX9_forget 8 [.ref p, a1] (.ref p :: st) h Q := w_aload_n dX9_forget_7 rfl
theorem X9_forget_8 : iWp d mX9_forget 8 [a0, a1] st h Q = iWp d mX9_forget 10 [a0, a1] (.int (-6) :: st) h Q := w_bipush dX9_forget_8 rfl
theorem X9_forget_10 (he : iEv mX9_no [.ref p, .int x0] h (some (.int rv)) h2) (ho : iObj h p 9 = true) : iWp 2 mX9_forget 10 [a0, a1] [.int x0, .ref p] h Q = iWp 2 mX9_forget 13 [a0, a1] [.int rv] h2 Q := iWp_cV dX9_forget_10 fK_9_99 rfl rfl ho (Nat.le_of_ble_eq_true rfl) (Nat.le_of_ble_eq_true rfl) rfl (Nat.le_of_ble_eq_true rfl) he rfl
theorem X9_forget_13 : iWp d mX9_forget 13 [a0, a1] [.int x] h Q = Q (some (.int x)) h := w_ireti dX9_forget_13 rfl
theorem X9_forget_14 : iWp d mX9_forget 14 [.ref p, a1] st h Q = iWp d mX9_forget 15 [.ref p, a1] (.ref p :: st) h Q := w_aload_n dX9_forget_14 rfl
theorem X9_forget_15 : iWp d mX9_forget 15 [a0, a1] (.ref p :: st) h Q = iWp d mX9_forget 16 [a0, a1] (.ref p :: .ref p :: st) h Q := w_dup dX9_forget_15 rfl
theorem X9_forget_16 : iWp d mX9_forget 16 [a0, a1] (.ref p :: st) h Q = iOb (iGet h p 9 5) (fun v => iWp d mX9_forget 19 [a0, a1] (v :: st) h Q) := w_getf dX9_forget_16 fF_9_110
theorem X9_forget_19 : iWp d mX9_forget 19 [a0, a1] st h Q = iWp d mX9_forget 20 [a0, a1] (.int 1 :: st) h Q := w_iconst dX9_forget_19 rfl
theorem X9_forget_20 : iWp d mX9_forget 20 [a0, a1] (.int y :: .int x :: st) h Q = iWp d mX9_forget 21 [a0, a1] (.int (x - y) :: st) h Q := w_isub dX9_forget_20
theorem X9_forget_21 : iWp d mX9_forget 21 [a0, a1] (.int x :: .ref p :: st) h Q = iOb (iPut h p 9 5 (.int x)) (fun g => iWp d mX9_forget 24 [a0, a1] st g Q) := w_putf dX9_forget_21 fF_9_110 ⟨rfl, (Or.inl rfl)⟩
theorem X9_forget_24 : iWp d mX9_forget 24 [a0, a1] st h Q = iWp d mX9_forget 25 [a0, a1] (.int 0 :: st) h Q := w_iconst dX9_forget_24 rfl
theorem X9_forget_25 : iWp d mX9_forget 25 [a0, a1] (.int x :: st) h Q = iWp d mX9_forget 26 [iClr a0, .int x] st h Q := w_istore_n dX9_forget_25 (Nat.le_of_ble_eq_true rfl) rfl
theorem X9_forget_26 : iWp d mX9_forget 26 [a0, .int x] st h Q = iWp d mX9_forget 27 [a0, .int x] (.int x :: st) h Q := w_iload_n dX9_forget_26 rfl
theorem X9_forget_27 : iWp d mX9_forget 27 [a0, a1] st h Q = iWp d mX9_forget 29 [a0, a1] (.int 8 :: st) h Q := w_bipush dX9_forget_27 rfl
theorem X9_forget_29 : iWp d mX9_forget 29 [a0, a1] (.int y :: .int x :: st) h Q = if y ≤ x then iWp d mX9_forget 58 [a0, a1] st h Q else iWp d mX9_forget 32 [a0, a1] st h Q := w_icmp_ge dX9_forget_29 rfl
theorem X9_forget_32 : iWp d mX9_forget 32 [.ref p, a1] st h Q = iWp d mX9_forget 33 [.ref p, a1] (.ref p :: st) h Q := w_aload_n dX9_forget_32 rfl
theorem X9_forget_33 : iWp d mX9_forget 33 [a0, a1] (.ref p :: st) h Q = iOb (iGet h p 9 11) (fun v => iWp d mX9_forget 36 [a0, a1] (v :: st) h Q) := w_getf dX9_forget_33 fF_9_31
theorem X9_forget_36 : iWp d mX9_forget 36 [a0, .int x] st h Q = iWp d mX9_forget 37 [a0, .int x] (.int x :: st) h Q := w_iload_n dX9_forget_36 rfl
theorem X9_forget_37 : iWp d mX9_forget 37 [a0, a1] (.int x :: .ref p :: st) h Q = iOb (iLdI h p x) (fun v => iWp d mX9_forget 38 [a0, a1] (.int v :: st) h Q) := w_iaload dX9_forget_37
theorem X9_forget_38 : iWp d mX9_forget 38 [.ref p, a1] st h Q = iWp d mX9_forget 39 [.ref p, a1] (.ref p :: st) h Q := w_aload_n dX9_forget_38 rfl
theorem X9_forget_39 : iWp d mX9_forget 39 [a0, a1] (.ref p :: st) h Q = iOb (iGet h p 9 5) (fun v => iWp d mX9_forget 42 [a0, a1] (v :: st) h Q) := w_getf dX9_forget_39 fF_9_110
theorem X9_forget_42 : iWp d mX9_forget 42 [a0, a1] (.int y :: .int x :: st) h Q = if x = y then iWp d mX9_forget 45 [a0, a1] st h Q else iWp d mX9_forget 52 [a0, a1] st h Q := w_icmp_ne dX9_forget_42 rfl
theorem X9_forget_45 : iWp d mX9_forget 45 [.ref p, a1] st h Q = iWp d mX9_forget 46 [.ref p, a1] (.ref p :: st) h Q := w_aload_n dX9_forget_45 rfl
theorem X9_forget_46 : iWp d mX9_forget 46 [a0, a1] (.ref p :: st) h Q = iOb (iGet h p 9 11) (fun v => iWp d mX9_forget 49 [a0, a1] (v :: st) h Q) := w_getf dX9_forget_46 fF_9_31
theorem X9_forget_49 : iWp d mX9_forget 49 [a0, .int x] st h Q = iWp d mX9_forget 50 [a0, .int x] (.int x :: st) h Q := w_iload_n dX9_forget_49 rfl
theorem X9_forget_50 : iWp d mX9_forget 50 [a0, a1] st h Q = iWp d mX9_forget 51 [a0, a1] (.int (-1) :: st) h Q := w_iconst dX9_forget_50 rfl
theorem X9_forget_51 : iWp d mX9_forget 51 [a0, a1] (.int y :: .int x :: .ref p :: st) h Q = iOb (iStI h p x y) (fun g => iWp d mX9_forget 52 [a0, a1] st g Q) := w_iastore dX9_forget_51
theorem X9_forget_52 : iWp d mX9_forget 52 [a0, .int x] st h Q = iWp d mX9_forget 55 [iClr a0, .int (x + 1)] st h Q := w_iinc dX9_forget_52 rfl (Nat.le_of_ble_eq_true rfl) rfl
theorem X9_forget_55 : iWp d mX9_forget 55 [a0, a1] st h Q = iWp d mX9_forget 26 [a0, a1] st h Q := w_goto dX9_forget_55 rfl
theorem X9_forget_58 : iWp d mX9_forget 58 [.ref p, a1] st h Q = iWp d mX9_forget 59 [.ref p, a1] (.ref p :: st) h Q := w_aload_n dX9_forget_58 rfl
theorem X9_forget_59 : iWp d mX9_forget 59 [a0, a1] (.ref p :: st) h Q = iOb (iGet h p 9 5) (fun v => iWp d mX9_forget 62 [a0, a1] (v :: st) h Q) := w_getf dX9_forget_59 fF_9_110
theorem X9_forget_62 : iWp d mX9_forget 62 [a0, a1] [.int x] h Q = Q (some (.int x)) h := w_ireti dX9_forget_62 rfl
theorem I9_forget {Q : Option Value → iHp → Prop} (hw : iWp 2 mX9_forget 0 [.ref p, iU] [] h Q) : ∃ r h1, iEv mX9_forget [.ref p] h r h1 ∧ Q r h1 := iEv_of (by rfl) rfl hw
theorem J9_forget {r : Option Value} {h1 : iHp} (hw : iWp 2 mX9_forget 0 [.ref p, iU] [] h (fun r' h' => r' = r ∧ h' = h1)) : iEv mX9_forget [.ref p] h r h1 := iEv_ev (by rfl) rfl hw
theorem X9_gives_0 : iWp d mX9_gives 0 [a0, a1, a2, .int x, a4] st h Q = iWp d mX9_gives 1 [a0, a1, a2, .int x, a4] (.int x :: st) h Q := w_iload_n dX9_gives_0 rfl
theorem X9_gives_1 : iWp d mX9_gives 1 [a0, a1, a2, a3, a4] st h Q = iWp d mX9_gives 2 [a0, a1, a2, a3, a4] (.int (-1) :: st) h Q := w_iconst dX9_gives_1 rfl
theorem X9_gives_2 : iWp d mX9_gives 2 [a0, a1, a2, a3, a4] (.int y :: .int x :: st) h Q = if x = y then iWp d mX9_gives 44 [a0, a1, a2, a3, a4] st h Q else iWp d mX9_gives 5 [a0, a1, a2, a3, a4] st h Q := w_icmp_eq dX9_gives_2 rfl
theorem X9_gives_5 : iWp d mX9_gives 5 [.ref p, a1, a2, a3, a4] st h Q = iWp d mX9_gives 6 [.ref p, a1, a2, a3, a4] (.ref p :: st) h Q := w_aload_n dX9_gives_5 rfl
theorem X9_gives_6 : iWp d mX9_gives 6 [a0, a1, a2, a3, a4] (.ref p :: st) h Q = iOb (iGet h p 9 20) (fun v => iWp d mX9_gives 9 [a0, a1, a2, a3, a4] (v :: st) h Q) := w_getf dX9_gives_6 fF_9_47
theorem X9_gives_9 : iWp d mX9_gives 9 [a0, a1, a2, .int x, a4] st h Q = iWp d mX9_gives 10 [a0, a1, a2, .int x, a4] (.int x :: st) h Q := w_iload_n dX9_gives_9 rfl
theorem X9_gives_10 : iWp d mX9_gives 10 [a0, a1, a2, a3, a4] (.int x :: .ref p :: st) h Q = iOb (iLdI h p x) (fun v => iWp d mX9_gives 11 [a0, a1, a2, a3, a4] (.int v :: st) h Q) := w_iaload dX9_gives_10
theorem X9_gives_11 : iWp d mX9_gives 11 [.ref p, a1, a2, a3, a4] st h Q = iWp d mX9_gives 12 [.ref p, a1, a2, a3, a4] (.ref p :: st) h Q := w_aload_n dX9_gives_11 rfl
theorem X9_gives_12 : iWp d mX9_gives 12 [a0, a1, a2, a3, a4] (.ref p :: st) h Q = iOb (iGet h p 9 8) (fun v => iWp d mX9_gives 15 [a0, a1, a2, a3, a4] (v :: st) h Q) := w_getf dX9_gives_12 fF_9_25
theorem X9_gives_15 : iWp d mX9_gives 15 [a0, .int x, a2, a3, a4] st h Q = iWp d mX9_gives 16 [a0, .int x, a2, a3, a4] (.int x :: st) h Q := w_iload_n dX9_gives_15 rfl
theorem X9_gives_16 : iWp d mX9_gives 16 [a0, a1, a2, a3, a4] st h Q = iWp d mX9_gives 17 [a0, a1, a2, a3, a4] (.int 2 :: st) h Q := w_iconst dX9_gives_16 rfl
theorem X9_gives_17 : iWp d mX9_gives 17 [a0, a1, a2, a3, a4] (.int y :: .int x :: st) h Q = iWp d mX9_gives 18 [a0, a1, a2, a3, a4] (.int (x + y) :: st) h Q := w_iadd dX9_gives_17
theorem X9_gives_18 : iWp d mX9_gives 18 [a0, a1, a2, a3, a4] (.int x :: .ref p :: st) h Q = iOb (iLdI h p x) (fun v => iWp d mX9_gives 19 [a0, a1, a2, a3, a4] (.int v :: st) h Q) := w_iaload dX9_gives_18
theorem X9_gives_19 : iWp d mX9_gives 19 [a0, a1, a2, a3, a4] (.int y :: .int x :: st) h Q = if x = y then iWp d mX9_gives 22 [a0, a1, a2, a3, a4] st h Q else iWp d mX9_gives 42 [a0, a1, a2, a3, a4] st h Q := w_icmp_ne dX9_gives_19 rfl
theorem X9_gives_22 : iWp d mX9_gives 22 [.ref p, a1, a2, a3, a4] st h Q = iWp d mX9_gives 23 [.ref p, a1, a2, a3, a4] (.ref p :: st) h Q := w_aload_n dX9_gives_22 rfl
theorem X9_gives_23 : iWp d mX9_gives 23 [a0, a1, a2, .int x, a4] st h Q = iWp d mX9_gives 24 [a0, a1, a2, .int x, a4] (.int x :: st) h Q := w_iload_n dX9_gives_23 rfl
theorem X9_gives_24 (he : iEv mX9_parentKey [.ref p, .int x0] h (some (.int rv)) h2) (ho : iObj h p 9 = true) : iWp 7 mX9_gives 24 [a0, a1, a2, a3, a4] [.int x0, .ref p] h Q = iWp 7 mX9_gives 27 [a0, a1, a2, a3, a4] [.int rv] h2 Q := iWp_cV dX9_gives_24 fK_9_172 rfl rfl ho (Nat.le_of_ble_eq_true rfl) (Nat.le_of_ble_eq_true rfl) rfl (Nat.le_of_ble_eq_true rfl) he rfl
theorem X9_gives_27 : iWp d mX9_gives 27 [.ref p, a1, a2, a3, a4] st h Q = iWp d mX9_gives 28 [.ref p, a1, a2, a3, a4] (.ref p :: st) h Q := w_aload_n dX9_gives_27 rfl
theorem X9_gives_28 : iWp d mX9_gives 28 [a0, a1, a2, a3, a4] (.ref p :: st) h Q = iOb (iGet h p 9 8) (fun v => iWp d mX9_gives 31 [a0, a1, a2, a3, a4] (v :: st) h Q) := w_getf dX9_gives_28 fF_9_25
theorem X9_gives_31 : iWp d mX9_gives 31 [a0, .int x, a2, a3, a4] st h Q = iWp d mX9_gives 32 [a0, .int x, a2, a3, a4] (.int x :: st) h Q := w_iload_n dX9_gives_31 rfl
theorem X9_gives_32 : iWp d mX9_gives 32 [a0, a1, a2, a3, a4] st h Q = iWp d mX9_gives 33 [a0, a1, a2, a3, a4] (.int 3 :: st) h Q := w_iconst dX9_gives_32 rfl
theorem X9_gives_33 : iWp d mX9_gives 33 [a0, a1, a2, a3, a4] (.int y :: .int x :: st) h Q = iWp d mX9_gives 34 [a0, a1, a2, a3, a4] (.int (x + y) :: st) h Q := w_iadd dX9_gives_33
theorem X9_gives_34 : iWp d mX9_gives 34 [a0, a1, a2, a3, a4] (.int x :: .ref p :: st) h Q = iOb (iLdI h p x) (fun v => iWp d mX9_gives 35 [a0, a1, a2, a3, a4] (.int v :: st) h Q) := w_iaload dX9_gives_34
theorem X9_gives_35 : iWp d mX9_gives 35 [a0, a1, a2, a3, a4] (.int y :: .int x :: st) h Q = if x = y then iWp d mX9_gives 38 [a0, a1, a2, a3, a4] st h Q else iWp d mX9_gives 42 [a0, a1, a2, a3, a4] st h Q := w_icmp_ne dX9_gives_35 rfl
theorem X9_gives_38 : iWp d mX9_gives 38 [a0, a1, a2, a3, a4] st h Q = iWp d mX9_gives 39 [a0, a1, a2, a3, a4] (.int 0 :: st) h Q := w_iconst dX9_gives_38 rfl
theorem X9_gives_39 : iWp d mX9_gives 39 [a0, a1, a2, a3, a4] st h Q = iWp d mX9_gives 43 [a0, a1, a2, a3, a4] st h Q := w_goto dX9_gives_39 rfl
theorem X9_gives_42 : iWp d mX9_gives 42 [a0, a1, a2, a3, a4] st h Q = iWp d mX9_gives 43 [a0, a1, a2, a3, a4] (.int 4 :: st) h Q := w_iconst dX9_gives_42 rfl
theorem X9_gives_43 : iWp d mX9_gives 43 [a0, a1, a2, a3, a4] [.int x] h Q = Q (some (.int x)) h := w_ireti dX9_gives_43 rfl
theorem X9_gives_44 : iWp d mX9_gives 44 [.ref p, a1, a2, a3, a4] st h Q = iWp d mX9_gives 45 [.ref p, a1, a2, a3, a4] (.ref p :: st) h Q := w_aload_n dX9_gives_44 rfl
theorem X9_gives_45 : iWp d mX9_gives 45 [.ref p, a1, a2, a3, a4] st h Q = iWp d mX9_gives 46 [.ref p, a1, a2, a3, a4] (.ref p :: st) h Q := w_aload_n dX9_gives_45 rfl
theorem X9_gives_46 : iWp d mX9_gives 46 [a0, a1, a2, a3, a4] (.ref p :: st) h Q = iOb (iGet h p 9 8) (fun v => iWp d mX9_gives 49 [a0, a1, a2, a3, a4] (v :: st) h Q) := w_getf dX9_gives_46 fF_9_25
theorem X9_gives_49 : iWp d mX9_gives 49 [a0, .int x, a2, a3, a4] st h Q = iWp d mX9_gives 50 [a0, .int x, a2, a3, a4] (.int x :: st) h Q := w_iload_n dX9_gives_49 rfl
theorem X9_gives_50 : iWp d mX9_gives 50 [a0, a1, a2, a3, a4] st h Q = iWp d mX9_gives 51 [a0, a1, a2, a3, a4] (.int 3 :: st) h Q := w_iconst dX9_gives_50 rfl
theorem X9_gives_51 : iWp d mX9_gives 51 [a0, a1, a2, a3, a4] (.int y :: .int x :: st) h Q = iWp d mX9_gives 52 [a0, a1, a2, a3, a4] (.int (x + y) :: st) h Q := w_iadd dX9_gives_51
theorem X9_gives_52 : iWp d mX9_gives 52 [a0, a1, a2, a3, a4] (.int x :: .ref p :: st) h Q = iOb (iLdI h p x) (fun v => iWp d mX9_gives 53 [a0, a1, a2, a3, a4] (.int v :: st) h Q) := w_iaload dX9_gives_52
theorem X9_gives_53 (he : iEv mX9_find [.ref p, .int x0] h (some (.int rv)) h2) (ho : iObj h p 9 = true) : iWp 7 mX9_gives 53 [a0, a1, a2, a3, a4] [.int x0, .ref p] h Q = iWp 7 mX9_gives 56 [a0, a1, a2, a3, a4] [.int rv] h2 Q := iWp_cV dX9_gives_53 fK_9_153 rfl rfl ho (Nat.le_of_ble_eq_true rfl) (Nat.le_of_ble_eq_true rfl) rfl (Nat.le_of_ble_eq_true rfl) he rfl
theorem X9_gives_56 : iWp d mX9_gives 56 [a0, a1, a2, a3, a4] (.int x :: st) h Q = iWp d mX9_gives 58 [a0, a1, a2, iClr a3, .int x] st h Q := w_istore dX9_gives_56 (Nat.le_of_ble_eq_true rfl) rfl
theorem X9_gives_58 : iWp d mX9_gives 58 [a0, a1, a2, a3, .int x] st h Q = iWp d mX9_gives 60 [a0, a1, a2, a3, .int x] (.int x :: st) h Q := w_iload dX9_gives_58 rfl
theorem X9_gives_60 : iWp d mX9_gives 60 [a0, a1, a2, a3, a4] st h Q = iWp d mX9_gives 61 [a0, a1, a2, a3, a4] (.int (-1) :: st) h Q := w_iconst dX9_gives_60 rfl
theorem X9_gives_61 : iWp d mX9_gives 61 [a0, a1, a2, a3, a4] (.int y :: .int x :: st) h Q = if x = y then iWp d mX9_gives 64 [a0, a1, a2, a3, a4] st h Q else iWp d mX9_gives 66 [a0, a1, a2, a3, a4] st h Q := w_icmp_ne dX9_gives_61 rfl
theorem X9_gives_64 : iWp d mX9_gives 64 [a0, a1, a2, a3, a4] st h Q = iWp d mX9_gives 65 [a0, a1, a2, a3, a4] (.int 1 :: st) h Q := w_iconst dX9_gives_64 rfl
theorem X9_gives_65 : iWp d mX9_gives 65 [a0, a1, a2, a3, a4] [.int x] h Q = Q (some (.int x)) h := w_ireti dX9_gives_65 rfl
theorem X9_gives_66 : iWp d mX9_gives 66 [.ref p, a1, a2, a3, a4] st h Q = iWp d mX9_gives 67 [.ref p, a1, a2, a3, a4] (.ref p :: st) h Q := w_aload_n dX9_gives_66 rfl
theorem X9_gives_67 : iWp d mX9_gives 67 [a0, a1, a2, a3, a4] st h Q = iWp d mX9_gives 68 [a0, a1, a2, a3, a4] (.int 2 :: st) h Q := w_iconst dX9_gives_67 rfl
theorem X9_gives_68 : iWp d mX9_gives 68 [a0, a1, .int x, a3, a4] st h Q = iWp d mX9_gives 69 [a0, a1, .int x, a3, a4] (.int x :: st) h Q := w_iload_n dX9_gives_68 rfl
theorem X9_gives_69 : iWp d mX9_gives 69 [.ref p, a1, a2, a3, a4] st h Q = iWp d mX9_gives 70 [.ref p, a1, a2, a3, a4] (.ref p :: st) h Q := w_aload_n dX9_gives_69 rfl
theorem X9_gives_70 : iWp d mX9_gives 70 [a0, a1, a2, a3, a4] (.ref p :: st) h Q = iOb (iGet h p 9 8) (fun v => iWp d mX9_gives 73 [a0, a1, a2, a3, a4] (v :: st) h Q) := w_getf dX9_gives_70 fF_9_25
theorem X9_gives_73 : iWp d mX9_gives 73 [a0, .int x, a2, a3, a4] st h Q = iWp d mX9_gives 74 [a0, .int x, a2, a3, a4] (.int x :: st) h Q := w_iload_n dX9_gives_73 rfl
theorem X9_gives_74 : iWp d mX9_gives 74 [a0, a1, a2, a3, a4] st h Q = iWp d mX9_gives 75 [a0, a1, a2, a3, a4] (.int 2 :: st) h Q := w_iconst dX9_gives_74 rfl
theorem X9_gives_75 : iWp d mX9_gives 75 [a0, a1, a2, a3, a4] (.int y :: .int x :: st) h Q = iWp d mX9_gives 76 [a0, a1, a2, a3, a4] (.int (x + y) :: st) h Q := w_iadd dX9_gives_75
theorem X9_gives_76 : iWp d mX9_gives 76 [a0, a1, a2, a3, a4] (.int x :: .ref p :: st) h Q = iOb (iLdI h p x) (fun v => iWp d mX9_gives 77 [a0, a1, a2, a3, a4] (.int v :: st) h Q) := w_iaload dX9_gives_76
theorem X9_gives_77 : iWp d mX9_gives 77 [.ref p, a1, a2, a3, a4] st h Q = iWp d mX9_gives 78 [.ref p, a1, a2, a3, a4] (.ref p :: st) h Q := w_aload_n dX9_gives_77 rfl
theorem X9_gives_78 : iWp d mX9_gives 78 [a0, a1, a2, a3, a4] (.ref p :: st) h Q = iOb (iGet h p 9 8) (fun v => iWp d mX9_gives 81 [a0, a1, a2, a3, a4] (v :: st) h Q) := w_getf dX9_gives_78 fF_9_25
theorem X9_gives_81 : iWp d mX9_gives 81 [a0, .int x, a2, a3, a4] st h Q = iWp d mX9_gives 82 [a0, .int x, a2, a3, a4] (.int x :: st) h Q := w_iload_n dX9_gives_81 rfl
theorem X9_gives_82 : iWp d mX9_gives 82 [a0, a1, a2, a3, a4] st h Q = iWp d mX9_gives 83 [a0, a1, a2, a3, a4] (.int 3 :: st) h Q := w_iconst dX9_gives_82 rfl
theorem X9_gives_83 : iWp d mX9_gives 83 [a0, a1, a2, a3, a4] (.int y :: .int x :: st) h Q = iWp d mX9_gives 84 [a0, a1, a2, a3, a4] (.int (x + y) :: st) h Q := w_iadd dX9_gives_83
theorem X9_gives_84 : iWp d mX9_gives 84 [a0, a1, a2, a3, a4] (.int x :: .ref p :: st) h Q = iOb (iLdI h p x) (fun v => iWp d mX9_gives 85 [a0, a1, a2, a3, a4] (.int v :: st) h Q) := w_iaload dX9_gives_84
theorem X9_gives_85 : iWp d mX9_gives 85 [.ref p, a1, a2, a3, a4] st h Q = iWp d mX9_gives 86 [.ref p, a1, a2, a3, a4] (.ref p :: st) h Q := w_aload_n dX9_gives_85 rfl
theorem X9_gives_86 : iWp d mX9_gives 86 [a0, a1, a2, a3, a4] (.ref p :: st) h Q = iOb (iGet h p 9 8) (fun v => iWp d mX9_gives 89 [a0, a1, a2, a3, a4] (v :: st) h Q) := w_getf dX9_gives_86 fF_9_25
theorem X9_gives_89 : iWp d mX9_gives 89 [a0, .int x, a2, a3, a4] st h Q = iWp d mX9_gives 90 [a0, .int x, a2, a3, a4] (.int x :: st) h Q := w_iload_n dX9_gives_89 rfl
theorem X9_gives_90 : iWp d mX9_gives 90 [a0, a1, a2, a3, a4] st h Q = iWp d mX9_gives 91 [a0, a1, a2, a3, a4] (.int 4 :: st) h Q := w_iconst dX9_gives_90 rfl
theorem X9_gives_91 : iWp d mX9_gives 91 [a0, a1, a2, a3, a4] (.int y :: .int x :: st) h Q = iWp d mX9_gives 92 [a0, a1, a2, a3, a4] (.int (x + y) :: st) h Q := w_iadd dX9_gives_91
theorem X9_gives_92 : iWp d mX9_gives 92 [a0, a1, a2, a3, a4] (.int x :: .ref p :: st) h Q = iOb (iLdI h p x) (fun v => iWp d mX9_gives 93 [a0, a1, a2, a3, a4] (.int v :: st) h Q) := w_iaload dX9_gives_92
theorem X9_gives_93 : iWp d mX9_gives 93 [.ref p, a1, a2, a3, a4] st h Q = iWp d mX9_gives 94 [.ref p, a1, a2, a3, a4] (.ref p :: st) h Q := w_aload_n dX9_gives_93 rfl
theorem X9_gives_94 : iWp d mX9_gives 94 [a0, a1, a2, a3, .int x] st h Q = iWp d mX9_gives 96 [a0, a1, a2, a3, .int x] (.int x :: st) h Q := w_iload dX9_gives_94 rfl
theorem X9_gives_96 (he : iEv mX9_children [.ref p, .int x0] h (some (.int rv)) h2) (ho : iObj h p 9 = true) : iWp 7 mX9_gives 96 [a0, a1, a2, a3, a4] [.int x0, .ref p, .int r0, .int r1, .int r2, .int r3, .int r4, .ref t5] h Q = iWp 7 mX9_gives 99 [a0, a1, a2, a3, a4] [.int rv, .int r0, .int r1, .int r2, .int r3, .int r4, .ref t5] h2 Q := iWp_cV dX9_gives_96 fK_9_178 rfl rfl ho (Nat.le_of_ble_eq_true rfl) (Nat.le_of_ble_eq_true rfl) rfl (Nat.le_of_ble_eq_true rfl) he rfl
theorem X9_gives_99 (hs : iSum st ≤ 8) : iWp d mX9_gives 99 [a0, a1, a2, a3, a4] (.int y :: .int x :: st) h Q = iWp d mX9_gives 102 [a0, a1, a2, a3, a4] (.int (if y < x then y else x) :: st) h Q := iWp_k dX9_gives_99 rfl (fun _ _ => iMinS hs fK_9_282 rfl rfl rfl rfl)
theorem X9_gives_102 : iWp d mX9_gives 102 [a0, a1, a2, a3, a4] st h Q = iWp d mX9_gives 103 [a0, a1, a2, a3, a4] (.int 0 :: st) h Q := w_iconst dX9_gives_102 rfl
theorem X9_gives_103 : iWp d mX9_gives 103 [a0, a1, a2, a3, a4] st h Q = iWp d mX9_gives 104 [a0, a1, a2, a3, a4] (.int 0 :: st) h Q := w_iconst dX9_gives_103 rfl
theorem X9_gives_104 (he : iEv mX9_goes [.ref p, .int x0, .int x1, .int x2, .int x3, .int x4, .int x5, .int x6] h none h2) (ho : iObj h p 9 = true) : iWp 7 mX9_gives 104 [a0, a1, a2, a3, a4] [.int x6, .int x5, .int x4, .int x3, .int x2, .int x1, .int x0, .ref p] h Q = iWp 7 mX9_gives 107 [a0, a1, a2, a3, a4] [] h2 Q := iWp_cV dX9_gives_104 fK_9_233 rfl rfl ho (Nat.le_of_ble_eq_true rfl) (Nat.le_of_ble_eq_true rfl) rfl (Nat.le_of_ble_eq_true rfl) he rfl
theorem X9_gives_107 : iWp d mX9_gives 107 [a0, a1, a2, a3, a4] st h Q = iWp d mX9_gives 108 [a0, a1, a2, a3, a4] (.int 0 :: st) h Q := w_iconst dX9_gives_107 rfl
theorem X9_gives_108 : iWp d mX9_gives 108 [a0, a1, a2, a3, a4] [.int x] h Q = Q (some (.int x)) h := w_ireti dX9_gives_108 rfl
theorem I9_gives {Q : Option Value → iHp → Prop} (hw : iWp 7 mX9_gives 0 [.ref p, .int x0, .int x1, .int x2, iU] [] h Q) : ∃ r h1, iEv mX9_gives [.ref p, .int x0, .int x1, .int x2] h r h1 ∧ Q r h1 := iEv_of (by rfl) rfl hw
theorem J9_gives {r : Option Value} {h1 : iHp} (hw : iWp 7 mX9_gives 0 [.ref p, .int x0, .int x1, .int x2, iU] [] h (fun r' h' => r' = r ∧ h' = h1)) : iEv mX9_gives [.ref p, .int x0, .int x1, .int x2] h r h1 := iEv_ev (by rfl) rfl hw
theorem X9_goes_0 : iWp d mX9_goes 0 [.ref p, a1, a2, a3, a4, a5, a6, a7] st h Q = iWp d mX9_goes 1 [.ref p, a1, a2, a3, a4, a5, a6, a7] (.ref p :: st) h Q := w_aload_n dX9_goes_0 rfl
theorem X9_goes_1 : iWp d mX9_goes 1 [a0, .int x, a2, a3, a4, a5, a6, a7] st h Q = iWp d mX9_goes 2 [a0, .int x, a2, a3, a4, a5, a6, a7] (.int x :: st) h Q := w_iload_n dX9_goes_1 rfl
theorem X9_goes_2 : iWp d mX9_goes 2 [a0, a1, .int x, a3, a4, a5, a6, a7] st h Q = iWp d mX9_goes 3 [a0, a1, .int x, a3, a4, a5, a6, a7] (.int x :: st) h Q := w_iload_n dX9_goes_2 rfl
theorem X9_goes_3 : iWp d mX9_goes 3 [a0, a1, a2, .int x, a4, a5, a6, a7] st h Q = iWp d mX9_goes 4 [a0, a1, a2, .int x, a4, a5, a6, a7] (.int x :: st) h Q := w_iload_n dX9_goes_3 rfl
theorem X9_goes_4 : iWp d mX9_goes 4 [a0, a1, a2, a3, .int x, a5, a6, a7] st h Q = iWp d mX9_goes 6 [a0, a1, a2, a3, .int x, a5, a6, a7] (.int x :: st) h Q := w_iload dX9_goes_4 rfl
theorem X9_goes_6 : iWp d mX9_goes 6 [a0, a1, a2, a3, a4, .int x, a6, a7] st h Q = iWp d mX9_goes 8 [a0, a1, a2, a3, a4, .int x, a6, a7] (.int x :: st) h Q := w_iload dX9_goes_6 rfl
theorem X9_goes_8 : iWp d mX9_goes 8 [a0, a1, a2, a3, a4, a5, .int x, a7] st h Q = iWp d mX9_goes 10 [a0, a1, a2, a3, a4, a5, .int x, a7] (.int x :: st) h Q := w_iload dX9_goes_8 rfl
theorem X9_goes_10 : iWp d mX9_goes 10 [a0, a1, a2, a3, a4, a5, a6, .int x] st h Q = iWp d mX9_goes 12 [a0, a1, a2, a3, a4, a5, a6, .int x] (.int x :: st) h Q := w_iload dX9_goes_10 rfl
theorem X9_goes_12 (he : iEv mX9_makes [.ref p, .int x0, .int x1, .int x2, .int x3, .int x4, .int x5, .int x6] h none h2) (ho : iObj h p 9 = true) : iWp 6 mX9_goes 12 [a0, a1, a2, a3, a4, a5, a6, a7] [.int x6, .int x5, .int x4, .int x3, .int x2, .int x1, .int x0, .ref p] h Q = iWp 6 mX9_goes 15 [a0, a1, a2, a3, a4, a5, a6, a7] [] h2 Q := iWp_cV dX9_goes_12 fK_9_203 rfl rfl ho (Nat.le_of_ble_eq_true rfl) (Nat.le_of_ble_eq_true rfl) rfl (Nat.le_of_ble_eq_true rfl) he rfl
theorem X9_goes_15 : iWp d mX9_goes 15 [.ref p, a1, a2, a3, a4, a5, a6, a7] st h Q = iWp d mX9_goes 16 [.ref p, a1, a2, a3, a4, a5, a6, a7] (.ref p :: st) h Q := w_aload_n dX9_goes_15 rfl
theorem X9_goes_16 : iWp d mX9_goes 16 [.ref p, a1, a2, a3, a4, a5, a6, a7] st h Q = iWp d mX9_goes 17 [.ref p, a1, a2, a3, a4, a5, a6, a7] (.ref p :: st) h Q := w_aload_n dX9_goes_16 rfl
theorem X9_goes_17 : iWp d mX9_goes 17 [a0, a1, a2, a3, a4, a5, a6, a7] (.ref p :: st) h Q = iOb (iGet h p 9 26) (fun v => iWp d mX9_goes 20 [a0, a1, a2, a3, a4, a5, a6, a7] (v :: st) h Q) := w_getf dX9_goes_17 fF_9_62
theorem X9_goes_20 : iWp d mX9_goes 20 [a0, a1, a2, a3, a4, a5, a6, a7] st h Q = iWp d mX9_goes 22 [a0, a1, a2, a3, a4, a5, a6, a7] (.int 7 :: st) h Q := w_bipush dX9_goes_20 rfl
theorem X9_goes_22 : iWp d mX9_goes 22 [.ref p, a1, a2, a3, a4, a5, a6, a7] st h Q = iWp d mX9_goes 23 [.ref p, a1, a2, a3, a4, a5, a6, a7] (.ref p :: st) h Q := w_aload_n dX9_goes_22 rfl
theorem X9_goes_23 : iWp d mX9_goes 23 [a0, a1, a2, a3, a4, a5, a6, a7] (.ref p :: st) h Q = iOb (iGet h p 9 25) (fun v => iWp d mX9_goes 26 [a0, a1, a2, a3, a4, a5, a6, a7] (v :: st) h Q) := w_getf dX9_goes_23 fF_9_200
theorem X9_goes_26 : iWp d mX9_goes 26 [a0, a1, a2, a3, a4, a5, a6, a7] (.int y :: .int x :: st) h Q = iWp d mX9_goes 27 [a0, a1, a2, a3, a4, a5, a6, a7] (.int (x * y) :: st) h Q := w_imul dX9_goes_26
theorem X9_goes_27 : iWp d mX9_goes 27 [a0, a1, a2, a3, a4, a5, a6, a7] st h Q = iWp d mX9_goes 29 [a0, a1, a2, a3, a4, a5, a6, a7] (.int 7 :: st) h Q := w_bipush dX9_goes_27 rfl
theorem X9_goes_29 : iWp d mX9_goes 29 [a0, a1, a2, a3, a4, a5, a6, a7] (.int y :: .int x :: st) h Q = iWp d mX9_goes 30 [a0, a1, a2, a3, a4, a5, a6, a7] (.int (x - y) :: st) h Q := w_isub dX9_goes_29
theorem X9_goes_30 (he : iEv mX9_does [.ref p, b0, .int x1] h (some (.int rv)) h2) (ho : iObj h p 9 = true) (c0 : b0.category = 1) : iWp 6 mX9_goes 30 [a0, a1, a2, a3, a4, a5, a6, a7] [.int x1, b0, .ref p] h Q = iWp 6 mX9_goes 33 [a0, a1, a2, a3, a4, a5, a6, a7] [.int rv] h2 Q := iWp_cV dX9_goes_30 fK_9_207 rfl rfl ho (Nat.le_of_ble_eq_true rfl) (Nat.le_of_ble_eq_true rfl) (by simp [iInit, cat_i, cat_r, cat_l, mX9_does, c0]) (Nat.le_of_ble_eq_true rfl) he rfl
theorem X9_goes_33 : iWp d mX9_goes 33 [a0, a1, a2, a3, a4, a5, a6, a7] (.int x :: st) h Q = iWp d mX9_goes 34 [a0, a1, a2, a3, a4, a5, a6, a7] st h Q := w_pop dX9_goes_33 rfl
theorem X9_goes_34 : iWp d mX9_goes 34 [a0, a1, a2, a3, a4, a5, a6, a7] [] h Q = Q none h := w_ret dX9_goes_34 rfl
theorem I9_goes {Q : Option Value → iHp → Prop} (hw : iWp 6 mX9_goes 0 [.ref p, .int x0, .int x1, .int x2, .int x3, .int x4, .int x5, .int x6] [] h Q) : ∃ r h1, iEv mX9_goes [.ref p, .int x0, .int x1, .int x2, .int x3, .int x4, .int x5, .int x6] h r h1 ∧ Q r h1 := iEv_of (by rfl) rfl hw
theorem J9_goes {r : Option Value} {h1 : iHp} (hw : iWp 6 mX9_goes 0 [.ref p, .int x0, .int x1, .int x2, .int x3, .int x4, .int x5, .int x6] [] h (fun r' h' => r' = r ∧ h' = h1)) : iEv mX9_goes [.ref p, .int x0, .int x1, .int x2, .int x3, .int x4, .int x5, .int x6] h r h1 := iEv_ev (by rfl) rfl hw
theorem X9_hand_0 : iWp d mX9_hand 0 [.ref p, a1, a2, a3, a4] st h Q = iWp d mX9_hand 1 [.ref p, a1, a2, a3, a4] (.ref p :: st) h Q := w_aload_n dX9_hand_0 rfl
theorem X9_hand_1 : iWp d mX9_hand 1 [a0, a1, a2, .int x, a4] st h Q = iWp d mX9_hand 2 [a0, a1, a2, .int x, a4] (.int x :: st) h Q := w_iload_n dX9_hand_1 rfl
theorem X9_hand_2 (he : iEv mX9_isTree [.ref p, .int x0] h (some (.int rv)) h2) (ho : iObj h p 9 = true) : iWp 3 mX9_hand 2 [a0, a1, a2, a3, a4] [.int x0, .ref p] h Q = iWp 3 mX9_hand 5 [a0, a1, a2, a3, a4] [.int rv] h2 Q := iWp_cV dX9_hand_2 fK_9_166 rfl rfl ho (Nat.le_of_ble_eq_true rfl) (Nat.le_of_ble_eq_true rfl) rfl (Nat.le_of_ble_eq_true rfl) he rfl
theorem X9_hand_5 : iWp d mX9_hand 5 [a0, a1, a2, a3, a4] (.int x :: st) h Q = if x = 0 then iWp d mX9_hand 8 [a0, a1, a2, a3, a4] st h Q else iWp d mX9_hand 14 [a0, a1, a2, a3, a4] st h Q := w_ifc_ne dX9_hand_5 rfl
theorem X9_hand_8 : iWp d mX9_hand 8 [.ref p, a1, a2, a3, a4] st h Q = iWp d mX9_hand 9 [.ref p, a1, a2, a3, a4] (.ref p :: st) h Q := w_aload_n dX9_hand_8 rfl
theorem X9_hand_9 : iWp d mX9_hand 9 [a0, a1, a2, a3, a4] st h Q = iWp d mX9_hand 10 [a0, a1, a2, a3, a4] (.int (-1) :: st) h Q := w_iconst dX9_hand_9 rfl
theorem X9_hand_10 (he : iEv mX9_no [.ref p, .int x0] h (some (.int rv)) h2) (ho : iObj h p 9 = true) : iWp 3 mX9_hand 10 [a0, a1, a2, a3, a4] [.int x0, .ref p] h Q = iWp 3 mX9_hand 13 [a0, a1, a2, a3, a4] [.int rv] h2 Q := iWp_cV dX9_hand_10 fK_9_99 rfl rfl ho (Nat.le_of_ble_eq_true rfl) (Nat.le_of_ble_eq_true rfl) rfl (Nat.le_of_ble_eq_true rfl) he rfl
theorem X9_hand_13 : iWp d mX9_hand 13 [a0, a1, a2, a3, a4] [.int x] h Q = Q (some (.int x)) h := w_ireti dX9_hand_13 rfl
theorem X9_hand_14 : iWp d mX9_hand 14 [.ref p, a1, a2, a3, a4] st h Q = iWp d mX9_hand 15 [.ref p, a1, a2, a3, a4] (.ref p :: st) h Q := w_aload_n dX9_hand_14 rfl
theorem X9_hand_15 : iWp d mX9_hand 15 [a0, a1, a2, .int x, a4] st h Q = iWp d mX9_hand 16 [a0, a1, a2, .int x, a4] (.int x :: st) h Q := w_iload_n dX9_hand_15 rfl
theorem X9_hand_16 (he : iEv mX9_loads [.ref p, .int x0] h none h2) (ho : iObj h p 9 = true) : iWp 3 mX9_hand 16 [a0, a1, a2, a3, a4] [.int x0, .ref p] h Q = iWp 3 mX9_hand 19 [a0, a1, a2, a3, a4] [] h2 Q := iWp_cV dX9_hand_16 fK_9_169 rfl rfl ho (Nat.le_of_ble_eq_true rfl) (Nat.le_of_ble_eq_true rfl) rfl (Nat.le_of_ble_eq_true rfl) he rfl
theorem X9_hand_19 : iWp d mX9_hand 19 [.ref p, a1, a2, a3, a4] st h Q = iWp d mX9_hand 20 [.ref p, a1, a2, a3, a4] (.ref p :: st) h Q := w_aload_n dX9_hand_19 rfl
theorem X9_hand_20 : iWp d mX9_hand 20 [a0, .int x, a2, a3, a4] st h Q = iWp d mX9_hand 21 [a0, .int x, a2, a3, a4] (.int x :: st) h Q := w_iload_n dX9_hand_20 rfl
theorem X9_hand_21 (he : iEv mX9_find [.ref p, .int x0] h (some (.int rv)) h2) (ho : iObj h p 9 = true) : iWp 3 mX9_hand 21 [a0, a1, a2, a3, a4] [.int x0, .ref p] h Q = iWp 3 mX9_hand 24 [a0, a1, a2, a3, a4] [.int rv] h2 Q := iWp_cV dX9_hand_21 fK_9_153 rfl rfl ho (Nat.le_of_ble_eq_true rfl) (Nat.le_of_ble_eq_true rfl) rfl (Nat.le_of_ble_eq_true rfl) he rfl
theorem X9_hand_24 : iWp d mX9_hand 24 [a0, a1, a2, a3, a4] (.int x :: st) h Q = iWp d mX9_hand 26 [a0, a1, a2, iClr a3, .int x] st h Q := w_istore dX9_hand_24 (Nat.le_of_ble_eq_true rfl) rfl
theorem X9_hand_26 : iWp d mX9_hand 26 [a0, a1, a2, a3, .int x] st h Q = iWp d mX9_hand 28 [a0, a1, a2, a3, .int x] (.int x :: st) h Q := w_iload dX9_hand_26 rfl
theorem X9_hand_28 : iWp d mX9_hand 28 [a0, a1, a2, a3, a4] st h Q = iWp d mX9_hand 29 [a0, a1, a2, a3, a4] (.int (-1) :: st) h Q := w_iconst dX9_hand_28 rfl
theorem X9_hand_29 : iWp d mX9_hand 29 [a0, a1, a2, a3, a4] (.int y :: .int x :: st) h Q = if x = y then iWp d mX9_hand 32 [a0, a1, a2, a3, a4] st h Q else iWp d mX9_hand 39 [a0, a1, a2, a3, a4] st h Q := w_icmp_ne dX9_hand_29 rfl
theorem X9_hand_32 : iWp d mX9_hand 32 [.ref p, a1, a2, a3, a4] st h Q = iWp d mX9_hand 33 [.ref p, a1, a2, a3, a4] (.ref p :: st) h Q := w_aload_n dX9_hand_32 rfl
theorem X9_hand_33 : iWp d mX9_hand 33 [a0, a1, a2, a3, a4] st h Q = iWp d mX9_hand 35 [a0, a1, a2, a3, a4] (.int (-5) :: st) h Q := w_bipush dX9_hand_33 rfl
theorem X9_hand_35 (he : iEv mX9_no [.ref p, .int x0] h (some (.int rv)) h2) (ho : iObj h p 9 = true) : iWp 3 mX9_hand 35 [a0, a1, a2, a3, a4] [.int x0, .ref p] h Q = iWp 3 mX9_hand 38 [a0, a1, a2, a3, a4] [.int rv] h2 Q := iWp_cV dX9_hand_35 fK_9_99 rfl rfl ho (Nat.le_of_ble_eq_true rfl) (Nat.le_of_ble_eq_true rfl) rfl (Nat.le_of_ble_eq_true rfl) he rfl
theorem X9_hand_38 : iWp d mX9_hand 38 [a0, a1, a2, a3, a4] [.int x] h Q = Q (some (.int x)) h := w_ireti dX9_hand_38 rfl
theorem X9_hand_39 : iWp d mX9_hand 39 [a0, a1, .int x, a3, a4] st h Q = iWp d mX9_hand 40 [a0, a1, .int x, a3, a4] (.int x :: st) h Q := w_iload_n dX9_hand_39 rfl
theorem X9_hand_40 : iWp d mX9_hand 40 [a0, a1, a2, a3, a4] st h Q = iWp d mX9_hand 42 [a0, a1, a2, a3, a4] (.int 97 :: st) h Q := w_bipush dX9_hand_40 rfl
theorem X9_hand_42 : iWp d mX9_hand 42 [a0, a1, a2, a3, a4] st h Q = iWp d mX9_hand 44 [a0, a1, a2, a3, a4] (.int 122 :: st) h Q := w_bipush dX9_hand_42 rfl
theorem X9_hand_44 (he : iEv mX9_within [.int x0, .int x1, .int x2] h (some (.int rv)) h2) : iWp 3 mX9_hand 44 [a0, a1, a2, a3, a4] [.int x2, .int x1, .int x0] h Q = iWp 3 mX9_hand 47 [a0, a1, a2, a3, a4] [.int rv] h2 Q := iWp_cS dX9_hand_44 fK_9_106 rfl rfl (Nat.le_of_ble_eq_true rfl) (Nat.le_of_ble_eq_true rfl) rfl (Nat.le_of_ble_eq_true rfl) he rfl
theorem X9_hand_47 : iWp d mX9_hand 47 [a0, a1, a2, a3, a4] (.int x :: st) h Q = if x = 0 then iWp d mX9_hand 50 [a0, a1, a2, a3, a4] st h Q else iWp d mX9_hand 57 [a0, a1, a2, a3, a4] st h Q := w_ifc_ne dX9_hand_47 rfl
theorem X9_hand_50 : iWp d mX9_hand 50 [.ref p, a1, a2, a3, a4] st h Q = iWp d mX9_hand 51 [.ref p, a1, a2, a3, a4] (.ref p :: st) h Q := w_aload_n dX9_hand_50 rfl
theorem X9_hand_51 : iWp d mX9_hand 51 [a0, a1, a2, a3, a4] st h Q = iWp d mX9_hand 53 [a0, a1, a2, a3, a4] (.int (-6) :: st) h Q := w_bipush dX9_hand_51 rfl
theorem X9_hand_53 (he : iEv mX9_no [.ref p, .int x0] h (some (.int rv)) h2) (ho : iObj h p 9 = true) : iWp 3 mX9_hand 53 [a0, a1, a2, a3, a4] [.int x0, .ref p] h Q = iWp 3 mX9_hand 56 [a0, a1, a2, a3, a4] [.int rv] h2 Q := iWp_cV dX9_hand_53 fK_9_99 rfl rfl ho (Nat.le_of_ble_eq_true rfl) (Nat.le_of_ble_eq_true rfl) rfl (Nat.le_of_ble_eq_true rfl) he rfl
theorem X9_hand_56 : iWp d mX9_hand 56 [a0, a1, a2, a3, a4] [.int x] h Q = Q (some (.int x)) h := w_ireti dX9_hand_56 rfl
theorem X9_hand_57 : iWp d mX9_hand 57 [.ref p, a1, a2, a3, a4] st h Q = iWp d mX9_hand 58 [.ref p, a1, a2, a3, a4] (.ref p :: st) h Q := w_aload_n dX9_hand_57 rfl
theorem X9_hand_58 : iWp d mX9_hand 58 [a0, a1, a2, a3, a4] st h Q = iWp d mX9_hand 59 [a0, a1, a2, a3, a4] (.int 0 :: st) h Q := w_iconst dX9_hand_58 rfl
theorem X9_hand_59 : iWp d mX9_hand 59 [a0, a1, a2, a3, a4] (.int x :: .ref p :: st) h Q = iOb (iPut h p 9 25 (.int x)) (fun g => iWp d mX9_hand 62 [a0, a1, a2, a3, a4] st g Q) := w_putf dX9_hand_59 fF_9_200 ⟨rfl, (Or.inl rfl)⟩
theorem X9_hand_62 : iWp d mX9_hand 62 [.ref p, a1, a2, a3, a4] st h Q = iWp d mX9_hand 63 [.ref p, a1, a2, a3, a4] (.ref p :: st) h Q := w_aload_n dX9_hand_62 rfl
theorem X9_hand_63 : iWp d mX9_hand 63 [a0, a1, a2, a3, a4] st h Q = iWp d mX9_hand 64 [a0, a1, a2, a3, a4] (.int 0 :: st) h Q := w_iconst dX9_hand_63 rfl
theorem X9_hand_64 : iWp d mX9_hand 64 [a0, .int x, a2, a3, a4] st h Q = iWp d mX9_hand 65 [a0, .int x, a2, a3, a4] (.int x :: st) h Q := w_iload_n dX9_hand_64 rfl
theorem X9_hand_65 : iWp d mX9_hand 65 [.ref p, a1, a2, a3, a4] st h Q = iWp d mX9_hand 66 [.ref p, a1, a2, a3, a4] (.ref p :: st) h Q := w_aload_n dX9_hand_65 rfl
theorem X9_hand_66 : iWp d mX9_hand 66 [a0, a1, a2, a3, a4] (.ref p :: st) h Q = iOb (iGet h p 9 20) (fun v => iWp d mX9_hand 69 [a0, a1, a2, a3, a4] (v :: st) h Q) := w_getf dX9_hand_66 fF_9_47
theorem X9_hand_69 : iWp d mX9_hand 69 [a0, a1, a2, a3, .int x] st h Q = iWp d mX9_hand 71 [a0, a1, a2, a3, .int x] (.int x :: st) h Q := w_iload dX9_hand_69 rfl
theorem X9_hand_71 : iWp d mX9_hand 71 [a0, a1, a2, a3, a4] (.int x :: .ref p :: st) h Q = iOb (iLdI h p x) (fun v => iWp d mX9_hand 72 [a0, a1, a2, a3, a4] (.int v :: st) h Q) := w_iaload dX9_hand_71
theorem X9_hand_72 : iWp d mX9_hand 72 [a0, a1, .int x, a3, a4] st h Q = iWp d mX9_hand 73 [a0, a1, .int x, a3, a4] (.int x :: st) h Q := w_iload_n dX9_hand_72 rfl
theorem X9_hand_73 : iWp d mX9_hand 73 [a0, a1, a2, a3, a4] st h Q = iWp d mX9_hand 74 [a0, a1, a2, a3, a4] (.int 0 :: st) h Q := w_iconst dX9_hand_73 rfl
theorem X9_hand_74 : iWp d mX9_hand 74 [a0, a1, a2, a3, a4] st h Q = iWp d mX9_hand 75 [a0, a1, a2, a3, a4] (.int 0 :: st) h Q := w_iconst dX9_hand_74 rfl
theorem X9_hand_75 : iWp d mX9_hand 75 [a0, a1, a2, a3, a4] st h Q = iWp d mX9_hand 76 [a0, a1, a2, a3, a4] (.int 0 :: st) h Q := w_iconst dX9_hand_75 rfl
theorem X9_hand_76 (he : iEv mX9_makes [.ref p, .int x0, .int x1, .int x2, .int x3, .int x4, .int x5, .int x6] h none h2) (ho : iObj h p 9 = true) : iWp 3 mX9_hand 76 [a0, a1, a2, a3, a4] [.int x6, .int x5, .int x4, .int x3, .int x2, .int x1, .int x0, .ref p] h Q = iWp 3 mX9_hand 79 [a0, a1, a2, a3, a4] [] h2 Q := iWp_cV dX9_hand_76 fK_9_203 rfl rfl ho (Nat.le_of_ble_eq_true rfl) (Nat.le_of_ble_eq_true rfl) rfl (Nat.le_of_ble_eq_true rfl) he rfl
theorem X9_hand_79 : iWp d mX9_hand 79 [.ref p, a1, a2, a3, a4] st h Q = iWp d mX9_hand 80 [.ref p, a1, a2, a3, a4] (.ref p :: st) h Q := w_aload_n dX9_hand_79 rfl
theorem X9_hand_80 : iWp d mX9_hand 80 [a0, a1, a2, a3, a4] st h Q = iWp d mX9_hand 81 [a0, a1, a2, a3, a4] (.int 0 :: st) h Q := w_iconst dX9_hand_80 rfl
theorem X9_hand_81 : iWp d mX9_hand 81 [a0, a1, a2, a3, a4] st h Q = iWp d mX9_hand 82 [a0, a1, a2, a3, a4] (.int (-1) :: st) h Q := w_iconst dX9_hand_81 rfl
theorem X9_hand_82 (he : iEv mX9_newPatch [.ref p, .int x0, .int x1] h (some (.int rv)) h2) (ho : iObj h p 9 = true) : iWp 3 mX9_hand 82 [a0, a1, a2, a3, a4] [.int x1, .int x0, .ref p] h Q = iWp 3 mX9_hand 85 [a0, a1, a2, a3, a4] [.int rv] h2 Q := iWp_cV dX9_hand_82 fK_9_251 rfl rfl ho (Nat.le_of_ble_eq_true rfl) (Nat.le_of_ble_eq_true rfl) rfl (Nat.le_of_ble_eq_true rfl) he rfl
theorem X9_hand_85 : iWp d mX9_hand 85 [a0, a1, a2, a3, a4] [.int x] h Q = Q (some (.int x)) h := w_ireti dX9_hand_85 rfl
theorem I9_hand {Q : Option Value → iHp → Prop} (hw : iWp 3 mX9_hand 0 [.ref p, .int x0, .int x1, .int x2, iU] [] h Q) : ∃ r h1, iEv mX9_hand [.ref p, .int x0, .int x1, .int x2] h r h1 ∧ Q r h1 := iEv_of (by rfl) rfl hw
theorem J9_hand {r : Option Value} {h1 : iHp} (hw : iWp 3 mX9_hand 0 [.ref p, .int x0, .int x1, .int x2, iU] [] h (fun r' h' => r' = r ∧ h' = h1)) : iEv mX9_hand [.ref p, .int x0, .int x1, .int x2] h r h1 := iEv_ev (by rfl) rfl hw
theorem X9_holds_0 : iWp d mX9_holds 0 [a0, .int x] st h Q = iWp d mX9_holds 1 [a0, .int x] (.int x :: st) h Q := w_iload_n dX9_holds_0 rfl
theorem X9_holds_1 : iWp d mX9_holds 1 [a0, a1] st h Q = iWp d mX9_holds 2 [a0, a1] (.int 0 :: st) h Q := w_iconst dX9_holds_1 rfl
theorem X9_holds_2 : iWp d mX9_holds 2 [a0, a1] st h Q = iWp d mX9_holds 4 [a0, a1] (.int 7 :: st) h Q := w_bipush dX9_holds_2 rfl
theorem X9_holds_4 (he : iEv mX9_within [.int x0, .int x1, .int x2] h (some (.int rv)) h2) : iWp 2 mX9_holds 4 [a0, a1] [.int x2, .int x1, .int x0] h Q = iWp 2 mX9_holds 7 [a0, a1] [.int rv] h2 Q := iWp_cS dX9_holds_4 fK_9_106 rfl rfl (Nat.le_of_ble_eq_true rfl) (Nat.le_of_ble_eq_true rfl) rfl (Nat.le_of_ble_eq_true rfl) he rfl
theorem X9_holds_7 : iWp d mX9_holds 7 [a0, a1] (.int x :: st) h Q = if x = 0 then iWp d mX9_holds 19 [a0, a1] st h Q else iWp d mX9_holds 10 [a0, a1] st h Q := w_ifc_eq dX9_holds_7 rfl
theorem X9_holds_10 : iWp d mX9_holds 10 [.ref p, a1] st h Q = iWp d mX9_holds 11 [.ref p, a1] (.ref p :: st) h Q := w_aload_n dX9_holds_10 rfl
theorem X9_holds_11 : iWp d mX9_holds 11 [a0, a1] (.ref p :: st) h Q = iOb (iGet h p 9 11) (fun v => iWp d mX9_holds 14 [a0, a1] (v :: st) h Q) := w_getf dX9_holds_11 fF_9_31
theorem X9_holds_14 : iWp d mX9_holds 14 [a0, .int x] st h Q = iWp d mX9_holds 15 [a0, .int x] (.int x :: st) h Q := w_iload_n dX9_holds_14 rfl
theorem X9_holds_15 : iWp d mX9_holds 15 [a0, a1] (.int x :: .ref p :: st) h Q = iOb (iLdI h p x) (fun v => iWp d mX9_holds 16 [a0, a1] (.int v :: st) h Q) := w_iaload dX9_holds_15
theorem X9_holds_16 : iWp d mX9_holds 16 [a0, a1] st h Q = iWp d mX9_holds 20 [a0, a1] st h Q := w_goto dX9_holds_16 rfl
theorem X9_holds_19 : iWp d mX9_holds 19 [a0, a1] st h Q = iWp d mX9_holds 20 [a0, a1] (.int (-1) :: st) h Q := w_iconst dX9_holds_19 rfl
theorem X9_holds_20 : iWp d mX9_holds 20 [a0, a1] [.int x] h Q = Q (some (.int x)) h := w_ireti dX9_holds_20 rfl
theorem I9_holds {Q : Option Value → iHp → Prop} (hw : iWp 2 mX9_holds 0 [.ref p, .int x0] [] h Q) : ∃ r h1, iEv mX9_holds [.ref p, .int x0] h r h1 ∧ Q r h1 := iEv_of (by rfl) rfl hw
theorem J9_holds {r : Option Value} {h1 : iHp} (hw : iWp 2 mX9_holds 0 [.ref p, .int x0] [] h (fun r' h' => r' = r ∧ h' = h1)) : iEv mX9_holds [.ref p, .int x0] h r h1 := iEv_ev (by rfl) rfl hw
theorem X9_image_0 : iWp d mX9_image 0 [.ref p, a1] st h Q = iWp d mX9_image 1 [.ref p, a1] (.ref p :: st) h Q := w_aload_n dX9_image_0 rfl
theorem X9_image_1 : iWp d mX9_image 1 [a0, a1] st h Q = iWp d mX9_image 2 [a0, a1] (.int 1 :: st) h Q := w_iconst dX9_image_1 rfl
theorem X9_image_2z : iWp d mX9_image 2 [a0, a1] (.int 0 :: .ref p :: st) h Q = iOb (iPut h p 9 30 (.int 0)) (fun g => iWp d mX9_image 5 [a0, a1] st g Q) := w_putf dX9_image_2 fF_9_295 ⟨rfl, (Or.inl rfl)⟩
theorem X9_image_2o : iWp d mX9_image 2 [a0, a1] (.int 1 :: .ref p :: st) h Q = iOb (iPut h p 9 30 (.int 1)) (fun g => iWp d mX9_image 5 [a0, a1] st g Q) := w_putf dX9_image_2 fF_9_295 ⟨rfl, (Or.inl rfl)⟩
theorem X9_image_5 : iWp d mX9_image 5 [.ref p, a1] st h Q = iWp d mX9_image 6 [.ref p, a1] (.ref p :: st) h Q := w_aload_n dX9_image_5 rfl
theorem X9_image_6 : iWp d mX9_image 6 [.ref p, a1] st h Q = iWp d mX9_image 7 [.ref p, a1] (.ref p :: st) h Q := w_aload_n dX9_image_6 rfl
theorem X9_image_7 : iWp d mX9_image 7 [a0, a1] (.ref p :: st) h Q = iOb (iGet h p 9 0) (fun v => iWp d mX9_image 10 [a0, a1] (v :: st) h Q) := w_getf dX9_image_7 fF_9_103
theorem X9_image_10 : iWp d mX9_image 10 [a0, a1] (.int x :: .ref p :: st) h Q = iOb (iPut h p 9 31 (.int x)) (fun g => iWp d mX9_image 13 [a0, a1] st g Q) := w_putf dX9_image_10 fF_9_299 ⟨rfl, (Or.inl rfl)⟩
theorem X9_image_13 : iWp d mX9_image 13 [.ref p, a1] st h Q = iWp d mX9_image 14 [.ref p, a1] (.ref p :: st) h Q := w_aload_n dX9_image_13 rfl
theorem X9_image_14 : iWp d mX9_image 14 [.ref p, a1] st h Q = iWp d mX9_image 15 [.ref p, a1] (.ref p :: st) h Q := w_aload_n dX9_image_14 rfl
theorem X9_image_15 : iWp d mX9_image 15 [a0, a1] (.ref p :: st) h Q = iOb (iGet h p 9 5) (fun v => iWp d mX9_image 18 [a0, a1] (v :: st) h Q) := w_getf dX9_image_15 fF_9_110
theorem X9_image_18 : iWp d mX9_image 18 [a0, a1] (.int x :: .ref p :: st) h Q = iOb (iPut h p 9 36 (.int x)) (fun g => iWp d mX9_image 21 [a0, a1] st g Q) := w_putf dX9_image_18 fF_9_302 ⟨rfl, (Or.inl rfl)⟩
theorem X9_image_21 : iWp d mX9_image 21 [.ref p, a1] st h Q = iWp d mX9_image 22 [.ref p, a1] (.ref p :: st) h Q := w_aload_n dX9_image_21 rfl
theorem X9_image_22 : iWp d mX9_image 22 [.ref p, a1] st h Q = iWp d mX9_image 23 [.ref p, a1] (.ref p :: st) h Q := w_aload_n dX9_image_22 rfl
theorem X9_image_23 : iWp d mX9_image 23 [a0, a1] (.ref p :: st) h Q = iOb (iGet h p 9 10) (fun v => iWp d mX9_image 26 [a0, a1] (v :: st) h Q) := w_getf dX9_image_23 fF_9_92
theorem X9_image_26 : iWp d mX9_image 26 [a0, a1] (.int x :: .ref p :: st) h Q = iOb (iPut h p 9 40 (.int x)) (fun g => iWp d mX9_image 29 [a0, a1] st g Q) := w_putf dX9_image_26 fF_9_305 ⟨rfl, (Or.inl rfl)⟩
theorem X9_image_29 : iWp d mX9_image 29 [a0, a1] st h Q = iWp d mX9_image 30 [a0, a1] (.int 0 :: st) h Q := w_iconst dX9_image_29 rfl
theorem X9_image_30 : iWp d mX9_image 30 [a0, a1] (.int x :: st) h Q = iWp d mX9_image 31 [iClr a0, .int x] st h Q := w_istore_n dX9_image_30 (Nat.le_of_ble_eq_true rfl) rfl
theorem X9_image_31 : iWp d mX9_image 31 [a0, .int x] st h Q = iWp d mX9_image 32 [a0, .int x] (.int x :: st) h Q := w_iload_n dX9_image_31 rfl
theorem X9_image_32 : iWp d mX9_image 32 [a0, a1] st h Q = iWp d mX9_image 34 [a0, a1] (.int 16 :: st) h Q := w_bipush dX9_image_32 rfl
theorem X9_image_34 : iWp d mX9_image 34 [a0, a1] (.int y :: .int x :: st) h Q = if y ≤ x then iWp d mX9_image 55 [a0, a1] st h Q else iWp d mX9_image 37 [a0, a1] st h Q := w_icmp_ge dX9_image_34 rfl
theorem X9_image_37 : iWp d mX9_image 37 [.ref p, a1] st h Q = iWp d mX9_image 38 [.ref p, a1] (.ref p :: st) h Q := w_aload_n dX9_image_37 rfl
theorem X9_image_38 : iWp d mX9_image 38 [a0, a1] (.ref p :: st) h Q = iOb (iGet h p 9 32) (fun v => iWp d mX9_image 41 [a0, a1] (v :: st) h Q) := w_getf dX9_image_38 fF_9_71
theorem X9_image_41 : iWp d mX9_image 41 [a0, .int x] st h Q = iWp d mX9_image 42 [a0, .int x] (.int x :: st) h Q := w_iload_n dX9_image_41 rfl
theorem X9_image_42 : iWp d mX9_image 42 [.ref p, a1] st h Q = iWp d mX9_image 43 [.ref p, a1] (.ref p :: st) h Q := w_aload_n dX9_image_42 rfl
theorem X9_image_43 : iWp d mX9_image 43 [a0, a1] (.ref p :: st) h Q = iOb (iGet h p 9 1) (fun v => iWp d mX9_image 46 [a0, a1] (v :: st) h Q) := w_getf dX9_image_43 fF_9_7
theorem X9_image_46 : iWp d mX9_image 46 [a0, .int x] st h Q = iWp d mX9_image 47 [a0, .int x] (.int x :: st) h Q := w_iload_n dX9_image_46 rfl
theorem X9_image_47 : iWp d mX9_image 47 [a0, a1] (.int x :: .ref p :: st) h Q = iOb (iLdI h p x) (fun v => iWp d mX9_image 48 [a0, a1] (.int v :: st) h Q) := w_iaload dX9_image_47
theorem X9_image_48 : iWp d mX9_image 48 [a0, a1] (.int y :: .int x :: .ref p :: st) h Q = iOb (iStI h p x y) (fun g => iWp d mX9_image 49 [a0, a1] st g Q) := w_iastore dX9_image_48
theorem X9_image_49 : iWp d mX9_image 49 [a0, .int x] st h Q = iWp d mX9_image 52 [iClr a0, .int (x + 1)] st h Q := w_iinc dX9_image_49 rfl (Nat.le_of_ble_eq_true rfl) rfl
theorem X9_image_52 : iWp d mX9_image 52 [a0, a1] st h Q = iWp d mX9_image 31 [a0, a1] st h Q := w_goto dX9_image_52 rfl
theorem X9_image_55 : iWp d mX9_image 55 [a0, a1] st h Q = iWp d mX9_image 56 [a0, a1] (.int 0 :: st) h Q := w_iconst dX9_image_55 rfl
theorem X9_image_56 : iWp d mX9_image 56 [a0, a1] (.int x :: st) h Q = iWp d mX9_image 57 [iClr a0, .int x] st h Q := w_istore_n dX9_image_56 (Nat.le_of_ble_eq_true rfl) rfl
theorem X9_image_57 : iWp d mX9_image 57 [a0, .int x] st h Q = iWp d mX9_image 58 [a0, .int x] (.int x :: st) h Q := w_iload_n dX9_image_57 rfl
theorem X9_image_58 : iWp d mX9_image 58 [a0, a1] st h Q = iWp d mX9_image 61 [a0, a1] (.int 1024 :: st) h Q := w_sipush dX9_image_58 rfl
theorem X9_image_61 : iWp d mX9_image 61 [a0, a1] (.int y :: .int x :: st) h Q = if y ≤ x then iWp d mX9_image 106 [a0, a1] st h Q else iWp d mX9_image 64 [a0, a1] st h Q := w_icmp_ge dX9_image_61 rfl
theorem X9_image_64 : iWp d mX9_image 64 [.ref p, a1] st h Q = iWp d mX9_image 65 [.ref p, a1] (.ref p :: st) h Q := w_aload_n dX9_image_64 rfl
theorem X9_image_65 : iWp d mX9_image 65 [a0, a1] (.ref p :: st) h Q = iOb (iGet h p 9 33) (fun v => iWp d mX9_image 68 [a0, a1] (v :: st) h Q) := w_getf dX9_image_65 fF_9_74
theorem X9_image_68 : iWp d mX9_image 68 [a0, .int x] st h Q = iWp d mX9_image 69 [a0, .int x] (.int x :: st) h Q := w_iload_n dX9_image_68 rfl
theorem X9_image_69 : iWp d mX9_image 69 [.ref p, a1] st h Q = iWp d mX9_image 70 [.ref p, a1] (.ref p :: st) h Q := w_aload_n dX9_image_69 rfl
theorem X9_image_70 : iWp d mX9_image 70 [a0, a1] (.ref p :: st) h Q = iOb (iGet h p 9 2) (fun v => iWp d mX9_image 73 [a0, a1] (v :: st) h Q) := w_getf dX9_image_70 fF_9_13
theorem X9_image_73 : iWp d mX9_image 73 [a0, .int x] st h Q = iWp d mX9_image 74 [a0, .int x] (.int x :: st) h Q := w_iload_n dX9_image_73 rfl
theorem X9_image_74 : iWp d mX9_image 74 [a0, a1] (.int x :: .ref p :: st) h Q = iOb (iLdI h p x) (fun v => iWp d mX9_image 75 [a0, a1] (.int v :: st) h Q) := w_iaload dX9_image_74
theorem X9_image_75 : iWp d mX9_image 75 [a0, a1] (.int y :: .int x :: .ref p :: st) h Q = iOb (iStI h p x y) (fun g => iWp d mX9_image 76 [a0, a1] st g Q) := w_iastore dX9_image_75
theorem X9_image_76 : iWp d mX9_image 76 [.ref p, a1] st h Q = iWp d mX9_image 77 [.ref p, a1] (.ref p :: st) h Q := w_aload_n dX9_image_76 rfl
theorem X9_image_77 : iWp d mX9_image 77 [a0, a1] (.ref p :: st) h Q = iOb (iGet h p 9 34) (fun v => iWp d mX9_image 80 [a0, a1] (v :: st) h Q) := w_getf dX9_image_77 fF_9_77
theorem X9_image_80 : iWp d mX9_image 80 [a0, .int x] st h Q = iWp d mX9_image 81 [a0, .int x] (.int x :: st) h Q := w_iload_n dX9_image_80 rfl
theorem X9_image_81 : iWp d mX9_image 81 [.ref p, a1] st h Q = iWp d mX9_image 82 [.ref p, a1] (.ref p :: st) h Q := w_aload_n dX9_image_81 rfl
theorem X9_image_82 : iWp d mX9_image 82 [a0, a1] (.ref p :: st) h Q = iOb (iGet h p 9 3) (fun v => iWp d mX9_image 85 [a0, a1] (v :: st) h Q) := w_getf dX9_image_82 fF_9_16
theorem X9_image_85 : iWp d mX9_image 85 [a0, .int x] st h Q = iWp d mX9_image 86 [a0, .int x] (.int x :: st) h Q := w_iload_n dX9_image_85 rfl
theorem X9_image_86 : iWp d mX9_image 86 [a0, a1] (.int x :: .ref p :: st) h Q = iOb (iLdI h p x) (fun v => iWp d mX9_image 87 [a0, a1] (.int v :: st) h Q) := w_iaload dX9_image_86
theorem X9_image_87 : iWp d mX9_image 87 [a0, a1] (.int y :: .int x :: .ref p :: st) h Q = iOb (iStI h p x y) (fun g => iWp d mX9_image 88 [a0, a1] st g Q) := w_iastore dX9_image_87
theorem X9_image_88 : iWp d mX9_image 88 [.ref p, a1] st h Q = iWp d mX9_image 89 [.ref p, a1] (.ref p :: st) h Q := w_aload_n dX9_image_88 rfl
theorem X9_image_89 : iWp d mX9_image 89 [a0, a1] (.ref p :: st) h Q = iOb (iGet h p 9 35) (fun v => iWp d mX9_image 92 [a0, a1] (v :: st) h Q) := w_getf dX9_image_89 fF_9_80
theorem X9_image_92 : iWp d mX9_image 92 [a0, .int x] st h Q = iWp d mX9_image 93 [a0, .int x] (.int x :: st) h Q := w_iload_n dX9_image_92 rfl
theorem X9_image_93 : iWp d mX9_image 93 [.ref p, a1] st h Q = iWp d mX9_image 94 [.ref p, a1] (.ref p :: st) h Q := w_aload_n dX9_image_93 rfl
theorem X9_image_94 : iWp d mX9_image 94 [a0, a1] (.ref p :: st) h Q = iOb (iGet h p 9 4) (fun v => iWp d mX9_image 97 [a0, a1] (v :: st) h Q) := w_getf dX9_image_94 fF_9_19
theorem X9_image_97 : iWp d mX9_image 97 [a0, .int x] st h Q = iWp d mX9_image 98 [a0, .int x] (.int x :: st) h Q := w_iload_n dX9_image_97 rfl
theorem X9_image_98 : iWp d mX9_image 98 [a0, a1] (.int x :: .ref p :: st) h Q = iOb (iLdI h p x) (fun v => iWp d mX9_image 99 [a0, a1] (.int v :: st) h Q) := w_iaload dX9_image_98
theorem X9_image_99 : iWp d mX9_image 99 [a0, a1] (.int y :: .int x :: .ref p :: st) h Q = iOb (iStI h p x y) (fun g => iWp d mX9_image 100 [a0, a1] st g Q) := w_iastore dX9_image_99
theorem X9_image_100 : iWp d mX9_image 100 [a0, .int x] st h Q = iWp d mX9_image 103 [iClr a0, .int (x + 1)] st h Q := w_iinc dX9_image_100 rfl (Nat.le_of_ble_eq_true rfl) rfl
theorem X9_image_103 : iWp d mX9_image 103 [a0, a1] st h Q = iWp d mX9_image 57 [a0, a1] st h Q := w_goto dX9_image_103 rfl
theorem X9_image_106 : iWp d mX9_image 106 [a0, a1] st h Q = iWp d mX9_image 107 [a0, a1] (.int 0 :: st) h Q := w_iconst dX9_image_106 rfl
theorem X9_image_107 : iWp d mX9_image 107 [a0, a1] (.int x :: st) h Q = iWp d mX9_image 108 [iClr a0, .int x] st h Q := w_istore_n dX9_image_107 (Nat.le_of_ble_eq_true rfl) rfl
theorem X9_image_108 : iWp d mX9_image 108 [a0, .int x] st h Q = iWp d mX9_image 109 [a0, .int x] (.int x :: st) h Q := w_iload_n dX9_image_108 rfl
theorem X9_image_109 : iWp d mX9_image 109 [a0, a1] st h Q = iWp d mX9_image 111 [a0, a1] (.int 80 :: st) h Q := w_bipush dX9_image_109 rfl
theorem X9_image_111 : iWp d mX9_image 111 [a0, a1] (.int y :: .int x :: st) h Q = if y ≤ x then iWp d mX9_image 132 [a0, a1] st h Q else iWp d mX9_image 114 [a0, a1] st h Q := w_icmp_ge dX9_image_111 rfl
theorem X9_image_114 : iWp d mX9_image 114 [.ref p, a1] st h Q = iWp d mX9_image 115 [.ref p, a1] (.ref p :: st) h Q := w_aload_n dX9_image_114 rfl
theorem X9_image_115 : iWp d mX9_image 115 [a0, a1] (.ref p :: st) h Q = iOb (iGet h p 9 37) (fun v => iWp d mX9_image 118 [a0, a1] (v :: st) h Q) := w_getf dX9_image_115 fF_9_83
theorem X9_image_118 : iWp d mX9_image 118 [a0, .int x] st h Q = iWp d mX9_image 119 [a0, .int x] (.int x :: st) h Q := w_iload_n dX9_image_118 rfl
theorem X9_image_119 : iWp d mX9_image 119 [.ref p, a1] st h Q = iWp d mX9_image 120 [.ref p, a1] (.ref p :: st) h Q := w_aload_n dX9_image_119 rfl
theorem X9_image_120 : iWp d mX9_image 120 [a0, a1] (.ref p :: st) h Q = iOb (iGet h p 9 7) (fun v => iWp d mX9_image 123 [a0, a1] (v :: st) h Q) := w_getf dX9_image_120 fF_9_22
theorem X9_image_123 : iWp d mX9_image 123 [a0, .int x] st h Q = iWp d mX9_image 124 [a0, .int x] (.int x :: st) h Q := w_iload_n dX9_image_123 rfl
theorem X9_image_124 : iWp d mX9_image 124 [a0, a1] (.int x :: .ref p :: st) h Q = iOb (iLdI h p x) (fun v => iWp d mX9_image 125 [a0, a1] (.int v :: st) h Q) := w_iaload dX9_image_124
theorem X9_image_125 : iWp d mX9_image 125 [a0, a1] (.int y :: .int x :: .ref p :: st) h Q = iOb (iStI h p x y) (fun g => iWp d mX9_image 126 [a0, a1] st g Q) := w_iastore dX9_image_125
theorem X9_image_126 : iWp d mX9_image 126 [a0, .int x] st h Q = iWp d mX9_image 129 [iClr a0, .int (x + 1)] st h Q := w_iinc dX9_image_126 rfl (Nat.le_of_ble_eq_true rfl) rfl
theorem X9_image_129 : iWp d mX9_image 129 [a0, a1] st h Q = iWp d mX9_image 108 [a0, a1] st h Q := w_goto dX9_image_129 rfl
theorem X9_image_132 : iWp d mX9_image 132 [a0, a1] st h Q = iWp d mX9_image 133 [a0, a1] (.int 0 :: st) h Q := w_iconst dX9_image_132 rfl
theorem X9_image_133 : iWp d mX9_image 133 [a0, a1] (.int x :: st) h Q = iWp d mX9_image 134 [iClr a0, .int x] st h Q := w_istore_n dX9_image_133 (Nat.le_of_ble_eq_true rfl) rfl
theorem X9_image_134 : iWp d mX9_image 134 [a0, .int x] st h Q = iWp d mX9_image 135 [a0, .int x] (.int x :: st) h Q := w_iload_n dX9_image_134 rfl
theorem X9_image_135 : iWp d mX9_image 135 [a0, a1] st h Q = iWp d mX9_image 138 [a0, a1] (.int 13440 :: st) h Q := w_sipush dX9_image_135 rfl
theorem X9_image_138 : iWp d mX9_image 138 [a0, a1] (.int y :: .int x :: st) h Q = if y ≤ x then iWp d mX9_image 159 [a0, a1] st h Q else iWp d mX9_image 141 [a0, a1] st h Q := w_icmp_ge dX9_image_138 rfl
theorem X9_image_141 : iWp d mX9_image 141 [.ref p, a1] st h Q = iWp d mX9_image 142 [.ref p, a1] (.ref p :: st) h Q := w_aload_n dX9_image_141 rfl
theorem X9_image_142 : iWp d mX9_image 142 [a0, a1] (.ref p :: st) h Q = iOb (iGet h p 9 38) (fun v => iWp d mX9_image 145 [a0, a1] (v :: st) h Q) := w_getf dX9_image_142 fF_9_86
theorem X9_image_145 : iWp d mX9_image 145 [a0, .int x] st h Q = iWp d mX9_image 146 [a0, .int x] (.int x :: st) h Q := w_iload_n dX9_image_145 rfl
theorem X9_image_146 : iWp d mX9_image 146 [.ref p, a1] st h Q = iWp d mX9_image 147 [.ref p, a1] (.ref p :: st) h Q := w_aload_n dX9_image_146 rfl
theorem X9_image_147 : iWp d mX9_image 147 [a0, a1] (.ref p :: st) h Q = iOb (iGet h p 9 8) (fun v => iWp d mX9_image 150 [a0, a1] (v :: st) h Q) := w_getf dX9_image_147 fF_9_25
theorem X9_image_150 : iWp d mX9_image 150 [a0, .int x] st h Q = iWp d mX9_image 151 [a0, .int x] (.int x :: st) h Q := w_iload_n dX9_image_150 rfl
theorem X9_image_151 : iWp d mX9_image 151 [a0, a1] (.int x :: .ref p :: st) h Q = iOb (iLdI h p x) (fun v => iWp d mX9_image 152 [a0, a1] (.int v :: st) h Q) := w_iaload dX9_image_151
theorem X9_image_152 : iWp d mX9_image 152 [a0, a1] (.int y :: .int x :: .ref p :: st) h Q = iOb (iStI h p x y) (fun g => iWp d mX9_image 153 [a0, a1] st g Q) := w_iastore dX9_image_152
theorem X9_image_153 : iWp d mX9_image 153 [a0, .int x] st h Q = iWp d mX9_image 156 [iClr a0, .int (x + 1)] st h Q := w_iinc dX9_image_153 rfl (Nat.le_of_ble_eq_true rfl) rfl
theorem X9_image_156 : iWp d mX9_image 156 [a0, a1] st h Q = iWp d mX9_image 134 [a0, a1] st h Q := w_goto dX9_image_156 rfl
theorem X9_image_159 : iWp d mX9_image 159 [a0, a1] st h Q = iWp d mX9_image 160 [a0, a1] (.int 0 :: st) h Q := w_iconst dX9_image_159 rfl
theorem X9_image_160 : iWp d mX9_image 160 [a0, a1] (.int x :: st) h Q = iWp d mX9_image 161 [iClr a0, .int x] st h Q := w_istore_n dX9_image_160 (Nat.le_of_ble_eq_true rfl) rfl
theorem X9_image_161 : iWp d mX9_image 161 [a0, .int x] st h Q = iWp d mX9_image 162 [a0, .int x] (.int x :: st) h Q := w_iload_n dX9_image_161 rfl
theorem X9_image_162 : iWp d mX9_image 162 [a0, a1] st h Q = iWp d mX9_image 165 [a0, a1] (.int 3840 :: st) h Q := w_sipush dX9_image_162 rfl
theorem X9_image_165 : iWp d mX9_image 165 [a0, a1] (.int y :: .int x :: st) h Q = if y ≤ x then iWp d mX9_image 186 [a0, a1] st h Q else iWp d mX9_image 168 [a0, a1] st h Q := w_icmp_ge dX9_image_165 rfl
theorem X9_image_168 : iWp d mX9_image 168 [.ref p, a1] st h Q = iWp d mX9_image 169 [.ref p, a1] (.ref p :: st) h Q := w_aload_n dX9_image_168 rfl
theorem X9_image_169 : iWp d mX9_image 169 [a0, a1] (.ref p :: st) h Q = iOb (iGet h p 9 39) (fun v => iWp d mX9_image 172 [a0, a1] (v :: st) h Q) := w_getf dX9_image_169 fF_9_89
theorem X9_image_172 : iWp d mX9_image 172 [a0, .int x] st h Q = iWp d mX9_image 173 [a0, .int x] (.int x :: st) h Q := w_iload_n dX9_image_172 rfl
theorem X9_image_173 : iWp d mX9_image 173 [.ref p, a1] st h Q = iWp d mX9_image 174 [.ref p, a1] (.ref p :: st) h Q := w_aload_n dX9_image_173 rfl
theorem X9_image_174 : iWp d mX9_image 174 [a0, a1] (.ref p :: st) h Q = iOb (iGet h p 9 9) (fun v => iWp d mX9_image 177 [a0, a1] (v :: st) h Q) := w_getf dX9_image_174 fF_9_28
theorem X9_image_177 : iWp d mX9_image 177 [a0, .int x] st h Q = iWp d mX9_image 178 [a0, .int x] (.int x :: st) h Q := w_iload_n dX9_image_177 rfl
theorem X9_image_178 : iWp d mX9_image 178 [a0, a1] (.int x :: .ref p :: st) h Q = iOb (iLdI h p x) (fun v => iWp d mX9_image 179 [a0, a1] (.int v :: st) h Q) := w_iaload dX9_image_178
theorem X9_image_179 : iWp d mX9_image 179 [a0, a1] (.int y :: .int x :: .ref p :: st) h Q = iOb (iStI h p x y) (fun g => iWp d mX9_image 180 [a0, a1] st g Q) := w_iastore dX9_image_179
theorem X9_image_180 : iWp d mX9_image 180 [a0, .int x] st h Q = iWp d mX9_image 183 [iClr a0, .int (x + 1)] st h Q := w_iinc dX9_image_180 rfl (Nat.le_of_ble_eq_true rfl) rfl
theorem X9_image_183 : iWp d mX9_image 183 [a0, a1] st h Q = iWp d mX9_image 161 [a0, a1] st h Q := w_goto dX9_image_183 rfl
theorem X9_image_186 : iWp d mX9_image 186 [.ref p, a1] st h Q = iWp d mX9_image 187 [.ref p, a1] (.ref p :: st) h Q := w_aload_n dX9_image_186 rfl
theorem X9_image_187 : iWp d mX9_image 187 [a0, a1] (.ref p :: st) h Q = iOb (iGet h p 9 0) (fun v => iWp d mX9_image 190 [a0, a1] (v :: st) h Q) := w_getf dX9_image_187 fF_9_103
theorem X9_image_190 : iWp d mX9_image 190 [a0, a1] [.int x] h Q = Q (some (.int x)) h := w_ireti dX9_image_190 rfl
theorem I9_image {Q : Option Value → iHp → Prop} (hw : iWp 1 mX9_image 0 [.ref p, iU] [] h Q) : ∃ r h1, iEv mX9_image [.ref p] h r h1 ∧ Q r h1 := iEv_of (by rfl) rfl hw
theorem J9_image {r : Option Value} {h1 : iHp} (hw : iWp 1 mX9_image 0 [.ref p, iU] [] h (fun r' h' => r' = r ∧ h' = h1)) : iEv mX9_image [.ref p] h r h1 := iEv_ev (by rfl) rfl hw
theorem X9_indexOf_0 : iWp d mX9_indexOf 0 [a0, a1, a2, a3] st h Q = iWp d mX9_indexOf 1 [a0, a1, a2, a3] (.int 0 :: st) h Q := w_iconst dX9_indexOf_0 rfl
theorem X9_indexOf_1 : iWp d mX9_indexOf 1 [a0, a1, a2, a3] (.int x :: st) h Q = iWp d mX9_indexOf 2 [a0, a1, iClr a2, .int x] st h Q := w_istore_n dX9_indexOf_1 (Nat.le_of_ble_eq_true rfl) rfl
theorem X9_indexOf_2 : iWp d mX9_indexOf 2 [a0, a1, a2, .int x] st h Q = iWp d mX9_indexOf 3 [a0, a1, a2, .int x] (.int x :: st) h Q := w_iload_n dX9_indexOf_2 rfl
theorem X9_indexOf_3 : iWp d mX9_indexOf 3 [.ref p, a1, a2, a3] st h Q = iWp d mX9_indexOf 4 [.ref p, a1, a2, a3] (.ref p :: st) h Q := w_aload_n dX9_indexOf_3 rfl
theorem X9_indexOf_4 : iWp d mX9_indexOf 4 [a0, a1, a2, a3] (.ref p :: st) h Q = iOb (iGet h p 9 1) (fun v => iWp d mX9_indexOf 7 [a0, a1, a2, a3] (v :: st) h Q) := w_getf dX9_indexOf_4 fF_9_7
theorem X9_indexOf_7 : iWp d mX9_indexOf 7 [a0, .int x, a2, a3] st h Q = iWp d mX9_indexOf 8 [a0, .int x, a2, a3] (.int x :: st) h Q := w_iload_n dX9_indexOf_7 rfl
theorem X9_indexOf_8 : iWp d mX9_indexOf 8 [a0, a1, a2, a3] (.int x :: .ref p :: st) h Q = iOb (iLdI h p x) (fun v => iWp d mX9_indexOf 9 [a0, a1, a2, a3] (.int v :: st) h Q) := w_iaload dX9_indexOf_8
theorem X9_indexOf_9 : iWp d mX9_indexOf 9 [a0, a1, a2, a3] (.int y :: .int x :: st) h Q = if y ≤ x then iWp d mX9_indexOf 30 [a0, a1, a2, a3] st h Q else iWp d mX9_indexOf 12 [a0, a1, a2, a3] st h Q := w_icmp_ge dX9_indexOf_9 rfl
theorem X9_indexOf_12 : iWp d mX9_indexOf 12 [.ref p, a1, a2, a3] st h Q = iWp d mX9_indexOf 13 [.ref p, a1, a2, a3] (.ref p :: st) h Q := w_aload_n dX9_indexOf_12 rfl
theorem X9_indexOf_13 : iWp d mX9_indexOf 13 [a0, .int x, a2, a3] st h Q = iWp d mX9_indexOf 14 [a0, .int x, a2, a3] (.int x :: st) h Q := w_iload_n dX9_indexOf_13 rfl
theorem X9_indexOf_14 : iWp d mX9_indexOf 14 [a0, a1, a2, .int x] st h Q = iWp d mX9_indexOf 15 [a0, a1, a2, .int x] (.int x :: st) h Q := w_iload_n dX9_indexOf_14 rfl
theorem X9_indexOf_15 (he : iEv mX9_keyOf [.ref p, .int x0, .int x1] h (some (.int rv)) h2) (ho : iObj h p 9 = true) : iWp 2 mX9_indexOf 15 [a0, a1, a2, a3] [.int x1, .int x0, .ref p] h Q = iWp 2 mX9_indexOf 18 [a0, a1, a2, a3] [.int rv] h2 Q := iWp_cV dX9_indexOf_15 fK_9_211 rfl rfl ho (Nat.le_of_ble_eq_true rfl) (Nat.le_of_ble_eq_true rfl) rfl (Nat.le_of_ble_eq_true rfl) he rfl
theorem X9_indexOf_18 : iWp d mX9_indexOf 18 [a0, a1, .int x, a3] st h Q = iWp d mX9_indexOf 19 [a0, a1, .int x, a3] (.int x :: st) h Q := w_iload_n dX9_indexOf_18 rfl
theorem X9_indexOf_19 : iWp d mX9_indexOf 19 [a0, a1, a2, a3] (.int y :: .int x :: st) h Q = if x = y then iWp d mX9_indexOf 22 [a0, a1, a2, a3] st h Q else iWp d mX9_indexOf 24 [a0, a1, a2, a3] st h Q := w_icmp_ne dX9_indexOf_19 rfl
theorem X9_indexOf_22 : iWp d mX9_indexOf 22 [a0, a1, a2, .int x] st h Q = iWp d mX9_indexOf 23 [a0, a1, a2, .int x] (.int x :: st) h Q := w_iload_n dX9_indexOf_22 rfl
theorem X9_indexOf_23 : iWp d mX9_indexOf 23 [a0, a1, a2, a3] [.int x] h Q = Q (some (.int x)) h := w_ireti dX9_indexOf_23 rfl
theorem X9_indexOf_24 : iWp d mX9_indexOf 24 [a0, a1, a2, .int x] st h Q = iWp d mX9_indexOf 27 [a0, a1, iClr a2, .int (x + 1)] st h Q := w_iinc dX9_indexOf_24 rfl (Nat.le_of_ble_eq_true rfl) rfl
theorem X9_indexOf_27 : iWp d mX9_indexOf 27 [a0, a1, a2, a3] st h Q = iWp d mX9_indexOf 2 [a0, a1, a2, a3] st h Q := w_goto dX9_indexOf_27 rfl
theorem X9_indexOf_30 : iWp d mX9_indexOf 30 [a0, a1, a2, a3] st h Q = iWp d mX9_indexOf 31 [a0, a1, a2, a3] (.int (-1) :: st) h Q := w_iconst dX9_indexOf_30 rfl
theorem X9_indexOf_31 : iWp d mX9_indexOf 31 [a0, a1, a2, a3] [.int x] h Q = Q (some (.int x)) h := w_ireti dX9_indexOf_31 rfl
theorem I9_indexOf {Q : Option Value → iHp → Prop} (hw : iWp 2 mX9_indexOf 0 [.ref p, .int x0, .int x1, iU] [] h Q) : ∃ r h1, iEv mX9_indexOf [.ref p, .int x0, .int x1] h r h1 ∧ Q r h1 := iEv_of (by rfl) rfl hw
theorem J9_indexOf {r : Option Value} {h1 : iHp} (hw : iWp 2 mX9_indexOf 0 [.ref p, .int x0, .int x1, iU] [] h (fun r' h' => r' = r ∧ h' = h1)) : iEv mX9_indexOf [.ref p, .int x0, .int x1] h r h1 := iEv_ev (by rfl) rfl hw
theorem X9_init_0 : iWp d mX9_init 0 [.ref p, a1] st h Q = iWp d mX9_init 1 [.ref p, a1] (.ref p :: st) h Q := w_aload_n dX9_init_0 rfl
theorem X9_init_1 (hs : iSum st ≤ 8) : iWp d mX9_init 1 [a0, a1] (.ref p :: st) h Q = iWp d mX9_init 4 [a0, a1] st h Q := iWp_k dX9_init_1 rfl (fun _ _ => iObS hs fK_9_1 rfl rfl)
theorem X9_init_4 : iWp d mX9_init 4 [.ref p, a1] st h Q = iWp d mX9_init 5 [.ref p, a1] (.ref p :: st) h Q := w_aload_n dX9_init_4 rfl
theorem X9_init_5 : iWp d mX9_init 5 [a0, a1] st h Q = iWp d mX9_init 7 [a0, a1] (.int 16 :: st) h Q := w_bipush dX9_init_5 rfl
theorem X9_init_7 : iWp d mX9_init 7 [a0, a1] (.int x :: st) h Q = iOb (iNewA h .int x) (fun g => iWp d mX9_init 9 [a0, a1] (.ref h.2.1 :: st) g Q) := w_newa dX9_init_7
theorem X9_init_9 : iWp d mX9_init 9 [a0, a1] (.ref q :: .ref p :: st) h Q = iOb (iPut h p 9 1 (.ref q)) (fun g => iWp d mX9_init 12 [a0, a1] st g Q) := w_putf dX9_init_9 fF_9_7 ⟨rfl, (Or.inr ⟨rfl, rfl⟩)⟩
theorem X9_init_9n : iWp d mX9_init 9 [a0, a1] (.null :: .ref p :: st) h Q = iOb (iPut h p 9 1 (.null)) (fun g => iWp d mX9_init 12 [a0, a1] st g Q) := w_putf dX9_init_9 fF_9_7 ⟨rfl, (Or.inr ⟨rfl, rfl⟩)⟩
theorem X9_init_12 : iWp d mX9_init 12 [.ref p, a1] st h Q = iWp d mX9_init 13 [.ref p, a1] (.ref p :: st) h Q := w_aload_n dX9_init_12 rfl
theorem X9_init_13 : iWp d mX9_init 13 [a0, a1] st h Q = iWp d mX9_init 16 [a0, a1] (.int 1024 :: st) h Q := w_sipush dX9_init_13 rfl
theorem X9_init_16 : iWp d mX9_init 16 [a0, a1] (.int x :: st) h Q = iOb (iNewA h .int x) (fun g => iWp d mX9_init 18 [a0, a1] (.ref h.2.1 :: st) g Q) := w_newa dX9_init_16
theorem X9_init_18 : iWp d mX9_init 18 [a0, a1] (.ref q :: .ref p :: st) h Q = iOb (iPut h p 9 2 (.ref q)) (fun g => iWp d mX9_init 21 [a0, a1] st g Q) := w_putf dX9_init_18 fF_9_13 ⟨rfl, (Or.inr ⟨rfl, rfl⟩)⟩
theorem X9_init_18n : iWp d mX9_init 18 [a0, a1] (.null :: .ref p :: st) h Q = iOb (iPut h p 9 2 (.null)) (fun g => iWp d mX9_init 21 [a0, a1] st g Q) := w_putf dX9_init_18 fF_9_13 ⟨rfl, (Or.inr ⟨rfl, rfl⟩)⟩
theorem X9_init_21 : iWp d mX9_init 21 [.ref p, a1] st h Q = iWp d mX9_init 22 [.ref p, a1] (.ref p :: st) h Q := w_aload_n dX9_init_21 rfl
theorem X9_init_22 : iWp d mX9_init 22 [a0, a1] st h Q = iWp d mX9_init 25 [a0, a1] (.int 1024 :: st) h Q := w_sipush dX9_init_22 rfl
theorem X9_init_25 : iWp d mX9_init 25 [a0, a1] (.int x :: st) h Q = iOb (iNewA h .int x) (fun g => iWp d mX9_init 27 [a0, a1] (.ref h.2.1 :: st) g Q) := w_newa dX9_init_25
theorem X9_init_27 : iWp d mX9_init 27 [a0, a1] (.ref q :: .ref p :: st) h Q = iOb (iPut h p 9 3 (.ref q)) (fun g => iWp d mX9_init 30 [a0, a1] st g Q) := w_putf dX9_init_27 fF_9_16 ⟨rfl, (Or.inr ⟨rfl, rfl⟩)⟩
theorem X9_init_27n : iWp d mX9_init 27 [a0, a1] (.null :: .ref p :: st) h Q = iOb (iPut h p 9 3 (.null)) (fun g => iWp d mX9_init 30 [a0, a1] st g Q) := w_putf dX9_init_27 fF_9_16 ⟨rfl, (Or.inr ⟨rfl, rfl⟩)⟩
theorem X9_init_30 : iWp d mX9_init 30 [.ref p, a1] st h Q = iWp d mX9_init 31 [.ref p, a1] (.ref p :: st) h Q := w_aload_n dX9_init_30 rfl
theorem X9_init_31 : iWp d mX9_init 31 [a0, a1] st h Q = iWp d mX9_init 34 [a0, a1] (.int 1024 :: st) h Q := w_sipush dX9_init_31 rfl
theorem X9_init_34 : iWp d mX9_init 34 [a0, a1] (.int x :: st) h Q = iOb (iNewA h .int x) (fun g => iWp d mX9_init 36 [a0, a1] (.ref h.2.1 :: st) g Q) := w_newa dX9_init_34
theorem X9_init_36 : iWp d mX9_init 36 [a0, a1] (.ref q :: .ref p :: st) h Q = iOb (iPut h p 9 4 (.ref q)) (fun g => iWp d mX9_init 39 [a0, a1] st g Q) := w_putf dX9_init_36 fF_9_19 ⟨rfl, (Or.inr ⟨rfl, rfl⟩)⟩
theorem X9_init_36n : iWp d mX9_init 36 [a0, a1] (.null :: .ref p :: st) h Q = iOb (iPut h p 9 4 (.null)) (fun g => iWp d mX9_init 39 [a0, a1] st g Q) := w_putf dX9_init_36 fF_9_19 ⟨rfl, (Or.inr ⟨rfl, rfl⟩)⟩
theorem X9_init_39 : iWp d mX9_init 39 [.ref p, a1] st h Q = iWp d mX9_init 40 [.ref p, a1] (.ref p :: st) h Q := w_aload_n dX9_init_39 rfl
theorem X9_init_40 : iWp d mX9_init 40 [a0, a1] st h Q = iWp d mX9_init 42 [a0, a1] (.int 80 :: st) h Q := w_bipush dX9_init_40 rfl
theorem X9_init_42 : iWp d mX9_init 42 [a0, a1] (.int x :: st) h Q = iOb (iNewA h .int x) (fun g => iWp d mX9_init 44 [a0, a1] (.ref h.2.1 :: st) g Q) := w_newa dX9_init_42
theorem X9_init_44 : iWp d mX9_init 44 [a0, a1] (.ref q :: .ref p :: st) h Q = iOb (iPut h p 9 7 (.ref q)) (fun g => iWp d mX9_init 47 [a0, a1] st g Q) := w_putf dX9_init_44 fF_9_22 ⟨rfl, (Or.inr ⟨rfl, rfl⟩)⟩
theorem X9_init_44n : iWp d mX9_init 44 [a0, a1] (.null :: .ref p :: st) h Q = iOb (iPut h p 9 7 (.null)) (fun g => iWp d mX9_init 47 [a0, a1] st g Q) := w_putf dX9_init_44 fF_9_22 ⟨rfl, (Or.inr ⟨rfl, rfl⟩)⟩
theorem X9_init_47 : iWp d mX9_init 47 [.ref p, a1] st h Q = iWp d mX9_init 48 [.ref p, a1] (.ref p :: st) h Q := w_aload_n dX9_init_47 rfl
theorem X9_init_48 : iWp d mX9_init 48 [a0, a1] st h Q = iWp d mX9_init 51 [a0, a1] (.int 13440 :: st) h Q := w_sipush dX9_init_48 rfl
theorem X9_init_51 : iWp d mX9_init 51 [a0, a1] (.int x :: st) h Q = iOb (iNewA h .int x) (fun g => iWp d mX9_init 53 [a0, a1] (.ref h.2.1 :: st) g Q) := w_newa dX9_init_51
theorem X9_init_53 : iWp d mX9_init 53 [a0, a1] (.ref q :: .ref p :: st) h Q = iOb (iPut h p 9 8 (.ref q)) (fun g => iWp d mX9_init 56 [a0, a1] st g Q) := w_putf dX9_init_53 fF_9_25 ⟨rfl, (Or.inr ⟨rfl, rfl⟩)⟩
theorem X9_init_53n : iWp d mX9_init 53 [a0, a1] (.null :: .ref p :: st) h Q = iOb (iPut h p 9 8 (.null)) (fun g => iWp d mX9_init 56 [a0, a1] st g Q) := w_putf dX9_init_53 fF_9_25 ⟨rfl, (Or.inr ⟨rfl, rfl⟩)⟩
theorem X9_init_56 : iWp d mX9_init 56 [.ref p, a1] st h Q = iWp d mX9_init 57 [.ref p, a1] (.ref p :: st) h Q := w_aload_n dX9_init_56 rfl
theorem X9_init_57 : iWp d mX9_init 57 [a0, a1] st h Q = iWp d mX9_init 60 [a0, a1] (.int 3840 :: st) h Q := w_sipush dX9_init_57 rfl
theorem X9_init_60 : iWp d mX9_init 60 [a0, a1] (.int x :: st) h Q = iOb (iNewA h .int x) (fun g => iWp d mX9_init 62 [a0, a1] (.ref h.2.1 :: st) g Q) := w_newa dX9_init_60
theorem X9_init_62 : iWp d mX9_init 62 [a0, a1] (.ref q :: .ref p :: st) h Q = iOb (iPut h p 9 9 (.ref q)) (fun g => iWp d mX9_init 65 [a0, a1] st g Q) := w_putf dX9_init_62 fF_9_28 ⟨rfl, (Or.inr ⟨rfl, rfl⟩)⟩
theorem X9_init_62n : iWp d mX9_init 62 [a0, a1] (.null :: .ref p :: st) h Q = iOb (iPut h p 9 9 (.null)) (fun g => iWp d mX9_init 65 [a0, a1] st g Q) := w_putf dX9_init_62 fF_9_28 ⟨rfl, (Or.inr ⟨rfl, rfl⟩)⟩
theorem X9_init_65 : iWp d mX9_init 65 [.ref p, a1] st h Q = iWp d mX9_init 66 [.ref p, a1] (.ref p :: st) h Q := w_aload_n dX9_init_65 rfl
theorem X9_init_66 : iWp d mX9_init 66 [a0, a1] st h Q = iWp d mX9_init 68 [a0, a1] (.int 8 :: st) h Q := w_bipush dX9_init_66 rfl
theorem X9_init_68 : iWp d mX9_init 68 [a0, a1] (.int x :: st) h Q = iOb (iNewA h .int x) (fun g => iWp d mX9_init 70 [a0, a1] (.ref h.2.1 :: st) g Q) := w_newa dX9_init_68
theorem X9_init_70 : iWp d mX9_init 70 [a0, a1] (.ref q :: .ref p :: st) h Q = iOb (iPut h p 9 11 (.ref q)) (fun g => iWp d mX9_init 73 [a0, a1] st g Q) := w_putf dX9_init_70 fF_9_31 ⟨rfl, (Or.inr ⟨rfl, rfl⟩)⟩
theorem X9_init_70n : iWp d mX9_init 70 [a0, a1] (.null :: .ref p :: st) h Q = iOb (iPut h p 9 11 (.null)) (fun g => iWp d mX9_init 73 [a0, a1] st g Q) := w_putf dX9_init_70 fF_9_31 ⟨rfl, (Or.inr ⟨rfl, rfl⟩)⟩
theorem X9_init_73 : iWp d mX9_init 73 [.ref p, a1] st h Q = iWp d mX9_init 74 [.ref p, a1] (.ref p :: st) h Q := w_aload_n dX9_init_73 rfl
theorem X9_init_74 : iWp d mX9_init 74 [a0, a1] st h Q = iWp d mX9_init 76 [a0, a1] (.int 8 :: st) h Q := w_bipush dX9_init_74 rfl
theorem X9_init_76 : iWp d mX9_init 76 [a0, a1] (.int x :: st) h Q = iOb (iNewA h .int x) (fun g => iWp d mX9_init 78 [a0, a1] (.ref h.2.1 :: st) g Q) := w_newa dX9_init_76
theorem X9_init_78 : iWp d mX9_init 78 [a0, a1] (.ref q :: .ref p :: st) h Q = iOb (iPut h p 9 12 (.ref q)) (fun g => iWp d mX9_init 81 [a0, a1] st g Q) := w_putf dX9_init_78 fF_9_34 ⟨rfl, (Or.inr ⟨rfl, rfl⟩)⟩
theorem X9_init_78n : iWp d mX9_init 78 [a0, a1] (.null :: .ref p :: st) h Q = iOb (iPut h p 9 12 (.null)) (fun g => iWp d mX9_init 81 [a0, a1] st g Q) := w_putf dX9_init_78 fF_9_34 ⟨rfl, (Or.inr ⟨rfl, rfl⟩)⟩
theorem X9_init_81 : iWp d mX9_init 81 [.ref p, a1] st h Q = iWp d mX9_init 82 [.ref p, a1] (.ref p :: st) h Q := w_aload_n dX9_init_81 rfl
theorem X9_init_82 : iWp d mX9_init 82 [a0, a1] st h Q = iWp d mX9_init 85 [a0, a1] (.int 1280 :: st) h Q := w_sipush dX9_init_82 rfl
theorem X9_init_85 : iWp d mX9_init 85 [a0, a1] (.int x :: st) h Q = iOb (iNewA h .long x) (fun g => iWp d mX9_init 87 [a0, a1] (.ref h.2.1 :: st) g Q) := w_newa dX9_init_85
theorem X9_init_87 : iWp d mX9_init 87 [a0, a1] (.ref q :: .ref p :: st) h Q = iOb (iPut h p 9 13 (.ref q)) (fun g => iWp d mX9_init 90 [a0, a1] st g Q) := w_putf dX9_init_87 fF_9_37 ⟨rfl, (Or.inr ⟨rfl, rfl⟩)⟩
theorem X9_init_87n : iWp d mX9_init 87 [a0, a1] (.null :: .ref p :: st) h Q = iOb (iPut h p 9 13 (.null)) (fun g => iWp d mX9_init 90 [a0, a1] st g Q) := w_putf dX9_init_87 fF_9_37 ⟨rfl, (Or.inr ⟨rfl, rfl⟩)⟩
theorem X9_init_90 : iWp d mX9_init 90 [.ref p, a1] st h Q = iWp d mX9_init 91 [.ref p, a1] (.ref p :: st) h Q := w_aload_n dX9_init_90 rfl
theorem X9_init_91 : iWp d mX9_init 91 [a0, a1] st h Q = iWp d mX9_init 93 [a0, a1] (.int 8 :: st) h Q := w_bipush dX9_init_91 rfl
theorem X9_init_93 : iWp d mX9_init 93 [a0, a1] (.int x :: st) h Q = iOb (iNewA h .int x) (fun g => iWp d mX9_init 95 [a0, a1] (.ref h.2.1 :: st) g Q) := w_newa dX9_init_93
theorem X9_init_95 : iWp d mX9_init 95 [a0, a1] (.ref q :: .ref p :: st) h Q = iOb (iPut h p 9 17 (.ref q)) (fun g => iWp d mX9_init 98 [a0, a1] st g Q) := w_putf dX9_init_95 fF_9_41 ⟨rfl, (Or.inr ⟨rfl, rfl⟩)⟩
theorem X9_init_95n : iWp d mX9_init 95 [a0, a1] (.null :: .ref p :: st) h Q = iOb (iPut h p 9 17 (.null)) (fun g => iWp d mX9_init 98 [a0, a1] st g Q) := w_putf dX9_init_95 fF_9_41 ⟨rfl, (Or.inr ⟨rfl, rfl⟩)⟩
theorem X9_init_98 : iWp d mX9_init 98 [.ref p, a1] st h Q = iWp d mX9_init 99 [.ref p, a1] (.ref p :: st) h Q := w_aload_n dX9_init_98 rfl
theorem X9_init_99 : iWp d mX9_init 99 [a0, a1] st h Q = iWp d mX9_init 101 [a0, a1] (.int 66 :: st) h Q := w_bipush dX9_init_99 rfl
theorem X9_init_101 : iWp d mX9_init 101 [a0, a1] (.int x :: st) h Q = iOb (iNewA h .int x) (fun g => iWp d mX9_init 103 [a0, a1] (.ref h.2.1 :: st) g Q) := w_newa dX9_init_101
theorem X9_init_103 : iWp d mX9_init 103 [a0, a1] (.ref q :: .ref p :: st) h Q = iOb (iPut h p 9 19 (.ref q)) (fun g => iWp d mX9_init 106 [a0, a1] st g Q) := w_putf dX9_init_103 fF_9_44 ⟨rfl, (Or.inr ⟨rfl, rfl⟩)⟩
theorem X9_init_103n : iWp d mX9_init 103 [a0, a1] (.null :: .ref p :: st) h Q = iOb (iPut h p 9 19 (.null)) (fun g => iWp d mX9_init 106 [a0, a1] st g Q) := w_putf dX9_init_103 fF_9_44 ⟨rfl, (Or.inr ⟨rfl, rfl⟩)⟩
theorem X9_init_106 : iWp d mX9_init 106 [.ref p, a1] st h Q = iWp d mX9_init 107 [.ref p, a1] (.ref p :: st) h Q := w_aload_n dX9_init_106 rfl
theorem X9_init_107 : iWp d mX9_init 107 [a0, a1] st h Q = iWp d mX9_init 109 [a0, a1] (.int 66 :: st) h Q := w_bipush dX9_init_107 rfl
theorem X9_init_109 : iWp d mX9_init 109 [a0, a1] (.int x :: st) h Q = iOb (iNewA h .int x) (fun g => iWp d mX9_init 111 [a0, a1] (.ref h.2.1 :: st) g Q) := w_newa dX9_init_109
theorem X9_init_111 : iWp d mX9_init 111 [a0, a1] (.ref q :: .ref p :: st) h Q = iOb (iPut h p 9 20 (.ref q)) (fun g => iWp d mX9_init 114 [a0, a1] st g Q) := w_putf dX9_init_111 fF_9_47 ⟨rfl, (Or.inr ⟨rfl, rfl⟩)⟩
theorem X9_init_111n : iWp d mX9_init 111 [a0, a1] (.null :: .ref p :: st) h Q = iOb (iPut h p 9 20 (.null)) (fun g => iWp d mX9_init 114 [a0, a1] st g Q) := w_putf dX9_init_111 fF_9_47 ⟨rfl, (Or.inr ⟨rfl, rfl⟩)⟩
theorem X9_init_114 : iWp d mX9_init 114 [.ref p, a1] st h Q = iWp d mX9_init 115 [.ref p, a1] (.ref p :: st) h Q := w_aload_n dX9_init_114 rfl
theorem X9_init_115 : iWp d mX9_init 115 [a0, a1] st h Q = iWp d mX9_init 117 [a0, a1] (.int 66 :: st) h Q := w_bipush dX9_init_115 rfl
theorem X9_init_117 : iWp d mX9_init 117 [a0, a1] (.int x :: st) h Q = iOb (iNewA h .int x) (fun g => iWp d mX9_init 119 [a0, a1] (.ref h.2.1 :: st) g Q) := w_newa dX9_init_117
theorem X9_init_119 : iWp d mX9_init 119 [a0, a1] (.ref q :: .ref p :: st) h Q = iOb (iPut h p 9 21 (.ref q)) (fun g => iWp d mX9_init 122 [a0, a1] st g Q) := w_putf dX9_init_119 fF_9_50 ⟨rfl, (Or.inr ⟨rfl, rfl⟩)⟩
theorem X9_init_119n : iWp d mX9_init 119 [a0, a1] (.null :: .ref p :: st) h Q = iOb (iPut h p 9 21 (.null)) (fun g => iWp d mX9_init 122 [a0, a1] st g Q) := w_putf dX9_init_119 fF_9_50 ⟨rfl, (Or.inr ⟨rfl, rfl⟩)⟩
theorem X9_init_122 : iWp d mX9_init 122 [.ref p, a1] st h Q = iWp d mX9_init 123 [.ref p, a1] (.ref p :: st) h Q := w_aload_n dX9_init_122 rfl
theorem X9_init_123 : iWp d mX9_init 123 [a0, a1] st h Q = iWp d mX9_init 125 [a0, a1] (.int 66 :: st) h Q := w_bipush dX9_init_123 rfl
theorem X9_init_125 : iWp d mX9_init 125 [a0, a1] (.int x :: st) h Q = iOb (iNewA h .int x) (fun g => iWp d mX9_init 127 [a0, a1] (.ref h.2.1 :: st) g Q) := w_newa dX9_init_125
theorem X9_init_127 : iWp d mX9_init 127 [a0, a1] (.ref q :: .ref p :: st) h Q = iOb (iPut h p 9 22 (.ref q)) (fun g => iWp d mX9_init 130 [a0, a1] st g Q) := w_putf dX9_init_127 fF_9_53 ⟨rfl, (Or.inr ⟨rfl, rfl⟩)⟩
theorem X9_init_127n : iWp d mX9_init 127 [a0, a1] (.null :: .ref p :: st) h Q = iOb (iPut h p 9 22 (.null)) (fun g => iWp d mX9_init 130 [a0, a1] st g Q) := w_putf dX9_init_127 fF_9_53 ⟨rfl, (Or.inr ⟨rfl, rfl⟩)⟩
theorem X9_init_130 : iWp d mX9_init 130 [.ref p, a1] st h Q = iWp d mX9_init 131 [.ref p, a1] (.ref p :: st) h Q := w_aload_n dX9_init_130 rfl
theorem X9_init_131 : iWp d mX9_init 131 [a0, a1] st h Q = iWp d mX9_init 133 [a0, a1] (.int 66 :: st) h Q := w_bipush dX9_init_131 rfl
theorem X9_init_133 : iWp d mX9_init 133 [a0, a1] (.int x :: st) h Q = iOb (iNewA h .int x) (fun g => iWp d mX9_init 135 [a0, a1] (.ref h.2.1 :: st) g Q) := w_newa dX9_init_133
theorem X9_init_135 : iWp d mX9_init 135 [a0, a1] (.ref q :: .ref p :: st) h Q = iOb (iPut h p 9 23 (.ref q)) (fun g => iWp d mX9_init 138 [a0, a1] st g Q) := w_putf dX9_init_135 fF_9_56 ⟨rfl, (Or.inr ⟨rfl, rfl⟩)⟩
theorem X9_init_135n : iWp d mX9_init 135 [a0, a1] (.null :: .ref p :: st) h Q = iOb (iPut h p 9 23 (.null)) (fun g => iWp d mX9_init 138 [a0, a1] st g Q) := w_putf dX9_init_135 fF_9_56 ⟨rfl, (Or.inr ⟨rfl, rfl⟩)⟩
theorem X9_init_138 : iWp d mX9_init 138 [.ref p, a1] st h Q = iWp d mX9_init 139 [.ref p, a1] (.ref p :: st) h Q := w_aload_n dX9_init_138 rfl
theorem X9_init_139 : iWp d mX9_init 139 [a0, a1] st h Q = iWp d mX9_init 141 [a0, a1] (.int 66 :: st) h Q := w_bipush dX9_init_139 rfl
theorem X9_init_141 : iWp d mX9_init 141 [a0, a1] (.int x :: st) h Q = iOb (iNewA h .int x) (fun g => iWp d mX9_init 143 [a0, a1] (.ref h.2.1 :: st) g Q) := w_newa dX9_init_141
theorem X9_init_143 : iWp d mX9_init 143 [a0, a1] (.ref q :: .ref p :: st) h Q = iOb (iPut h p 9 24 (.ref q)) (fun g => iWp d mX9_init 146 [a0, a1] st g Q) := w_putf dX9_init_143 fF_9_59 ⟨rfl, (Or.inr ⟨rfl, rfl⟩)⟩
theorem X9_init_143n : iWp d mX9_init 143 [a0, a1] (.null :: .ref p :: st) h Q = iOb (iPut h p 9 24 (.null)) (fun g => iWp d mX9_init 146 [a0, a1] st g Q) := w_putf dX9_init_143 fF_9_59 ⟨rfl, (Or.inr ⟨rfl, rfl⟩)⟩
theorem X9_init_146 : iWp d mX9_init 146 [.ref p, a1] st h Q = iWp d mX9_init 147 [.ref p, a1] (.ref p :: st) h Q := w_aload_n dX9_init_146 rfl
theorem X9_init_147 : iWp d mX9_init 147 [a0, a1] st h Q = iWp d mX9_init 150 [a0, a1] (.int 1400 :: st) h Q := w_sipush dX9_init_147 rfl
theorem X9_init_150 : iWp d mX9_init 150 [a0, a1] (.int x :: st) h Q = iOb (iNewA h .int x) (fun g => iWp d mX9_init 152 [a0, a1] (.ref h.2.1 :: st) g Q) := w_newa dX9_init_150
theorem X9_init_152 : iWp d mX9_init 152 [a0, a1] (.ref q :: .ref p :: st) h Q = iOb (iPut h p 9 26 (.ref q)) (fun g => iWp d mX9_init 155 [a0, a1] st g Q) := w_putf dX9_init_152 fF_9_62 ⟨rfl, (Or.inr ⟨rfl, rfl⟩)⟩
theorem X9_init_152n : iWp d mX9_init 152 [a0, a1] (.null :: .ref p :: st) h Q = iOb (iPut h p 9 26 (.null)) (fun g => iWp d mX9_init 155 [a0, a1] st g Q) := w_putf dX9_init_152 fF_9_62 ⟨rfl, (Or.inr ⟨rfl, rfl⟩)⟩
theorem X9_init_155 : iWp d mX9_init 155 [.ref p, a1] st h Q = iWp d mX9_init 156 [.ref p, a1] (.ref p :: st) h Q := w_aload_n dX9_init_155 rfl
theorem X9_init_156 : iWp d mX9_init 156 [a0, a1] st h Q = iWp d mX9_init 159 [a0, a1] (.int 240 :: st) h Q := w_sipush dX9_init_156 rfl
theorem X9_init_159 : iWp d mX9_init 159 [a0, a1] (.int x :: st) h Q = iOb (iNewA h .int x) (fun g => iWp d mX9_init 161 [a0, a1] (.ref h.2.1 :: st) g Q) := w_newa dX9_init_159
theorem X9_init_161 : iWp d mX9_init 161 [a0, a1] (.ref q :: .ref p :: st) h Q = iOb (iPut h p 9 28 (.ref q)) (fun g => iWp d mX9_init 164 [a0, a1] st g Q) := w_putf dX9_init_161 fF_9_65 ⟨rfl, (Or.inr ⟨rfl, rfl⟩)⟩
theorem X9_init_161n : iWp d mX9_init 161 [a0, a1] (.null :: .ref p :: st) h Q = iOb (iPut h p 9 28 (.null)) (fun g => iWp d mX9_init 164 [a0, a1] st g Q) := w_putf dX9_init_161 fF_9_65 ⟨rfl, (Or.inr ⟨rfl, rfl⟩)⟩
theorem X9_init_164 : iWp d mX9_init 164 [.ref p, a1] st h Q = iWp d mX9_init 165 [.ref p, a1] (.ref p :: st) h Q := w_aload_n dX9_init_164 rfl
theorem X9_init_165 : iWp d mX9_init 165 [a0, a1] st h Q = iWp d mX9_init 167 [a0, a1] (.int 66 :: st) h Q := w_bipush dX9_init_165 rfl
theorem X9_init_167 : iWp d mX9_init 167 [a0, a1] (.int x :: st) h Q = iOb (iNewA h .int x) (fun g => iWp d mX9_init 169 [a0, a1] (.ref h.2.1 :: st) g Q) := w_newa dX9_init_167
theorem X9_init_169 : iWp d mX9_init 169 [a0, a1] (.ref q :: .ref p :: st) h Q = iOb (iPut h p 9 29 (.ref q)) (fun g => iWp d mX9_init 172 [a0, a1] st g Q) := w_putf dX9_init_169 fF_9_68 ⟨rfl, (Or.inr ⟨rfl, rfl⟩)⟩
theorem X9_init_169n : iWp d mX9_init 169 [a0, a1] (.null :: .ref p :: st) h Q = iOb (iPut h p 9 29 (.null)) (fun g => iWp d mX9_init 172 [a0, a1] st g Q) := w_putf dX9_init_169 fF_9_68 ⟨rfl, (Or.inr ⟨rfl, rfl⟩)⟩
theorem X9_init_172 : iWp d mX9_init 172 [.ref p, a1] st h Q = iWp d mX9_init 173 [.ref p, a1] (.ref p :: st) h Q := w_aload_n dX9_init_172 rfl
theorem X9_init_173 : iWp d mX9_init 173 [a0, a1] st h Q = iWp d mX9_init 175 [a0, a1] (.int 16 :: st) h Q := w_bipush dX9_init_173 rfl
theorem X9_init_175 : iWp d mX9_init 175 [a0, a1] (.int x :: st) h Q = iOb (iNewA h .int x) (fun g => iWp d mX9_init 177 [a0, a1] (.ref h.2.1 :: st) g Q) := w_newa dX9_init_175
theorem X9_init_177 : iWp d mX9_init 177 [a0, a1] (.ref q :: .ref p :: st) h Q = iOb (iPut h p 9 32 (.ref q)) (fun g => iWp d mX9_init 180 [a0, a1] st g Q) := w_putf dX9_init_177 fF_9_71 ⟨rfl, (Or.inr ⟨rfl, rfl⟩)⟩
theorem X9_init_177n : iWp d mX9_init 177 [a0, a1] (.null :: .ref p :: st) h Q = iOb (iPut h p 9 32 (.null)) (fun g => iWp d mX9_init 180 [a0, a1] st g Q) := w_putf dX9_init_177 fF_9_71 ⟨rfl, (Or.inr ⟨rfl, rfl⟩)⟩
theorem X9_init_180 : iWp d mX9_init 180 [.ref p, a1] st h Q = iWp d mX9_init 181 [.ref p, a1] (.ref p :: st) h Q := w_aload_n dX9_init_180 rfl
theorem X9_init_181 : iWp d mX9_init 181 [a0, a1] st h Q = iWp d mX9_init 184 [a0, a1] (.int 1024 :: st) h Q := w_sipush dX9_init_181 rfl
theorem X9_init_184 : iWp d mX9_init 184 [a0, a1] (.int x :: st) h Q = iOb (iNewA h .int x) (fun g => iWp d mX9_init 186 [a0, a1] (.ref h.2.1 :: st) g Q) := w_newa dX9_init_184
theorem X9_init_186 : iWp d mX9_init 186 [a0, a1] (.ref q :: .ref p :: st) h Q = iOb (iPut h p 9 33 (.ref q)) (fun g => iWp d mX9_init 189 [a0, a1] st g Q) := w_putf dX9_init_186 fF_9_74 ⟨rfl, (Or.inr ⟨rfl, rfl⟩)⟩
theorem X9_init_186n : iWp d mX9_init 186 [a0, a1] (.null :: .ref p :: st) h Q = iOb (iPut h p 9 33 (.null)) (fun g => iWp d mX9_init 189 [a0, a1] st g Q) := w_putf dX9_init_186 fF_9_74 ⟨rfl, (Or.inr ⟨rfl, rfl⟩)⟩
theorem X9_init_189 : iWp d mX9_init 189 [.ref p, a1] st h Q = iWp d mX9_init 190 [.ref p, a1] (.ref p :: st) h Q := w_aload_n dX9_init_189 rfl
theorem X9_init_190 : iWp d mX9_init 190 [a0, a1] st h Q = iWp d mX9_init 193 [a0, a1] (.int 1024 :: st) h Q := w_sipush dX9_init_190 rfl
theorem X9_init_193 : iWp d mX9_init 193 [a0, a1] (.int x :: st) h Q = iOb (iNewA h .int x) (fun g => iWp d mX9_init 195 [a0, a1] (.ref h.2.1 :: st) g Q) := w_newa dX9_init_193
theorem X9_init_195 : iWp d mX9_init 195 [a0, a1] (.ref q :: .ref p :: st) h Q = iOb (iPut h p 9 34 (.ref q)) (fun g => iWp d mX9_init 198 [a0, a1] st g Q) := w_putf dX9_init_195 fF_9_77 ⟨rfl, (Or.inr ⟨rfl, rfl⟩)⟩
theorem X9_init_195n : iWp d mX9_init 195 [a0, a1] (.null :: .ref p :: st) h Q = iOb (iPut h p 9 34 (.null)) (fun g => iWp d mX9_init 198 [a0, a1] st g Q) := w_putf dX9_init_195 fF_9_77 ⟨rfl, (Or.inr ⟨rfl, rfl⟩)⟩
theorem X9_init_198 : iWp d mX9_init 198 [.ref p, a1] st h Q = iWp d mX9_init 199 [.ref p, a1] (.ref p :: st) h Q := w_aload_n dX9_init_198 rfl
theorem X9_init_199 : iWp d mX9_init 199 [a0, a1] st h Q = iWp d mX9_init 202 [a0, a1] (.int 1024 :: st) h Q := w_sipush dX9_init_199 rfl
theorem X9_init_202 : iWp d mX9_init 202 [a0, a1] (.int x :: st) h Q = iOb (iNewA h .int x) (fun g => iWp d mX9_init 204 [a0, a1] (.ref h.2.1 :: st) g Q) := w_newa dX9_init_202
theorem X9_init_204 : iWp d mX9_init 204 [a0, a1] (.ref q :: .ref p :: st) h Q = iOb (iPut h p 9 35 (.ref q)) (fun g => iWp d mX9_init 207 [a0, a1] st g Q) := w_putf dX9_init_204 fF_9_80 ⟨rfl, (Or.inr ⟨rfl, rfl⟩)⟩
theorem X9_init_204n : iWp d mX9_init 204 [a0, a1] (.null :: .ref p :: st) h Q = iOb (iPut h p 9 35 (.null)) (fun g => iWp d mX9_init 207 [a0, a1] st g Q) := w_putf dX9_init_204 fF_9_80 ⟨rfl, (Or.inr ⟨rfl, rfl⟩)⟩
theorem X9_init_207 : iWp d mX9_init 207 [.ref p, a1] st h Q = iWp d mX9_init 208 [.ref p, a1] (.ref p :: st) h Q := w_aload_n dX9_init_207 rfl
theorem X9_init_208 : iWp d mX9_init 208 [a0, a1] st h Q = iWp d mX9_init 210 [a0, a1] (.int 80 :: st) h Q := w_bipush dX9_init_208 rfl
theorem X9_init_210 : iWp d mX9_init 210 [a0, a1] (.int x :: st) h Q = iOb (iNewA h .int x) (fun g => iWp d mX9_init 212 [a0, a1] (.ref h.2.1 :: st) g Q) := w_newa dX9_init_210
theorem X9_init_212 : iWp d mX9_init 212 [a0, a1] (.ref q :: .ref p :: st) h Q = iOb (iPut h p 9 37 (.ref q)) (fun g => iWp d mX9_init 215 [a0, a1] st g Q) := w_putf dX9_init_212 fF_9_83 ⟨rfl, (Or.inr ⟨rfl, rfl⟩)⟩
theorem X9_init_212n : iWp d mX9_init 212 [a0, a1] (.null :: .ref p :: st) h Q = iOb (iPut h p 9 37 (.null)) (fun g => iWp d mX9_init 215 [a0, a1] st g Q) := w_putf dX9_init_212 fF_9_83 ⟨rfl, (Or.inr ⟨rfl, rfl⟩)⟩
theorem X9_init_215 : iWp d mX9_init 215 [.ref p, a1] st h Q = iWp d mX9_init 216 [.ref p, a1] (.ref p :: st) h Q := w_aload_n dX9_init_215 rfl
theorem X9_init_216 : iWp d mX9_init 216 [a0, a1] st h Q = iWp d mX9_init 219 [a0, a1] (.int 13440 :: st) h Q := w_sipush dX9_init_216 rfl
theorem X9_init_219 : iWp d mX9_init 219 [a0, a1] (.int x :: st) h Q = iOb (iNewA h .int x) (fun g => iWp d mX9_init 221 [a0, a1] (.ref h.2.1 :: st) g Q) := w_newa dX9_init_219
theorem X9_init_221 : iWp d mX9_init 221 [a0, a1] (.ref q :: .ref p :: st) h Q = iOb (iPut h p 9 38 (.ref q)) (fun g => iWp d mX9_init 224 [a0, a1] st g Q) := w_putf dX9_init_221 fF_9_86 ⟨rfl, (Or.inr ⟨rfl, rfl⟩)⟩
theorem X9_init_221n : iWp d mX9_init 221 [a0, a1] (.null :: .ref p :: st) h Q = iOb (iPut h p 9 38 (.null)) (fun g => iWp d mX9_init 224 [a0, a1] st g Q) := w_putf dX9_init_221 fF_9_86 ⟨rfl, (Or.inr ⟨rfl, rfl⟩)⟩
theorem X9_init_224 : iWp d mX9_init 224 [.ref p, a1] st h Q = iWp d mX9_init 225 [.ref p, a1] (.ref p :: st) h Q := w_aload_n dX9_init_224 rfl
theorem X9_init_225 : iWp d mX9_init 225 [a0, a1] st h Q = iWp d mX9_init 228 [a0, a1] (.int 3840 :: st) h Q := w_sipush dX9_init_225 rfl
theorem X9_init_228 : iWp d mX9_init 228 [a0, a1] (.int x :: st) h Q = iOb (iNewA h .int x) (fun g => iWp d mX9_init 230 [a0, a1] (.ref h.2.1 :: st) g Q) := w_newa dX9_init_228
theorem X9_init_230 : iWp d mX9_init 230 [a0, a1] (.ref q :: .ref p :: st) h Q = iOb (iPut h p 9 39 (.ref q)) (fun g => iWp d mX9_init 233 [a0, a1] st g Q) := w_putf dX9_init_230 fF_9_89 ⟨rfl, (Or.inr ⟨rfl, rfl⟩)⟩
theorem X9_init_230n : iWp d mX9_init 230 [a0, a1] (.null :: .ref p :: st) h Q = iOb (iPut h p 9 39 (.null)) (fun g => iWp d mX9_init 233 [a0, a1] st g Q) := w_putf dX9_init_230 fF_9_89 ⟨rfl, (Or.inr ⟨rfl, rfl⟩)⟩
theorem X9_init_233 : iWp d mX9_init 233 [.ref p, a1] st h Q = iWp d mX9_init 234 [.ref p, a1] (.ref p :: st) h Q := w_aload_n dX9_init_233 rfl
theorem X9_init_234 : iWp d mX9_init 234 [a0, a1] st h Q = iWp d mX9_init 235 [a0, a1] (.int 1 :: st) h Q := w_iconst dX9_init_234 rfl
theorem X9_init_235 : iWp d mX9_init 235 [a0, a1] (.int x :: .ref p :: st) h Q = iOb (iPut h p 9 10 (.int x)) (fun g => iWp d mX9_init 238 [a0, a1] st g Q) := w_putf dX9_init_235 fF_9_92 ⟨rfl, (Or.inl rfl)⟩
theorem X9_init_238 : iWp d mX9_init 238 [.ref p, a1] st h Q = iWp d mX9_init 239 [.ref p, a1] (.ref p :: st) h Q := w_aload_n dX9_init_238 rfl
theorem X9_init_239 : iWp d mX9_init 239 [a0, a1] st h Q = iWp d mX9_init 240 [a0, a1] (.int (-1) :: st) h Q := w_iconst dX9_init_239 rfl
theorem X9_init_240 : iWp d mX9_init 240 [a0, a1] (.int x :: .ref p :: st) h Q = iOb (iPut h p 9 14 (.int x)) (fun g => iWp d mX9_init 243 [a0, a1] st g Q) := w_putf dX9_init_240 fF_9_96 ⟨rfl, (Or.inl rfl)⟩
theorem X9_init_243 : iWp d mX9_init 243 [a0, a1] st h Q = iWp d mX9_init 244 [a0, a1] (.int 0 :: st) h Q := w_iconst dX9_init_243 rfl
theorem X9_init_244 : iWp d mX9_init 244 [a0, a1] (.int x :: st) h Q = iWp d mX9_init 245 [iClr a0, .int x] st h Q := w_istore_n dX9_init_244 (Nat.le_of_ble_eq_true rfl) rfl
theorem X9_init_245 : iWp d mX9_init 245 [a0, .int x] st h Q = iWp d mX9_init 246 [a0, .int x] (.int x :: st) h Q := w_iload_n dX9_init_245 rfl
theorem X9_init_246 : iWp d mX9_init 246 [a0, a1] st h Q = iWp d mX9_init 248 [a0, a1] (.int 8 :: st) h Q := w_bipush dX9_init_246 rfl
theorem X9_init_248 : iWp d mX9_init 248 [a0, a1] (.int y :: .int x :: st) h Q = if y ≤ x then iWp d mX9_init 264 [a0, a1] st h Q else iWp d mX9_init 251 [a0, a1] st h Q := w_icmp_ge dX9_init_248 rfl
theorem X9_init_251 : iWp d mX9_init 251 [.ref p, a1] st h Q = iWp d mX9_init 252 [.ref p, a1] (.ref p :: st) h Q := w_aload_n dX9_init_251 rfl
theorem X9_init_252 : iWp d mX9_init 252 [a0, a1] (.ref p :: st) h Q = iOb (iGet h p 9 11) (fun v => iWp d mX9_init 255 [a0, a1] (v :: st) h Q) := w_getf dX9_init_252 fF_9_31
theorem X9_init_255 : iWp d mX9_init 255 [a0, .int x] st h Q = iWp d mX9_init 256 [a0, .int x] (.int x :: st) h Q := w_iload_n dX9_init_255 rfl
theorem X9_init_256 : iWp d mX9_init 256 [a0, a1] st h Q = iWp d mX9_init 257 [a0, a1] (.int (-1) :: st) h Q := w_iconst dX9_init_256 rfl
theorem X9_init_257 : iWp d mX9_init 257 [a0, a1] (.int y :: .int x :: .ref p :: st) h Q = iOb (iStI h p x y) (fun g => iWp d mX9_init 258 [a0, a1] st g Q) := w_iastore dX9_init_257
theorem X9_init_258 : iWp d mX9_init 258 [a0, .int x] st h Q = iWp d mX9_init 261 [iClr a0, .int (x + 1)] st h Q := w_iinc dX9_init_258 rfl (Nat.le_of_ble_eq_true rfl) rfl
theorem X9_init_261 : iWp d mX9_init 261 [a0, a1] st h Q = iWp d mX9_init 245 [a0, a1] st h Q := w_goto dX9_init_261 rfl
theorem X9_init_264 : iWp d mX9_init 264 [a0, a1] [] h Q = Q none h := w_ret dX9_init_264 rfl
theorem I9_init {Q : Option Value → iHp → Prop} (hw : iWp 1 mX9_init 0 [.ref p, iU] [] h Q) : ∃ r h1, iEv mX9_init [.ref p] h r h1 ∧ Q r h1 := iEv_of (by rfl) rfl hw
theorem J9_init {r : Option Value} {h1 : iHp} (hw : iWp 1 mX9_init 0 [.ref p, iU] [] h (fun r' h' => r' = r ∧ h' = h1)) : iEv mX9_init [.ref p] h r h1 := iEv_ev (by rfl) rfl hw
theorem X9_invert_0 : iWp d mX9_invert 0 [.ref p, a1, a2] st h Q = iWp d mX9_invert 1 [.ref p, a1, a2] (.ref p :: st) h Q := w_aload_n dX9_invert_0 rfl
theorem X9_invert_1 : iWp d mX9_invert 1 [a0, .int x, a2] st h Q = iWp d mX9_invert 2 [a0, .int x, a2] (.int x :: st) h Q := w_iload_n dX9_invert_1 rfl
theorem X9_invert_2 (he : iEv mX9_isPatch [.ref p, .int x0] h (some (.int rv)) h2) (ho : iObj h p 9 = true) : iWp 3 mX9_invert 2 [a0, a1, a2] [.int x0, .ref p] h Q = iWp 3 mX9_invert 5 [a0, a1, a2] [.int rv] h2 Q := iWp_cV dX9_invert_2 fK_9_120 rfl rfl ho (Nat.le_of_ble_eq_true rfl) (Nat.le_of_ble_eq_true rfl) rfl (Nat.le_of_ble_eq_true rfl) he rfl
theorem X9_invert_5 : iWp d mX9_invert 5 [a0, a1, a2] (.int x :: st) h Q = if x = 0 then iWp d mX9_invert 8 [a0, a1, a2] st h Q else iWp d mX9_invert 14 [a0, a1, a2] st h Q := w_ifc_ne dX9_invert_5 rfl
theorem X9_invert_8 : iWp d mX9_invert 8 [.ref p, a1, a2] st h Q = iWp d mX9_invert 9 [.ref p, a1, a2] (.ref p :: st) h Q := w_aload_n dX9_invert_8 rfl
theorem X9_invert_9 : iWp d mX9_invert 9 [a0, a1, a2] st h Q = iWp d mX9_invert 10 [a0, a1, a2] (.int (-1) :: st) h Q := w_iconst dX9_invert_9 rfl
theorem X9_invert_10 (he : iEv mX9_no [.ref p, .int x0] h (some (.int rv)) h2) (ho : iObj h p 9 = true) : iWp 3 mX9_invert 10 [a0, a1, a2] [.int x0, .ref p] h Q = iWp 3 mX9_invert 13 [a0, a1, a2] [.int rv] h2 Q := iWp_cV dX9_invert_10 fK_9_99 rfl rfl ho (Nat.le_of_ble_eq_true rfl) (Nat.le_of_ble_eq_true rfl) rfl (Nat.le_of_ble_eq_true rfl) he rfl
theorem X9_invert_13 : iWp d mX9_invert 13 [a0, a1, a2] [.int x] h Q = Q (some (.int x)) h := w_ireti dX9_invert_13 rfl
theorem X9_invert_14 : iWp d mX9_invert 14 [.ref p, a1, a2] st h Q = iWp d mX9_invert 15 [.ref p, a1, a2] (.ref p :: st) h Q := w_aload_n dX9_invert_14 rfl
theorem X9_invert_15 : iWp d mX9_invert 15 [a0, a1, a2] st h Q = iWp d mX9_invert 16 [a0, a1, a2] (.int 0 :: st) h Q := w_iconst dX9_invert_15 rfl
theorem X9_invert_16 : iWp d mX9_invert 16 [a0, a1, a2] (.int x :: .ref p :: st) h Q = iOb (iPut h p 9 25 (.int x)) (fun g => iWp d mX9_invert 19 [a0, a1, a2] st g Q) := w_putf dX9_invert_16 fF_9_200 ⟨rfl, (Or.inl rfl)⟩
theorem X9_invert_19 : iWp d mX9_invert 19 [.ref p, a1, a2] st h Q = iWp d mX9_invert 20 [.ref p, a1, a2] (.ref p :: st) h Q := w_aload_n dX9_invert_19 rfl
theorem X9_invert_20 : iWp d mX9_invert 20 [a0, a1, a2] st h Q = iWp d mX9_invert 21 [a0, a1, a2] (.int 0 :: st) h Q := w_iconst dX9_invert_20 rfl
theorem X9_invert_21 : iWp d mX9_invert 21 [a0, .int x, a2] st h Q = iWp d mX9_invert 22 [a0, .int x, a2] (.int x :: st) h Q := w_iload_n dX9_invert_21 rfl
theorem X9_invert_22 (he : iEv mX9_of [.ref p, .int x0, .int x1] h (some (.int rv)) h2) (ho : iObj h p 9 = true) : iWp 3 mX9_invert 22 [a0, a1, a2] [.int x1, .int x0, .ref p] h Q = iWp 3 mX9_invert 25 [a0, a1, a2] [.int rv] h2 Q := iWp_cV dX9_invert_22 fK_9_123 rfl rfl ho (Nat.le_of_ble_eq_true rfl) (Nat.le_of_ble_eq_true rfl) rfl (Nat.le_of_ble_eq_true rfl) he rfl
theorem X9_invert_25 : iWp d mX9_invert 25 [a0, a1, a2] st h Q = iWp d mX9_invert 26 [a0, a1, a2] (.int 1 :: st) h Q := w_iconst dX9_invert_25 rfl
theorem X9_invert_26 : iWp d mX9_invert 26 [a0, a1, a2] (.int y :: .int x :: st) h Q = iWp d mX9_invert 27 [a0, a1, a2] (.int (x - y) :: st) h Q := w_isub dX9_invert_26
theorem X9_invert_27 : iWp d mX9_invert 27 [a0, a1, a2] (.int x :: st) h Q = iWp d mX9_invert 28 [a0, iClr a1, .int x] st h Q := w_istore_n dX9_invert_27 (Nat.le_of_ble_eq_true rfl) rfl
theorem X9_invert_28 : iWp d mX9_invert 28 [a0, a1, .int x] st h Q = iWp d mX9_invert 29 [a0, a1, .int x] (.int x :: st) h Q := w_iload_n dX9_invert_28 rfl
theorem X9_invert_29 : iWp d mX9_invert 29 [a0, a1, a2] (.int x :: st) h Q = if x < 0 then iWp d mX9_invert 56 [a0, a1, a2] st h Q else iWp d mX9_invert 32 [a0, a1, a2] st h Q := w_ifc_lt dX9_invert_29 rfl
theorem X9_invert_32 : iWp d mX9_invert 32 [.ref p, a1, a2] st h Q = iWp d mX9_invert 33 [.ref p, a1, a2] (.ref p :: st) h Q := w_aload_n dX9_invert_32 rfl
theorem X9_invert_33 : iWp d mX9_invert 33 [.ref p, a1, a2] st h Q = iWp d mX9_invert 34 [.ref p, a1, a2] (.ref p :: st) h Q := w_aload_n dX9_invert_33 rfl
theorem X9_invert_34 : iWp d mX9_invert 34 [a0, a1, a2] (.ref p :: st) h Q = iOb (iGet h p 9 8) (fun v => iWp d mX9_invert 37 [a0, a1, a2] (v :: st) h Q) := w_getf dX9_invert_34 fF_9_25
theorem X9_invert_37 : iWp d mX9_invert 37 [a0, a1, a2] st h Q = iWp d mX9_invert 40 [a0, a1, a2] (.int 840 :: st) h Q := w_sipush dX9_invert_37 rfl
theorem X9_invert_40 : iWp d mX9_invert 40 [a0, .int x, a2] st h Q = iWp d mX9_invert 41 [a0, .int x, a2] (.int x :: st) h Q := w_iload_n dX9_invert_40 rfl
theorem X9_invert_41 : iWp d mX9_invert 41 [a0, a1, a2] (.int y :: .int x :: st) h Q = iWp d mX9_invert 42 [a0, a1, a2] (.int (x * y) :: st) h Q := w_imul dX9_invert_41
theorem X9_invert_42 : iWp d mX9_invert 42 [a0, a1, a2] st h Q = iWp d mX9_invert 44 [a0, a1, a2] (.int 7 :: st) h Q := w_bipush dX9_invert_42 rfl
theorem X9_invert_44 : iWp d mX9_invert 44 [a0, a1, .int x] st h Q = iWp d mX9_invert 45 [a0, a1, .int x] (.int x :: st) h Q := w_iload_n dX9_invert_44 rfl
theorem X9_invert_45 : iWp d mX9_invert 45 [a0, a1, a2] (.int y :: .int x :: st) h Q = iWp d mX9_invert 46 [a0, a1, a2] (.int (x * y) :: st) h Q := w_imul dX9_invert_45
theorem X9_invert_46 : iWp d mX9_invert 46 [a0, a1, a2] (.int y :: .int x :: st) h Q = iWp d mX9_invert 47 [a0, a1, a2] (.int (x + y) :: st) h Q := w_iadd dX9_invert_46
theorem X9_invert_47 (he : iEv mX9_turns [.ref p, b0, .int x1] h none h2) (ho : iObj h p 9 = true) (c0 : b0.category = 1) : iWp 3 mX9_invert 47 [a0, a1, a2] [.int x1, b0, .ref p] h Q = iWp 3 mX9_invert 50 [a0, a1, a2] [] h2 Q := iWp_cV dX9_invert_47 fK_9_260 rfl rfl ho (Nat.le_of_ble_eq_true rfl) (Nat.le_of_ble_eq_true rfl) (by simp [iInit, cat_i, cat_r, cat_l, mX9_turns, c0]) (Nat.le_of_ble_eq_true rfl) he rfl
theorem X9_invert_50 : iWp d mX9_invert 50 [a0, a1, .int x] st h Q = iWp d mX9_invert 53 [a0, iClr a1, .int (x + (-1))] st h Q := w_iinc dX9_invert_50 rfl (Nat.le_of_ble_eq_true rfl) rfl
theorem X9_invert_53 : iWp d mX9_invert 53 [a0, a1, a2] st h Q = iWp d mX9_invert 28 [a0, a1, a2] st h Q := w_goto dX9_invert_53 rfl
theorem X9_invert_56 : iWp d mX9_invert 56 [.ref p, a1, a2] st h Q = iWp d mX9_invert 57 [.ref p, a1, a2] (.ref p :: st) h Q := w_aload_n dX9_invert_56 rfl
theorem X9_invert_57 : iWp d mX9_invert 57 [a0, a1, a2] st h Q = iWp d mX9_invert 58 [a0, a1, a2] (.int 2 :: st) h Q := w_iconst dX9_invert_57 rfl
theorem X9_invert_58 : iWp d mX9_invert 58 [a0, .int x, a2] st h Q = iWp d mX9_invert 59 [a0, .int x, a2] (.int x :: st) h Q := w_iload_n dX9_invert_58 rfl
theorem X9_invert_59 (he : iEv mX9_newPatch [.ref p, .int x0, .int x1] h (some (.int rv)) h2) (ho : iObj h p 9 = true) : iWp 3 mX9_invert 59 [a0, a1, a2] [.int x1, .int x0, .ref p] h Q = iWp 3 mX9_invert 62 [a0, a1, a2] [.int rv] h2 Q := iWp_cV dX9_invert_59 fK_9_251 rfl rfl ho (Nat.le_of_ble_eq_true rfl) (Nat.le_of_ble_eq_true rfl) rfl (Nat.le_of_ble_eq_true rfl) he rfl
theorem X9_invert_62 : iWp d mX9_invert 62 [a0, a1, a2] [.int x] h Q = Q (some (.int x)) h := w_ireti dX9_invert_62 rfl
theorem I9_invert {Q : Option Value → iHp → Prop} (hw : iWp 3 mX9_invert 0 [.ref p, .int x0, iU] [] h Q) : ∃ r h1, iEv mX9_invert [.ref p, .int x0] h r h1 ∧ Q r h1 := iEv_of (by rfl) rfl hw
theorem J9_invert {r : Option Value} {h1 : iHp} (hw : iWp 3 mX9_invert 0 [.ref p, .int x0, iU] [] h (fun r' h' => r' = r ∧ h' = h1)) : iEv mX9_invert [.ref p, .int x0] h r h1 := iEv_ev (by rfl) rfl hw
theorem X9_is_0 : iWp d mX9_is 0 [.ref p, a1] st h Q = iWp d mX9_is 1 [.ref p, a1] (.ref p :: st) h Q := w_aload_n dX9_is_0 rfl
theorem X9_is_1 (he : iEv mX9_sign [.ref p] h (some (.int rv)) h2) (ho : iObj h p 9 = true) : iWp 2 mX9_is 1 [a0, a1] [.ref p] h Q = iWp 2 mX9_is 4 [a0, a1] [.int rv] h2 Q := iWp_cV dX9_is_1 fK_9_145 rfl rfl ho (Nat.le_of_ble_eq_true rfl) (Nat.le_of_ble_eq_true rfl) rfl (Nat.le_of_ble_eq_true rfl) he rfl
theorem X9_is_4 : iWp d mX9_is 4 [a0, .int x] st h Q = iWp d mX9_is 5 [a0, .int x] (.int x :: st) h Q := w_iload_n dX9_is_4 rfl
theorem X9_is_5 : iWp d mX9_is 5 [a0, a1] (.int y :: .int x :: st) h Q = if x = y then iWp d mX9_is 10 [a0, a1] st h Q else iWp d mX9_is 8 [a0, a1] st h Q := w_icmp_eq dX9_is_5 rfl
theorem X9_is_8 : iWp d mX9_is 8 [a0, a1] st h Q = iWp d mX9_is 9 [a0, a1] (.int 0 :: st) h Q := w_iconst dX9_is_8 rfl
theorem X9_is_9 : iWp d mX9_is 9 [a0, a1] [.int (iB b)] h Q = Q (some (.int (iB b))) h := w_iretb dX9_is_9 rfl
theorem X9_is_9z : iWp d mX9_is 9 [a0, a1] [.int 0] h Q = Q (some (.int (iB false))) h := w_iretb (bb := false) dX9_is_9 rfl
theorem X9_is_9o : iWp d mX9_is 9 [a0, a1] [.int 1] h Q = Q (some (.int (iB true))) h := w_iretb (bb := true) dX9_is_9 rfl
theorem X9_is_10 : iWp d mX9_is 10 [.ref p, a1] st h Q = iWp d mX9_is 11 [.ref p, a1] (.ref p :: st) h Q := w_aload_n dX9_is_10 rfl
theorem X9_is_11 : iWp d mX9_is 11 [a0, a1] (.ref p :: st) h Q = iWp d mX9_is 12 [a0, a1] (.ref p :: .ref p :: st) h Q := w_dup dX9_is_11 rfl
theorem X9_is_12 : iWp d mX9_is 12 [a0, a1] (.ref p :: st) h Q = iOb (iGet h p 9 16) (fun v => iWp d mX9_is 15 [a0, a1] (v :: st) h Q) := w_getf dX9_is_12 fF_9_139
theorem X9_is_15 : iWp d mX9_is 15 [a0, a1] st h Q = iWp d mX9_is 16 [a0, a1] (.int 1 :: st) h Q := w_iconst dX9_is_15 rfl
theorem X9_is_16 : iWp d mX9_is 16 [a0, a1] (.int y :: .int x :: st) h Q = iWp d mX9_is 17 [a0, a1] (.int (x + y) :: st) h Q := w_iadd dX9_is_16
theorem X9_is_17 : iWp d mX9_is 17 [a0, a1] (.int x :: .ref p :: st) h Q = iOb (iPut h p 9 16 (.int x)) (fun g => iWp d mX9_is 20 [a0, a1] st g Q) := w_putf dX9_is_17 fF_9_139 ⟨rfl, (Or.inl rfl)⟩
theorem X9_is_20 : iWp d mX9_is 20 [a0, a1] st h Q = iWp d mX9_is 21 [a0, a1] (.int 1 :: st) h Q := w_iconst dX9_is_20 rfl
theorem X9_is_21 : iWp d mX9_is 21 [a0, a1] [.int (iB b)] h Q = Q (some (.int (iB b))) h := w_iretb dX9_is_21 rfl
theorem X9_is_21z : iWp d mX9_is 21 [a0, a1] [.int 0] h Q = Q (some (.int (iB false))) h := w_iretb (bb := false) dX9_is_21 rfl
theorem X9_is_21o : iWp d mX9_is 21 [a0, a1] [.int 1] h Q = Q (some (.int (iB true))) h := w_iretb (bb := true) dX9_is_21 rfl
theorem I9_is {Q : Option Value → iHp → Prop} (hw : iWp 2 mX9_is 0 [.ref p, .int x0] [] h Q) : ∃ r h1, iEv mX9_is [.ref p, .int x0] h r h1 ∧ Q r h1 := iEv_of (by rfl) rfl hw
theorem J9_is {r : Option Value} {h1 : iHp} (hw : iWp 2 mX9_is 0 [.ref p, .int x0] [] h (fun r' h' => r' = r ∧ h' = h1)) : iEv mX9_is [.ref p, .int x0] h r h1 := iEv_ev (by rfl) rfl hw
theorem X9_isBelow_0 : iWp d mX9_isBelow 0 [a0, .int x, a2] st h Q = iWp d mX9_isBelow 1 [a0, .int x, a2] (.int x :: st) h Q := w_iload_n dX9_isBelow_0 rfl
theorem X9_isBelow_1 : iWp d mX9_isBelow 1 [a0, a1, .int x] st h Q = iWp d mX9_isBelow 2 [a0, a1, .int x] (.int x :: st) h Q := w_iload_n dX9_isBelow_1 rfl
theorem X9_isBelow_2 : iWp d mX9_isBelow 2 [a0, a1, a2] (.int y :: .int x :: st) h Q = if x < y then iWp d mX9_isBelow 18 [a0, a1, a2] st h Q else iWp d mX9_isBelow 5 [a0, a1, a2] st h Q := w_icmp_lt dX9_isBelow_2 rfl
theorem X9_isBelow_5 : iWp d mX9_isBelow 5 [a0, .int x, a2] st h Q = iWp d mX9_isBelow 6 [a0, .int x, a2] (.int x :: st) h Q := w_iload_n dX9_isBelow_5 rfl
theorem X9_isBelow_6 : iWp d mX9_isBelow 6 [.ref p, a1, a2] st h Q = iWp d mX9_isBelow 7 [.ref p, a1, a2] (.ref p :: st) h Q := w_aload_n dX9_isBelow_6 rfl
theorem X9_isBelow_7 : iWp d mX9_isBelow 7 [a0, a1, .int x] st h Q = iWp d mX9_isBelow 8 [a0, a1, .int x] (.int x :: st) h Q := w_iload_n dX9_isBelow_7 rfl
theorem X9_isBelow_8 (he : iEv mX9_end [.ref p, .int x0] h (some (.int rv)) h2) (ho : iObj h p 9 = true) : iWp 2 mX9_isBelow 8 [a0, a1, a2] [.int x0, .ref p, .int r0] h Q = iWp 2 mX9_isBelow 11 [a0, a1, a2] [.int rv, .int r0] h2 Q := iWp_cV dX9_isBelow_8 fK_9_133 rfl rfl ho (Nat.le_of_ble_eq_true rfl) (Nat.le_of_ble_eq_true rfl) rfl (Nat.le_of_ble_eq_true rfl) he rfl
theorem X9_isBelow_11 : iWp d mX9_isBelow 11 [a0, a1, a2] (.int y :: .int x :: st) h Q = if y ≤ x then iWp d mX9_isBelow 18 [a0, a1, a2] st h Q else iWp d mX9_isBelow 14 [a0, a1, a2] st h Q := w_icmp_ge dX9_isBelow_11 rfl
theorem X9_isBelow_14 : iWp d mX9_isBelow 14 [a0, a1, a2] st h Q = iWp d mX9_isBelow 15 [a0, a1, a2] (.int 1 :: st) h Q := w_iconst dX9_isBelow_14 rfl
theorem X9_isBelow_15 : iWp d mX9_isBelow 15 [a0, a1, a2] st h Q = iWp d mX9_isBelow 19 [a0, a1, a2] st h Q := w_goto dX9_isBelow_15 rfl
theorem X9_isBelow_18 : iWp d mX9_isBelow 18 [a0, a1, a2] st h Q = iWp d mX9_isBelow 19 [a0, a1, a2] (.int 0 :: st) h Q := w_iconst dX9_isBelow_18 rfl
theorem X9_isBelow_19 : iWp d mX9_isBelow 19 [a0, a1, a2] [.int (iB b)] h Q = Q (some (.int (iB b))) h := w_iretb dX9_isBelow_19 rfl
theorem X9_isBelow_19z : iWp d mX9_isBelow 19 [a0, a1, a2] [.int 0] h Q = Q (some (.int (iB false))) h := w_iretb (bb := false) dX9_isBelow_19 rfl
theorem X9_isBelow_19o : iWp d mX9_isBelow 19 [a0, a1, a2] [.int 1] h Q = Q (some (.int (iB true))) h := w_iretb (bb := true) dX9_isBelow_19 rfl
theorem I9_isBelow {Q : Option Value → iHp → Prop} (hw : iWp 2 mX9_isBelow 0 [.ref p, .int x0, .int x1] [] h Q) : ∃ r h1, iEv mX9_isBelow [.ref p, .int x0, .int x1] h r h1 ∧ Q r h1 := iEv_of (by rfl) rfl hw
theorem J9_isBelow {r : Option Value} {h1 : iHp} (hw : iWp 2 mX9_isBelow 0 [.ref p, .int x0, .int x1] [] h (fun r' h' => r' = r ∧ h' = h1)) : iEv mX9_isBelow [.ref p, .int x0, .int x1] h r h1 := iEv_ev (by rfl) rfl hw
theorem X9_isDigit_0 : iWp d mX9_isDigit 0 [.ref p] st h Q = iWp d mX9_isDigit 1 [.ref p] (.ref p :: st) h Q := w_aload_n dX9_isDigit_0 rfl
theorem X9_isDigit_1 (he : iEv mX9_sign [.ref p] h (some (.int rv)) h2) (ho : iObj h p 9 = true) : iWp 2 mX9_isDigit 1 [a0] [.ref p] h Q = iWp 2 mX9_isDigit 4 [a0] [.int rv] h2 Q := iWp_cV dX9_isDigit_1 fK_9_145 rfl rfl ho (Nat.le_of_ble_eq_true rfl) (Nat.le_of_ble_eq_true rfl) rfl (Nat.le_of_ble_eq_true rfl) he rfl
theorem X9_isDigit_4 : iWp d mX9_isDigit 4 [a0] st h Q = iWp d mX9_isDigit 6 [a0] (.int 48 :: st) h Q := w_bipush dX9_isDigit_4 rfl
theorem X9_isDigit_6 : iWp d mX9_isDigit 6 [a0] st h Q = iWp d mX9_isDigit 8 [a0] (.int 57 :: st) h Q := w_bipush dX9_isDigit_6 rfl
theorem X9_isDigit_8 (he : iEv mX9_within [.int x0, .int x1, .int x2] h (some (.int rv)) h2) : iWp 2 mX9_isDigit 8 [a0] [.int x2, .int x1, .int x0] h Q = iWp 2 mX9_isDigit 11 [a0] [.int rv] h2 Q := iWp_cS dX9_isDigit_8 fK_9_106 rfl rfl (Nat.le_of_ble_eq_true rfl) (Nat.le_of_ble_eq_true rfl) rfl (Nat.le_of_ble_eq_true rfl) he rfl
theorem X9_isDigit_11 : iWp d mX9_isDigit 11 [a0] [.int (iB b)] h Q = Q (some (.int (iB b))) h := w_iretb dX9_isDigit_11 rfl
theorem X9_isDigit_11z : iWp d mX9_isDigit 11 [a0] [.int 0] h Q = Q (some (.int (iB false))) h := w_iretb (bb := false) dX9_isDigit_11 rfl
theorem X9_isDigit_11o : iWp d mX9_isDigit 11 [a0] [.int 1] h Q = Q (some (.int (iB true))) h := w_iretb (bb := true) dX9_isDigit_11 rfl
theorem I9_isDigit {Q : Option Value → iHp → Prop} (hw : iWp 2 mX9_isDigit 0 [.ref p] [] h Q) : ∃ r h1, iEv mX9_isDigit [.ref p] h r h1 ∧ Q r h1 := iEv_of (by rfl) rfl hw
theorem J9_isDigit {r : Option Value} {h1 : iHp} (hw : iWp 2 mX9_isDigit 0 [.ref p] [] h (fun r' h' => r' = r ∧ h' = h1)) : iEv mX9_isDigit [.ref p] h r h1 := iEv_ev (by rfl) rfl hw
theorem X9_isPatch_0 : iWp d mX9_isPatch 0 [a0, .int x] st h Q = iWp d mX9_isPatch 1 [a0, .int x] (.int x :: st) h Q := w_iload_n dX9_isPatch_0 rfl
theorem X9_isPatch_1 : iWp d mX9_isPatch 1 [a0, a1] st h Q = iWp d mX9_isPatch 2 [a0, a1] (.int 0 :: st) h Q := w_iconst dX9_isPatch_1 rfl
theorem X9_isPatch_2 : iWp d mX9_isPatch 2 [.ref p, a1] st h Q = iWp d mX9_isPatch 3 [.ref p, a1] (.ref p :: st) h Q := w_aload_n dX9_isPatch_2 rfl
theorem X9_isPatch_3 : iWp d mX9_isPatch 3 [a0, a1] (.ref p :: st) h Q = iOb (iGet h p 9 5) (fun v => iWp d mX9_isPatch 6 [a0, a1] (v :: st) h Q) := w_getf dX9_isPatch_3 fF_9_110
theorem X9_isPatch_6 : iWp d mX9_isPatch 6 [a0, a1] st h Q = iWp d mX9_isPatch 7 [a0, a1] (.int 1 :: st) h Q := w_iconst dX9_isPatch_6 rfl
theorem X9_isPatch_7 : iWp d mX9_isPatch 7 [a0, a1] (.int y :: .int x :: st) h Q = iWp d mX9_isPatch 8 [a0, a1] (.int (x - y) :: st) h Q := w_isub dX9_isPatch_7
theorem X9_isPatch_8 (he : iEv mX9_within [.int x0, .int x1, .int x2] h (some (.int rv)) h2) : iWp 2 mX9_isPatch 8 [a0, a1] [.int x2, .int x1, .int x0] h Q = iWp 2 mX9_isPatch 11 [a0, a1] [.int rv] h2 Q := iWp_cS dX9_isPatch_8 fK_9_106 rfl rfl (Nat.le_of_ble_eq_true rfl) (Nat.le_of_ble_eq_true rfl) rfl (Nat.le_of_ble_eq_true rfl) he rfl
theorem X9_isPatch_11 : iWp d mX9_isPatch 11 [a0, a1] [.int (iB b)] h Q = Q (some (.int (iB b))) h := w_iretb dX9_isPatch_11 rfl
theorem X9_isPatch_11z : iWp d mX9_isPatch 11 [a0, a1] [.int 0] h Q = Q (some (.int (iB false))) h := w_iretb (bb := false) dX9_isPatch_11 rfl
theorem X9_isPatch_11o : iWp d mX9_isPatch 11 [a0, a1] [.int 1] h Q = Q (some (.int (iB true))) h := w_iretb (bb := true) dX9_isPatch_11 rfl
theorem I9_isPatch {Q : Option Value → iHp → Prop} (hw : iWp 2 mX9_isPatch 0 [.ref p, .int x0] [] h Q) : ∃ r h1, iEv mX9_isPatch [.ref p, .int x0] h r h1 ∧ Q r h1 := iEv_of (by rfl) rfl hw
theorem J9_isPatch {r : Option Value} {h1 : iHp} (hw : iWp 2 mX9_isPatch 0 [.ref p, .int x0] [] h (fun r' h' => r' = r ∧ h' = h1)) : iEv mX9_isPatch [.ref p, .int x0] h r h1 := iEv_ev (by rfl) rfl hw
theorem X9_isRow_0 : iWp d mX9_isRow 0 [.ref p, a1] st h Q = iWp d mX9_isRow 1 [.ref p, a1] (.ref p :: st) h Q := w_aload_n dX9_isRow_0 rfl
theorem X9_isRow_1 : iWp d mX9_isRow 1 [a0, a1] (.ref p :: st) h Q = iOb (iGet h p 9 11) (fun v => iWp d mX9_isRow 4 [a0, a1] (v :: st) h Q) := w_getf dX9_isRow_1 fF_9_31
theorem X9_isRow_4 : iWp d mX9_isRow 4 [a0, .int x] st h Q = iWp d mX9_isRow 5 [a0, .int x] (.int x :: st) h Q := w_iload_n dX9_isRow_4 rfl
theorem X9_isRow_5 : iWp d mX9_isRow 5 [a0, a1] (.int x :: .ref p :: st) h Q = iOb (iLdI h p x) (fun v => iWp d mX9_isRow 6 [a0, a1] (.int v :: st) h Q) := w_iaload dX9_isRow_5
theorem X9_isRow_6 : iWp d mX9_isRow 6 [a0, a1] st h Q = iWp d mX9_isRow 8 [a0, a1] (.int 100 :: st) h Q := w_bipush dX9_isRow_6 rfl
theorem X9_isRow_8 : iWp d mX9_isRow 8 [a0, a1] (.int y :: .int x :: st) h Q = if x < y then iWp d mX9_isRow 15 [a0, a1] st h Q else iWp d mX9_isRow 11 [a0, a1] st h Q := w_icmp_lt dX9_isRow_8 rfl
theorem X9_isRow_11 : iWp d mX9_isRow 11 [a0, a1] st h Q = iWp d mX9_isRow 12 [a0, a1] (.int 1 :: st) h Q := w_iconst dX9_isRow_11 rfl
theorem X9_isRow_12 : iWp d mX9_isRow 12 [a0, a1] st h Q = iWp d mX9_isRow 16 [a0, a1] st h Q := w_goto dX9_isRow_12 rfl
theorem X9_isRow_15 : iWp d mX9_isRow 15 [a0, a1] st h Q = iWp d mX9_isRow 16 [a0, a1] (.int 0 :: st) h Q := w_iconst dX9_isRow_15 rfl
theorem X9_isRow_16 : iWp d mX9_isRow 16 [a0, a1] [.int (iB b)] h Q = Q (some (.int (iB b))) h := w_iretb dX9_isRow_16 rfl
theorem X9_isRow_16z : iWp d mX9_isRow 16 [a0, a1] [.int 0] h Q = Q (some (.int (iB false))) h := w_iretb (bb := false) dX9_isRow_16 rfl
theorem X9_isRow_16o : iWp d mX9_isRow 16 [a0, a1] [.int 1] h Q = Q (some (.int (iB true))) h := w_iretb (bb := true) dX9_isRow_16 rfl
theorem I9_isRow {Q : Option Value → iHp → Prop} (hw : iWp 1 mX9_isRow 0 [.ref p, .int x0] [] h Q) : ∃ r h1, iEv mX9_isRow [.ref p, .int x0] h r h1 ∧ Q r h1 := iEv_of (by rfl) rfl hw
theorem J9_isRow {r : Option Value} {h1 : iHp} (hw : iWp 1 mX9_isRow 0 [.ref p, .int x0] [] h (fun r' h' => r' = r ∧ h' = h1)) : iEv mX9_isRow [.ref p, .int x0] h r h1 := iEv_ev (by rfl) rfl hw
theorem X9_isTree_0 : iWp d mX9_isTree 0 [a0, .int x] st h Q = iWp d mX9_isTree 1 [a0, .int x] (.int x :: st) h Q := w_iload_n dX9_isTree_0 rfl
theorem X9_isTree_1 : iWp d mX9_isTree 1 [a0, a1] st h Q = iWp d mX9_isTree 2 [a0, a1] (.int 0 :: st) h Q := w_iconst dX9_isTree_1 rfl
theorem X9_isTree_2 : iWp d mX9_isTree 2 [.ref p, a1] st h Q = iWp d mX9_isTree 3 [.ref p, a1] (.ref p :: st) h Q := w_aload_n dX9_isTree_2 rfl
theorem X9_isTree_3 : iWp d mX9_isTree 3 [a0, a1] (.ref p :: st) h Q = iOb (iGet h p 9 0) (fun v => iWp d mX9_isTree 6 [a0, a1] (v :: st) h Q) := w_getf dX9_isTree_3 fF_9_103
theorem X9_isTree_6 : iWp d mX9_isTree 6 [a0, a1] st h Q = iWp d mX9_isTree 7 [a0, a1] (.int 1 :: st) h Q := w_iconst dX9_isTree_6 rfl
theorem X9_isTree_7 : iWp d mX9_isTree 7 [a0, a1] (.int y :: .int x :: st) h Q = iWp d mX9_isTree 8 [a0, a1] (.int (x - y) :: st) h Q := w_isub dX9_isTree_7
theorem X9_isTree_8 (he : iEv mX9_within [.int x0, .int x1, .int x2] h (some (.int rv)) h2) : iWp 2 mX9_isTree 8 [a0, a1] [.int x2, .int x1, .int x0] h Q = iWp 2 mX9_isTree 11 [a0, a1] [.int rv] h2 Q := iWp_cS dX9_isTree_8 fK_9_106 rfl rfl (Nat.le_of_ble_eq_true rfl) (Nat.le_of_ble_eq_true rfl) rfl (Nat.le_of_ble_eq_true rfl) he rfl
theorem X9_isTree_11 : iWp d mX9_isTree 11 [a0, a1] [.int (iB b)] h Q = Q (some (.int (iB b))) h := w_iretb dX9_isTree_11 rfl
theorem X9_isTree_11z : iWp d mX9_isTree 11 [a0, a1] [.int 0] h Q = Q (some (.int (iB false))) h := w_iretb (bb := false) dX9_isTree_11 rfl
theorem X9_isTree_11o : iWp d mX9_isTree 11 [a0, a1] [.int 1] h Q = Q (some (.int (iB true))) h := w_iretb (bb := true) dX9_isTree_11 rfl
theorem I9_isTree {Q : Option Value → iHp → Prop} (hw : iWp 2 mX9_isTree 0 [.ref p, .int x0] [] h Q) : ∃ r h1, iEv mX9_isTree [.ref p, .int x0] h r h1 ∧ Q r h1 := iEv_of (by rfl) rfl hw
theorem J9_isTree {r : Option Value} {h1 : iHp} (hw : iWp 2 mX9_isTree 0 [.ref p, .int x0] [] h (fun r' h' => r' = r ∧ h' = h1)) : iEv mX9_isTree [.ref p, .int x0] h r h1 := iEv_ev (by rfl) rfl hw
theorem X9_isUnlike_0 : iWp d mX9_isUnlike 0 [.ref p, a1, a2] st h Q = iWp d mX9_isUnlike 1 [.ref p, a1, a2] (.ref p :: st) h Q := w_aload_n dX9_isUnlike_0 rfl
theorem X9_isUnlike_1 : iWp d mX9_isUnlike 1 [a0, .int x, a2] st h Q = iWp d mX9_isUnlike 2 [a0, .int x, a2] (.int x :: st) h Q := w_iload_n dX9_isUnlike_1 rfl
theorem X9_isUnlike_2 : iWp d mX9_isUnlike 2 [a0, a1, a2] st h Q = iWp d mX9_isUnlike 3 [a0, a1, a2] (.int 0 :: st) h Q := w_iconst dX9_isUnlike_2 rfl
theorem X9_isUnlike_3 (he : iEv mX9_keyOf [.ref p, .int x0, .int x1] h (some (.int rv)) h2) (ho : iObj h p 9 = true) : iWp 2 mX9_isUnlike 3 [a0, a1, a2] [.int x1, .int x0, .ref p] h Q = iWp 2 mX9_isUnlike 6 [a0, a1, a2] [.int rv] h2 Q := iWp_cV dX9_isUnlike_3 fK_9_211 rfl rfl ho (Nat.le_of_ble_eq_true rfl) (Nat.le_of_ble_eq_true rfl) rfl (Nat.le_of_ble_eq_true rfl) he rfl
theorem X9_isUnlike_6 : iWp d mX9_isUnlike 6 [.ref p, a1, a2] st h Q = iWp d mX9_isUnlike 7 [.ref p, a1, a2] (.ref p :: st) h Q := w_aload_n dX9_isUnlike_6 rfl
theorem X9_isUnlike_7 : iWp d mX9_isUnlike 7 [a0, a1, .int x] st h Q = iWp d mX9_isUnlike 8 [a0, a1, .int x] (.int x :: st) h Q := w_iload_n dX9_isUnlike_7 rfl
theorem X9_isUnlike_8 : iWp d mX9_isUnlike 8 [a0, a1, a2] st h Q = iWp d mX9_isUnlike 9 [a0, a1, a2] (.int 0 :: st) h Q := w_iconst dX9_isUnlike_8 rfl
theorem X9_isUnlike_9 (he : iEv mX9_keyOf [.ref p, .int x0, .int x1] h (some (.int rv)) h2) (ho : iObj h p 9 = true) : iWp 2 mX9_isUnlike 9 [a0, a1, a2] [.int x1, .int x0, .ref p, .int r0] h Q = iWp 2 mX9_isUnlike 12 [a0, a1, a2] [.int rv, .int r0] h2 Q := iWp_cV dX9_isUnlike_9 fK_9_211 rfl rfl ho (Nat.le_of_ble_eq_true rfl) (Nat.le_of_ble_eq_true rfl) rfl (Nat.le_of_ble_eq_true rfl) he rfl
theorem X9_isUnlike_12 : iWp d mX9_isUnlike 12 [a0, a1, a2] (.int y :: .int x :: st) h Q = if x = y then iWp d mX9_isUnlike 19 [a0, a1, a2] st h Q else iWp d mX9_isUnlike 15 [a0, a1, a2] st h Q := w_icmp_eq dX9_isUnlike_12 rfl
theorem X9_isUnlike_15 : iWp d mX9_isUnlike 15 [a0, a1, a2] st h Q = iWp d mX9_isUnlike 16 [a0, a1, a2] (.int 1 :: st) h Q := w_iconst dX9_isUnlike_15 rfl
theorem X9_isUnlike_16 : iWp d mX9_isUnlike 16 [a0, a1, a2] st h Q = iWp d mX9_isUnlike 20 [a0, a1, a2] st h Q := w_goto dX9_isUnlike_16 rfl
theorem X9_isUnlike_19 : iWp d mX9_isUnlike 19 [a0, a1, a2] st h Q = iWp d mX9_isUnlike 20 [a0, a1, a2] (.int 0 :: st) h Q := w_iconst dX9_isUnlike_19 rfl
theorem X9_isUnlike_20 : iWp d mX9_isUnlike 20 [a0, a1, a2] [.int (iB b)] h Q = Q (some (.int (iB b))) h := w_iretb dX9_isUnlike_20 rfl
theorem X9_isUnlike_20z : iWp d mX9_isUnlike 20 [a0, a1, a2] [.int 0] h Q = Q (some (.int (iB false))) h := w_iretb (bb := false) dX9_isUnlike_20 rfl
theorem X9_isUnlike_20o : iWp d mX9_isUnlike 20 [a0, a1, a2] [.int 1] h Q = Q (some (.int (iB true))) h := w_iretb (bb := true) dX9_isUnlike_20 rfl
theorem I9_isUnlike {Q : Option Value → iHp → Prop} (hw : iWp 2 mX9_isUnlike 0 [.ref p, .int x0, .int x1] [] h Q) : ∃ r h1, iEv mX9_isUnlike [.ref p, .int x0, .int x1] h r h1 ∧ Q r h1 := iEv_of (by rfl) rfl hw
theorem J9_isUnlike {r : Option Value} {h1 : iHp} (hw : iWp 2 mX9_isUnlike 0 [.ref p, .int x0, .int x1] [] h (fun r' h' => r' = r ∧ h' = h1)) : iEv mX9_isUnlike [.ref p, .int x0, .int x1] h r h1 := iEv_ev (by rfl) rfl hw
theorem X9_judge_0 : iWp d mX9_judge 0 [.ref p, a1, a2, a3, a4, a5] st h Q = iWp d mX9_judge 1 [.ref p, a1, a2, a3, a4, a5] (.ref p :: st) h Q := w_aload_n dX9_judge_0 rfl
theorem X9_judge_1 : iWp d mX9_judge 1 [a0, .int x, a2, a3, a4, a5] st h Q = iWp d mX9_judge 2 [a0, .int x, a2, a3, a4, a5] (.int x :: st) h Q := w_iload_n dX9_judge_1 rfl
theorem X9_judge_2 (he : iEv mX9_noRow [.ref p, .int x0] h (some (.int rv)) h2) (ho : iObj h p 9 = true) : iWp 3 mX9_judge 2 [a0, a1, a2, a3, a4, a5] [.int x0, .ref p] h Q = iWp 3 mX9_judge 5 [a0, a1, a2, a3, a4, a5] [.int rv] h2 Q := iWp_cV dX9_judge_2 fK_9_117 rfl rfl ho (Nat.le_of_ble_eq_true rfl) (Nat.le_of_ble_eq_true rfl) rfl (Nat.le_of_ble_eq_true rfl) he rfl
theorem X9_judge_5 : iWp d mX9_judge 5 [a0, a1, a2, a3, a4, a5] (.int x :: st) h Q = iWp d mX9_judge 7 [a0, a1, a2, iClr a3, .int x, a5] st h Q := w_istore dX9_judge_5 (Nat.le_of_ble_eq_true rfl) rfl
theorem X9_judge_7 : iWp d mX9_judge 7 [a0, a1, a2, a3, .int x, a5] st h Q = iWp d mX9_judge 9 [a0, a1, a2, a3, .int x, a5] (.int x :: st) h Q := w_iload dX9_judge_7 rfl
theorem X9_judge_9 : iWp d mX9_judge 9 [a0, a1, a2, a3, a4, a5] st h Q = iWp d mX9_judge 10 [a0, a1, a2, a3, a4, a5] (.int (-1) :: st) h Q := w_iconst dX9_judge_9 rfl
theorem X9_judge_10 : iWp d mX9_judge 10 [a0, a1, a2, a3, a4, a5] (.int y :: .int x :: st) h Q = if x = y then iWp d mX9_judge 21 [a0, a1, a2, a3, a4, a5] st h Q else iWp d mX9_judge 13 [a0, a1, a2, a3, a4, a5] st h Q := w_icmp_eq dX9_judge_10 rfl
theorem X9_judge_13 : iWp d mX9_judge 13 [.ref p, a1, a2, a3, a4, a5] st h Q = iWp d mX9_judge 14 [.ref p, a1, a2, a3, a4, a5] (.ref p :: st) h Q := w_aload_n dX9_judge_13 rfl
theorem X9_judge_14 : iWp d mX9_judge 14 [a0, a1, .int x, a3, a4, a5] st h Q = iWp d mX9_judge 15 [a0, a1, .int x, a3, a4, a5] (.int x :: st) h Q := w_iload_n dX9_judge_14 rfl
theorem X9_judge_15 (he : iEv mX9_isTree [.ref p, .int x0] h (some (.int rv)) h2) (ho : iObj h p 9 = true) : iWp 3 mX9_judge 15 [a0, a1, a2, a3, a4, a5] [.int x0, .ref p] h Q = iWp 3 mX9_judge 18 [a0, a1, a2, a3, a4, a5] [.int rv] h2 Q := iWp_cV dX9_judge_15 fK_9_166 rfl rfl ho (Nat.le_of_ble_eq_true rfl) (Nat.le_of_ble_eq_true rfl) rfl (Nat.le_of_ble_eq_true rfl) he rfl
theorem X9_judge_18 : iWp d mX9_judge 18 [a0, a1, a2, a3, a4, a5] (.int x :: st) h Q = if x = 0 then iWp d mX9_judge 21 [a0, a1, a2, a3, a4, a5] st h Q else iWp d mX9_judge 27 [a0, a1, a2, a3, a4, a5] st h Q := w_ifc_ne dX9_judge_18 rfl
theorem X9_judge_21 : iWp d mX9_judge 21 [.ref p, a1, a2, a3, a4, a5] st h Q = iWp d mX9_judge 22 [.ref p, a1, a2, a3, a4, a5] (.ref p :: st) h Q := w_aload_n dX9_judge_21 rfl
theorem X9_judge_22 : iWp d mX9_judge 22 [a0, a1, a2, a3, a4, a5] st h Q = iWp d mX9_judge 23 [a0, a1, a2, a3, a4, a5] (.int (-1) :: st) h Q := w_iconst dX9_judge_22 rfl
theorem X9_judge_23 (he : iEv mX9_no10 [.ref p, .int x0] h (some (.int rv)) h2) (ho : iObj h p 9 = true) : iWp 3 mX9_judge 23 [a0, a1, a2, a3, a4, a5] [.int x0, .ref p] h Q = iWp 3 mX9_judge 26 [a0, a1, a2, a3, a4, a5] [.int rv] h2 Q := iWp_cV dX9_judge_23 fK_9_181 rfl rfl ho (Nat.le_of_ble_eq_true rfl) (Nat.le_of_ble_eq_true rfl) rfl (Nat.le_of_ble_eq_true rfl) he rfl
theorem X9_judge_26 : iWp d mX9_judge 26 [a0, a1, a2, a3, a4, a5] [.int x] h Q = Q (some (.int x)) h := w_ireti dX9_judge_26 rfl
theorem X9_judge_27 : iWp d mX9_judge 27 [a0, a1, a2, a3, .int x, a5] st h Q = iWp d mX9_judge 29 [a0, a1, a2, a3, .int x, a5] (.int x :: st) h Q := w_iload dX9_judge_27 rfl
theorem X9_judge_29 : iWp d mX9_judge 29 [a0, a1, a2, a3, a4, a5] (.int x :: st) h Q = if 0 ≤ x then iWp d mX9_judge 39 [a0, a1, a2, a3, a4, a5] st h Q else iWp d mX9_judge 32 [a0, a1, a2, a3, a4, a5] st h Q := w_ifc_ge dX9_judge_29 rfl
theorem X9_judge_32 : iWp d mX9_judge 32 [.ref p, a1, a2, a3, a4, a5] st h Q = iWp d mX9_judge 33 [.ref p, a1, a2, a3, a4, a5] (.ref p :: st) h Q := w_aload_n dX9_judge_32 rfl
theorem X9_judge_33 : iWp d mX9_judge 33 [a0, a1, a2, a3, .int x, a5] st h Q = iWp d mX9_judge 35 [a0, a1, a2, a3, .int x, a5] (.int x :: st) h Q := w_iload dX9_judge_33 rfl
theorem X9_judge_35 (he : iEv mX9_no10 [.ref p, .int x0] h (some (.int rv)) h2) (ho : iObj h p 9 = true) : iWp 3 mX9_judge 35 [a0, a1, a2, a3, a4, a5] [.int x0, .ref p] h Q = iWp 3 mX9_judge 38 [a0, a1, a2, a3, a4, a5] [.int rv] h2 Q := iWp_cV dX9_judge_35 fK_9_181 rfl rfl ho (Nat.le_of_ble_eq_true rfl) (Nat.le_of_ble_eq_true rfl) rfl (Nat.le_of_ble_eq_true rfl) he rfl
theorem X9_judge_38 : iWp d mX9_judge 38 [a0, a1, a2, a3, a4, a5] [.int x] h Q = Q (some (.int x)) h := w_ireti dX9_judge_38 rfl
theorem X9_judge_39 : iWp d mX9_judge 39 [a0, a1, a2, .int x, a4, a5] st h Q = iWp d mX9_judge 40 [a0, a1, a2, .int x, a4, a5] (.int x :: st) h Q := w_iload_n dX9_judge_39 rfl
theorem X9_judge_40 : iWp d mX9_judge 40 [a0, a1, a2, a3, a4, a5] (.int x :: st) h Q = if 0 ≤ x then iWp d mX9_judge 50 [a0, a1, a2, a3, a4, a5] st h Q else iWp d mX9_judge 43 [a0, a1, a2, a3, a4, a5] st h Q := w_ifc_ge dX9_judge_40 rfl
theorem X9_judge_43 : iWp d mX9_judge 43 [.ref p, a1, a2, a3, a4, a5] st h Q = iWp d mX9_judge 44 [.ref p, a1, a2, a3, a4, a5] (.ref p :: st) h Q := w_aload_n dX9_judge_43 rfl
theorem X9_judge_44 : iWp d mX9_judge 44 [a0, a1, a2, a3, a4, a5] st h Q = iWp d mX9_judge 46 [a0, a1, a2, a3, a4, a5] (.int (-4) :: st) h Q := w_bipush dX9_judge_44 rfl
theorem X9_judge_46 (he : iEv mX9_no10 [.ref p, .int x0] h (some (.int rv)) h2) (ho : iObj h p 9 = true) : iWp 3 mX9_judge 46 [a0, a1, a2, a3, a4, a5] [.int x0, .ref p] h Q = iWp 3 mX9_judge 49 [a0, a1, a2, a3, a4, a5] [.int rv] h2 Q := iWp_cV dX9_judge_46 fK_9_181 rfl rfl ho (Nat.le_of_ble_eq_true rfl) (Nat.le_of_ble_eq_true rfl) rfl (Nat.le_of_ble_eq_true rfl) he rfl
theorem X9_judge_49 : iWp d mX9_judge 49 [a0, a1, a2, a3, a4, a5] [.int x] h Q = Q (some (.int x)) h := w_ireti dX9_judge_49 rfl
theorem X9_judge_50 : iWp d mX9_judge 50 [a0, a1, a2, .int x, a4, a5] st h Q = iWp d mX9_judge 51 [a0, a1, a2, .int x, a4, a5] (.int x :: st) h Q := w_iload_n dX9_judge_50 rfl
theorem X9_judge_51 : iWp d mX9_judge 51 [.ref p, a1, a2, a3, a4, a5] st h Q = iWp d mX9_judge 52 [.ref p, a1, a2, a3, a4, a5] (.ref p :: st) h Q := w_aload_n dX9_judge_51 rfl
theorem X9_judge_52 : iWp d mX9_judge 52 [a0, a1, a2, a3, a4, a5] (.ref p :: st) h Q = iOb (iGet h p 9 12) (fun v => iWp d mX9_judge 55 [a0, a1, a2, a3, a4, a5] (v :: st) h Q) := w_getf dX9_judge_52 fF_9_34
theorem X9_judge_55 : iWp d mX9_judge 55 [a0, .int x, a2, a3, a4, a5] st h Q = iWp d mX9_judge 56 [a0, .int x, a2, a3, a4, a5] (.int x :: st) h Q := w_iload_n dX9_judge_55 rfl
theorem X9_judge_56 : iWp d mX9_judge 56 [a0, a1, a2, a3, a4, a5] (.int x :: .ref p :: st) h Q = iOb (iLdI h p x) (fun v => iWp d mX9_judge 57 [a0, a1, a2, a3, a4, a5] (.int v :: st) h Q) := w_iaload dX9_judge_56
theorem X9_judge_57 : iWp d mX9_judge 57 [a0, a1, a2, a3, a4, a5] (.int y :: .int x :: st) h Q = if x ≤ y then iWp d mX9_judge 67 [a0, a1, a2, a3, a4, a5] st h Q else iWp d mX9_judge 60 [a0, a1, a2, a3, a4, a5] st h Q := w_icmp_le dX9_judge_57 rfl
theorem X9_judge_60 : iWp d mX9_judge 60 [.ref p, a1, a2, a3, a4, a5] st h Q = iWp d mX9_judge 61 [.ref p, a1, a2, a3, a4, a5] (.ref p :: st) h Q := w_aload_n dX9_judge_60 rfl
theorem X9_judge_61 : iWp d mX9_judge 61 [a0, a1, a2, a3, a4, a5] st h Q = iWp d mX9_judge 63 [a0, a1, a2, a3, a4, a5] (.int (-5) :: st) h Q := w_bipush dX9_judge_61 rfl
theorem X9_judge_63 (he : iEv mX9_no10 [.ref p, .int x0] h (some (.int rv)) h2) (ho : iObj h p 9 = true) : iWp 3 mX9_judge 63 [a0, a1, a2, a3, a4, a5] [.int x0, .ref p] h Q = iWp 3 mX9_judge 66 [a0, a1, a2, a3, a4, a5] [.int rv] h2 Q := iWp_cV dX9_judge_63 fK_9_181 rfl rfl ho (Nat.le_of_ble_eq_true rfl) (Nat.le_of_ble_eq_true rfl) rfl (Nat.le_of_ble_eq_true rfl) he rfl
theorem X9_judge_66 : iWp d mX9_judge 66 [a0, a1, a2, a3, a4, a5] [.int x] h Q = Q (some (.int x)) h := w_ireti dX9_judge_66 rfl
theorem X9_judge_67 : iWp d mX9_judge 67 [a0, a1, a2, .int x, a4, a5] st h Q = iWp d mX9_judge 68 [a0, a1, a2, .int x, a4, a5] (.int x :: st) h Q := w_iload_n dX9_judge_67 rfl
theorem X9_judge_68 : iWp d mX9_judge 68 [a0, a1, a2, a3, a4, a5] st h Q = iWp d mX9_judge 70 [a0, a1, a2, a3, a4, a5] (.int 60 :: st) h Q := w_bipush dX9_judge_68 rfl
theorem X9_judge_70 : iWp d mX9_judge 70 [a0, a1, a2, a3, a4, a5] (.int y :: .int x :: st) h Q = if x ≤ y then iWp d mX9_judge 80 [a0, a1, a2, a3, a4, a5] st h Q else iWp d mX9_judge 73 [a0, a1, a2, a3, a4, a5] st h Q := w_icmp_le dX9_judge_70 rfl
theorem X9_judge_73 : iWp d mX9_judge 73 [.ref p, a1, a2, a3, a4, a5] st h Q = iWp d mX9_judge 74 [.ref p, a1, a2, a3, a4, a5] (.ref p :: st) h Q := w_aload_n dX9_judge_73 rfl
theorem X9_judge_74 : iWp d mX9_judge 74 [a0, a1, a2, a3, a4, a5] st h Q = iWp d mX9_judge 76 [a0, a1, a2, a3, a4, a5] (.int (-6) :: st) h Q := w_bipush dX9_judge_74 rfl
theorem X9_judge_76 (he : iEv mX9_no10 [.ref p, .int x0] h (some (.int rv)) h2) (ho : iObj h p 9 = true) : iWp 3 mX9_judge 76 [a0, a1, a2, a3, a4, a5] [.int x0, .ref p] h Q = iWp 3 mX9_judge 79 [a0, a1, a2, a3, a4, a5] [.int rv] h2 Q := iWp_cV dX9_judge_76 fK_9_181 rfl rfl ho (Nat.le_of_ble_eq_true rfl) (Nat.le_of_ble_eq_true rfl) rfl (Nat.le_of_ble_eq_true rfl) he rfl
theorem X9_judge_79 : iWp d mX9_judge 79 [a0, a1, a2, a3, a4, a5] [.int x] h Q = Q (some (.int x)) h := w_ireti dX9_judge_79 rfl
theorem X9_judge_80 : iWp d mX9_judge 80 [a0, a1, a2, a3, a4, a5] st h Q = iWp d mX9_judge 81 [a0, a1, a2, a3, a4, a5] (.int 0 :: st) h Q := w_iconst dX9_judge_80 rfl
theorem X9_judge_81 : iWp d mX9_judge 81 [a0, a1, a2, a3, a4, a5] (.int x :: st) h Q = iWp d mX9_judge 83 [a0, a1, a2, a3, iClr a4, .int x] st h Q := w_istore dX9_judge_81 (Nat.le_of_ble_eq_true rfl) rfl
theorem X9_judge_83 : iWp d mX9_judge 83 [a0, a1, a2, a3, a4, .int x] st h Q = iWp d mX9_judge 85 [a0, a1, a2, a3, a4, .int x] (.int x :: st) h Q := w_iload dX9_judge_83 rfl
theorem X9_judge_85 : iWp d mX9_judge 85 [a0, a1, a2, .int x, a4, a5] st h Q = iWp d mX9_judge 86 [a0, a1, a2, .int x, a4, a5] (.int x :: st) h Q := w_iload_n dX9_judge_85 rfl
theorem X9_judge_86 : iWp d mX9_judge 86 [a0, a1, a2, a3, a4, a5] (.int y :: .int x :: st) h Q = if y ≤ x then iWp d mX9_judge 133 [a0, a1, a2, a3, a4, a5] st h Q else iWp d mX9_judge 89 [a0, a1, a2, a3, a4, a5] st h Q := w_icmp_ge dX9_judge_86 rfl
theorem X9_judge_89 : iWp d mX9_judge 89 [a0, a1, a2, a3, a4, .int x] st h Q = iWp d mX9_judge 91 [a0, a1, a2, a3, a4, .int x] (.int x :: st) h Q := w_iload dX9_judge_89 rfl
theorem X9_judge_91 : iWp d mX9_judge 91 [.ref p, a1, a2, a3, a4, a5] st h Q = iWp d mX9_judge 92 [.ref p, a1, a2, a3, a4, a5] (.ref p :: st) h Q := w_aload_n dX9_judge_91 rfl
theorem X9_judge_92 : iWp d mX9_judge 92 [a0, a1, a2, a3, a4, a5] (.ref p :: st) h Q = iOb (iGet h p 9 1) (fun v => iWp d mX9_judge 95 [a0, a1, a2, a3, a4, a5] (v :: st) h Q) := w_getf dX9_judge_92 fF_9_7
theorem X9_judge_95 : iWp d mX9_judge 95 [a0, a1, .int x, a3, a4, a5] st h Q = iWp d mX9_judge 96 [a0, a1, .int x, a3, a4, a5] (.int x :: st) h Q := w_iload_n dX9_judge_95 rfl
theorem X9_judge_96 : iWp d mX9_judge 96 [a0, a1, a2, a3, a4, a5] (.int x :: .ref p :: st) h Q = iOb (iLdI h p x) (fun v => iWp d mX9_judge 97 [a0, a1, a2, a3, a4, a5] (.int v :: st) h Q) := w_iaload dX9_judge_96
theorem X9_judge_97 : iWp d mX9_judge 97 [a0, a1, a2, a3, a4, a5] (.int y :: .int x :: st) h Q = if y ≤ x then iWp d mX9_judge 124 [a0, a1, a2, a3, a4, a5] st h Q else iWp d mX9_judge 100 [a0, a1, a2, a3, a4, a5] st h Q := w_icmp_ge dX9_judge_97 rfl
theorem X9_judge_100 : iWp d mX9_judge 100 [.ref p, a1, a2, a3, a4, a5] st h Q = iWp d mX9_judge 101 [.ref p, a1, a2, a3, a4, a5] (.ref p :: st) h Q := w_aload_n dX9_judge_100 rfl
theorem X9_judge_101 : iWp d mX9_judge 101 [a0, a1, a2, a3, a4, a5] (.ref p :: st) h Q = iOb (iGet h p 9 13) (fun v => iWp d mX9_judge 104 [a0, a1, a2, a3, a4, a5] (v :: st) h Q) := w_getf dX9_judge_101 fF_9_37
theorem X9_judge_104 : iWp d mX9_judge 104 [a0, a1, a2, a3, a4, a5] st h Q = iWp d mX9_judge 107 [a0, a1, a2, a3, a4, a5] (.int 160 :: st) h Q := w_sipush dX9_judge_104 rfl
theorem X9_judge_107 : iWp d mX9_judge 107 [a0, .int x, a2, a3, a4, a5] st h Q = iWp d mX9_judge 108 [a0, .int x, a2, a3, a4, a5] (.int x :: st) h Q := w_iload_n dX9_judge_107 rfl
theorem X9_judge_108 : iWp d mX9_judge 108 [a0, a1, a2, a3, a4, a5] (.int y :: .int x :: st) h Q = iWp d mX9_judge 109 [a0, a1, a2, a3, a4, a5] (.int (x * y) :: st) h Q := w_imul dX9_judge_108
theorem X9_judge_109 : iWp d mX9_judge 109 [a0, a1, a2, a3, a4, .int x] st h Q = iWp d mX9_judge 111 [a0, a1, a2, a3, a4, .int x] (.int x :: st) h Q := w_iload dX9_judge_109 rfl
theorem X9_judge_111 : iWp d mX9_judge 111 [a0, a1, a2, a3, a4, a5] (.int y :: .int x :: st) h Q = iWp d mX9_judge 112 [a0, a1, a2, a3, a4, a5] (.int (x + y) :: st) h Q := w_iadd dX9_judge_111
theorem X9_judge_112 : iWp d mX9_judge 112 [a0, a1, a2, a3, a4, a5] (.int x :: .ref p :: st) h Q = iOb (iLdL h p x) (fun v => iWp d mX9_judge 113 [a0, a1, a2, a3, a4, a5] (.long v :: st) h Q) := w_laload dX9_judge_112
theorem X9_judge_113 : iWp d mX9_judge 113 [a0, a1, a2, a3, a4, a5] (.long u :: st) h Q = iWp d mX9_judge 114 [a0, a1, a2, a3, a4, a5] (.int u.toInt32 :: st) h Q := w_l2i dX9_judge_113
theorem X9_judge_114 : iWp d mX9_judge 114 [.ref p, a1, a2, a3, a4, a5] st h Q = iWp d mX9_judge 115 [.ref p, a1, a2, a3, a4, a5] (.ref p :: st) h Q := w_aload_n dX9_judge_114 rfl
theorem X9_judge_115 : iWp d mX9_judge 115 [a0, a1, .int x, a3, a4, a5] st h Q = iWp d mX9_judge 116 [a0, a1, .int x, a3, a4, a5] (.int x :: st) h Q := w_iload_n dX9_judge_115 rfl
theorem X9_judge_116 : iWp d mX9_judge 116 [a0, a1, a2, a3, a4, .int x] st h Q = iWp d mX9_judge 118 [a0, a1, a2, a3, a4, .int x] (.int x :: st) h Q := w_iload dX9_judge_116 rfl
theorem X9_judge_118 (he : iEv mX9_keyOf [.ref p, .int x0, .int x1] h (some (.int rv)) h2) (ho : iObj h p 9 = true) : iWp 3 mX9_judge 118 [a0, a1, a2, a3, a4, a5] [.int x1, .int x0, .ref p, .int r0] h Q = iWp 3 mX9_judge 121 [a0, a1, a2, a3, a4, a5] [.int rv, .int r0] h2 Q := iWp_cV dX9_judge_118 fK_9_211 rfl rfl ho (Nat.le_of_ble_eq_true rfl) (Nat.le_of_ble_eq_true rfl) rfl (Nat.le_of_ble_eq_true rfl) he rfl
theorem X9_judge_121 : iWp d mX9_judge 121 [a0, a1, a2, a3, a4, a5] (.int y :: .int x :: st) h Q = if x = y then iWp d mX9_judge 127 [a0, a1, a2, a3, a4, a5] st h Q else iWp d mX9_judge 124 [a0, a1, a2, a3, a4, a5] st h Q := w_icmp_eq dX9_judge_121 rfl
theorem X9_judge_124 : iWp d mX9_judge 124 [a0, a1, a2, a3, a4, .int x] st h Q = iWp d mX9_judge 126 [a0, a1, a2, a3, a4, .int x] (.int x :: st) h Q := w_iload dX9_judge_124 rfl
theorem X9_judge_126 : iWp d mX9_judge 126 [a0, a1, a2, a3, a4, a5] [.int x] h Q = Q (some (.int x)) h := w_ireti dX9_judge_126 rfl
theorem X9_judge_127 : iWp d mX9_judge 127 [a0, a1, a2, a3, a4, .int x] st h Q = iWp d mX9_judge 130 [a0, a1, a2, a3, iClr a4, .int (x + 1)] st h Q := w_iinc dX9_judge_127 rfl (Nat.le_of_ble_eq_true rfl) rfl
theorem X9_judge_130 : iWp d mX9_judge 130 [a0, a1, a2, a3, a4, a5] st h Q = iWp d mX9_judge 83 [a0, a1, a2, a3, a4, a5] st h Q := w_goto dX9_judge_130 rfl
theorem X9_judge_133 : iWp d mX9_judge 133 [.ref p, a1, a2, a3, a4, a5] st h Q = iWp d mX9_judge 134 [.ref p, a1, a2, a3, a4, a5] (.ref p :: st) h Q := w_aload_n dX9_judge_133 rfl
theorem X9_judge_134 : iWp d mX9_judge 134 [a0, a1, a2, a3, a4, a5] (.ref p :: st) h Q = iOb (iGet h p 9 1) (fun v => iWp d mX9_judge 137 [a0, a1, a2, a3, a4, a5] (v :: st) h Q) := w_getf dX9_judge_134 fF_9_7
theorem X9_judge_137 : iWp d mX9_judge 137 [a0, a1, .int x, a3, a4, a5] st h Q = iWp d mX9_judge 138 [a0, a1, .int x, a3, a4, a5] (.int x :: st) h Q := w_iload_n dX9_judge_137 rfl
theorem X9_judge_138 : iWp d mX9_judge 138 [a0, a1, a2, a3, a4, a5] (.int x :: .ref p :: st) h Q = iOb (iLdI h p x) (fun v => iWp d mX9_judge 139 [a0, a1, a2, a3, a4, a5] (.int v :: st) h Q) := w_iaload dX9_judge_138
theorem X9_judge_139 : iWp d mX9_judge 139 [a0, a1, a2, .int x, a4, a5] st h Q = iWp d mX9_judge 140 [a0, a1, a2, .int x, a4, a5] (.int x :: st) h Q := w_iload_n dX9_judge_139 rfl
theorem X9_judge_140 : iWp d mX9_judge 140 [a0, a1, a2, a3, a4, a5] (.int y :: .int x :: st) h Q = if x ≤ y then iWp d mX9_judge 147 [a0, a1, a2, a3, a4, a5] st h Q else iWp d mX9_judge 143 [a0, a1, a2, a3, a4, a5] st h Q := w_icmp_le dX9_judge_140 rfl
theorem X9_judge_143 : iWp d mX9_judge 143 [a0, a1, a2, .int x, a4, a5] st h Q = iWp d mX9_judge 144 [a0, a1, a2, .int x, a4, a5] (.int x :: st) h Q := w_iload_n dX9_judge_143 rfl
theorem X9_judge_144 : iWp d mX9_judge 144 [a0, a1, a2, a3, a4, a5] st h Q = iWp d mX9_judge 148 [a0, a1, a2, a3, a4, a5] st h Q := w_goto dX9_judge_144 rfl
theorem X9_judge_147 : iWp d mX9_judge 147 [a0, a1, a2, a3, a4, a5] st h Q = iWp d mX9_judge 148 [a0, a1, a2, a3, a4, a5] (.int (-1) :: st) h Q := w_iconst dX9_judge_147 rfl
theorem X9_judge_148 : iWp d mX9_judge 148 [a0, a1, a2, a3, a4, a5] [.int x] h Q = Q (some (.int x)) h := w_ireti dX9_judge_148 rfl
theorem I9_judge {Q : Option Value → iHp → Prop} (hw : iWp 3 mX9_judge 0 [.ref p, .int x0, .int x1, .int x2, iU, iU] [] h Q) : ∃ r h1, iEv mX9_judge [.ref p, .int x0, .int x1, .int x2] h r h1 ∧ Q r h1 := iEv_of (by rfl) rfl hw
theorem J9_judge {r : Option Value} {h1 : iHp} (hw : iWp 3 mX9_judge 0 [.ref p, .int x0, .int x1, .int x2, iU, iU] [] h (fun r' h' => r' = r ∧ h' = h1)) : iEv mX9_judge [.ref p, .int x0, .int x1, .int x2] h r h1 := iEv_ev (by rfl) rfl hw
theorem X9_keeps_0 : iWp d mX9_keeps 0 [.ref p, a1, a2, a3] st h Q = iWp d mX9_keeps 1 [.ref p, a1, a2, a3] (.ref p :: st) h Q := w_aload_n dX9_keeps_0 rfl
theorem X9_keeps_1 : iWp d mX9_keeps 1 [a0, a1, a2, a3] (.ref p :: st) h Q = iOb (iGet h p 9 8) (fun v => iWp d mX9_keeps 4 [a0, a1, a2, a3] (v :: st) h Q) := w_getf dX9_keeps_1 fF_9_25
theorem X9_keeps_4 : iWp d mX9_keeps 4 [a0, .int x, a2, a3] st h Q = iWp d mX9_keeps 5 [a0, .int x, a2, a3] (.int x :: st) h Q := w_iload_n dX9_keeps_4 rfl
theorem X9_keeps_5 : iWp d mX9_keeps 5 [a0, a1, a2, a3] st h Q = iWp d mX9_keeps 6 [a0, a1, a2, a3] (.int 1 :: st) h Q := w_iconst dX9_keeps_5 rfl
theorem X9_keeps_6 : iWp d mX9_keeps 6 [a0, a1, a2, a3] (.int y :: .int x :: st) h Q = iWp d mX9_keeps 7 [a0, a1, a2, a3] (.int (x + y) :: st) h Q := w_iadd dX9_keeps_6
theorem X9_keeps_7 : iWp d mX9_keeps 7 [a0, a1, a2, a3] (.int x :: .ref p :: st) h Q = iOb (iLdI h p x) (fun v => iWp d mX9_keeps 8 [a0, a1, a2, a3] (.int v :: st) h Q) := w_iaload dX9_keeps_7
theorem X9_keeps_8 : iWp d mX9_keeps 8 [a0, a1, a2, a3] (.int x :: st) h Q = iWp d mX9_keeps 9 [a0, iClr a1, .int x, a3] st h Q := w_istore_n dX9_keeps_8 (Nat.le_of_ble_eq_true rfl) rfl
theorem X9_keeps_9 : iWp d mX9_keeps 9 [.ref p, a1, a2, a3] st h Q = iWp d mX9_keeps 10 [.ref p, a1, a2, a3] (.ref p :: st) h Q := w_aload_n dX9_keeps_9 rfl
theorem X9_keeps_10 : iWp d mX9_keeps 10 [a0, a1, .int x, a3] st h Q = iWp d mX9_keeps 11 [a0, a1, .int x, a3] (.int x :: st) h Q := w_iload_n dX9_keeps_10 rfl
theorem X9_keeps_11 (he : iEv mX9_find [.ref p, .int x0] h (some (.int rv)) h2) (ho : iObj h p 9 = true) : iWp 8 mX9_keeps 11 [a0, a1, a2, a3] [.int x0, .ref p] h Q = iWp 8 mX9_keeps 14 [a0, a1, a2, a3] [.int rv] h2 Q := iWp_cV dX9_keeps_11 fK_9_153 rfl rfl ho (Nat.le_of_ble_eq_true rfl) (Nat.le_of_ble_eq_true rfl) rfl (Nat.le_of_ble_eq_true rfl) he rfl
theorem X9_keeps_14 : iWp d mX9_keeps 14 [a0, a1, a2, a3] (.int x :: st) h Q = iWp d mX9_keeps 15 [a0, a1, iClr a2, .int x] st h Q := w_istore_n dX9_keeps_14 (Nat.le_of_ble_eq_true rfl) rfl
theorem X9_keeps_15 : iWp d mX9_keeps 15 [.ref p, a1, a2, a3] st h Q = iWp d mX9_keeps 16 [.ref p, a1, a2, a3] (.ref p :: st) h Q := w_aload_n dX9_keeps_15 rfl
theorem X9_keeps_16 : iWp d mX9_keeps 16 [a0, a1, a2, a3] (.ref p :: st) h Q = iOb (iGet h p 9 8) (fun v => iWp d mX9_keeps 19 [a0, a1, a2, a3] (v :: st) h Q) := w_getf dX9_keeps_16 fF_9_25
theorem X9_keeps_19 : iWp d mX9_keeps 19 [a0, .int x, a2, a3] st h Q = iWp d mX9_keeps 20 [a0, .int x, a2, a3] (.int x :: st) h Q := w_iload_n dX9_keeps_19 rfl
theorem X9_keeps_20 : iWp d mX9_keeps 20 [a0, a1, a2, a3] (.int x :: .ref p :: st) h Q = iOb (iLdI h p x) (fun v => iWp d mX9_keeps 21 [a0, a1, a2, a3] (.int v :: st) h Q) := w_iaload dX9_keeps_20
theorem X9_keeps_21_0 : iWp d mX9_keeps 21 [a0, a1, a2, a3] (.int 0 :: st) h Q = iWp d mX9_keeps 48 [a0, a1, a2, a3] st h Q := w_switch dX9_keeps_21 rfl rfl rfl
theorem X9_keeps_21_1 : iWp d mX9_keeps 21 [a0, a1, a2, a3] (.int 1 :: st) h Q = iWp d mX9_keeps 120 [a0, a1, a2, a3] st h Q := w_switch dX9_keeps_21 rfl rfl rfl
theorem X9_keeps_21_2 : iWp d mX9_keeps 21 [a0, a1, a2, a3] (.int 2 :: st) h Q = iWp d mX9_keeps 186 [a0, a1, a2, a3] st h Q := w_switch dX9_keeps_21 rfl rfl rfl
theorem X9_keeps_21_d (hx : x.toInt < 0 ∨ 2 < x.toInt) : iWp d mX9_keeps 21 [a0, a1, a2, a3] (.int x :: st) h Q = iWp d mX9_keeps 194 [a0, a1, a2, a3] st h Q := w_switchD dX9_keeps_21 hx rfl
theorem X9_keeps_48 : iWp d mX9_keeps 48 [a0, a1, a2, .int x] st h Q = iWp d mX9_keeps 49 [a0, a1, a2, .int x] (.int x :: st) h Q := w_iload_n dX9_keeps_48 rfl
theorem X9_keeps_49 : iWp d mX9_keeps 49 [a0, a1, a2, a3] st h Q = iWp d mX9_keeps 50 [a0, a1, a2, a3] (.int (-1) :: st) h Q := w_iconst dX9_keeps_49 rfl
theorem X9_keeps_50 : iWp d mX9_keeps 50 [a0, a1, a2, a3] (.int y :: .int x :: st) h Q = if x = y then iWp d mX9_keeps 53 [a0, a1, a2, a3] st h Q else iWp d mX9_keeps 55 [a0, a1, a2, a3] st h Q := w_icmp_ne dX9_keeps_50 rfl
theorem X9_keeps_53 : iWp d mX9_keeps 53 [a0, a1, a2, a3] st h Q = iWp d mX9_keeps 54 [a0, a1, a2, a3] (.int 1 :: st) h Q := w_iconst dX9_keeps_53 rfl
theorem X9_keeps_54 : iWp d mX9_keeps 54 [a0, a1, a2, a3] [.int x] h Q = Q (some (.int x)) h := w_ireti dX9_keeps_54 rfl
theorem X9_keeps_55 : iWp d mX9_keeps 55 [.ref p, a1, a2, a3] st h Q = iWp d mX9_keeps 56 [.ref p, a1, a2, a3] (.ref p :: st) h Q := w_aload_n dX9_keeps_55 rfl
theorem X9_keeps_56 : iWp d mX9_keeps 56 [a0, a1, a2, a3] (.ref p :: st) h Q = iOb (iGet h p 9 20) (fun v => iWp d mX9_keeps 59 [a0, a1, a2, a3] (v :: st) h Q) := w_getf dX9_keeps_56 fF_9_47
theorem X9_keeps_59 : iWp d mX9_keeps 59 [a0, a1, a2, .int x] st h Q = iWp d mX9_keeps 60 [a0, a1, a2, .int x] (.int x :: st) h Q := w_iload_n dX9_keeps_59 rfl
theorem X9_keeps_60 : iWp d mX9_keeps 60 [a0, a1, a2, a3] (.int x :: .ref p :: st) h Q = iOb (iLdI h p x) (fun v => iWp d mX9_keeps 61 [a0, a1, a2, a3] (.int v :: st) h Q) := w_iaload dX9_keeps_60
theorem X9_keeps_61 : iWp d mX9_keeps 61 [.ref p, a1, a2, a3] st h Q = iWp d mX9_keeps 62 [.ref p, a1, a2, a3] (.ref p :: st) h Q := w_aload_n dX9_keeps_61 rfl
theorem X9_keeps_62 : iWp d mX9_keeps 62 [a0, a1, a2, a3] (.ref p :: st) h Q = iOb (iGet h p 9 8) (fun v => iWp d mX9_keeps 65 [a0, a1, a2, a3] (v :: st) h Q) := w_getf dX9_keeps_62 fF_9_25
theorem X9_keeps_65 : iWp d mX9_keeps 65 [a0, .int x, a2, a3] st h Q = iWp d mX9_keeps 66 [a0, .int x, a2, a3] (.int x :: st) h Q := w_iload_n dX9_keeps_65 rfl
theorem X9_keeps_66 : iWp d mX9_keeps 66 [a0, a1, a2, a3] st h Q = iWp d mX9_keeps 67 [a0, a1, a2, a3] (.int 3 :: st) h Q := w_iconst dX9_keeps_66 rfl
theorem X9_keeps_67 : iWp d mX9_keeps 67 [a0, a1, a2, a3] (.int y :: .int x :: st) h Q = iWp d mX9_keeps 68 [a0, a1, a2, a3] (.int (x + y) :: st) h Q := w_iadd dX9_keeps_67
theorem X9_keeps_68 : iWp d mX9_keeps 68 [a0, a1, a2, a3] (.int x :: .ref p :: st) h Q = iOb (iLdI h p x) (fun v => iWp d mX9_keeps 69 [a0, a1, a2, a3] (.int v :: st) h Q) := w_iaload dX9_keeps_68
theorem X9_keeps_69 : iWp d mX9_keeps 69 [a0, a1, a2, a3] (.int y :: .int x :: st) h Q = if x = y then iWp d mX9_keeps 72 [a0, a1, a2, a3] st h Q else iWp d mX9_keeps 74 [a0, a1, a2, a3] st h Q := w_icmp_ne dX9_keeps_69 rfl
theorem X9_keeps_72 : iWp d mX9_keeps 72 [a0, a1, a2, a3] st h Q = iWp d mX9_keeps 73 [a0, a1, a2, a3] (.int 0 :: st) h Q := w_iconst dX9_keeps_72 rfl
theorem X9_keeps_73 : iWp d mX9_keeps 73 [a0, a1, a2, a3] [.int x] h Q = Q (some (.int x)) h := w_ireti dX9_keeps_73 rfl
theorem X9_keeps_74 : iWp d mX9_keeps 74 [.ref p, a1, a2, a3] st h Q = iWp d mX9_keeps 75 [.ref p, a1, a2, a3] (.ref p :: st) h Q := w_aload_n dX9_keeps_74 rfl
theorem X9_keeps_75 : iWp d mX9_keeps 75 [a0, a1, a2, a3] (.ref p :: st) h Q = iOb (iGet h p 9 20) (fun v => iWp d mX9_keeps 78 [a0, a1, a2, a3] (v :: st) h Q) := w_getf dX9_keeps_75 fF_9_47
theorem X9_keeps_78 : iWp d mX9_keeps 78 [a0, a1, a2, .int x] st h Q = iWp d mX9_keeps 79 [a0, a1, a2, .int x] (.int x :: st) h Q := w_iload_n dX9_keeps_78 rfl
theorem X9_keeps_79 : iWp d mX9_keeps 79 [a0, a1, a2, a3] (.int x :: .ref p :: st) h Q = iOb (iLdI h p x) (fun v => iWp d mX9_keeps 80 [a0, a1, a2, a3] (.int v :: st) h Q) := w_iaload dX9_keeps_79
theorem X9_keeps_80 : iWp d mX9_keeps 80 [.ref p, a1, a2, a3] st h Q = iWp d mX9_keeps 81 [.ref p, a1, a2, a3] (.ref p :: st) h Q := w_aload_n dX9_keeps_80 rfl
theorem X9_keeps_81 : iWp d mX9_keeps 81 [a0, a1, a2, a3] (.ref p :: st) h Q = iOb (iGet h p 9 8) (fun v => iWp d mX9_keeps 84 [a0, a1, a2, a3] (v :: st) h Q) := w_getf dX9_keeps_81 fF_9_25
theorem X9_keeps_84 : iWp d mX9_keeps 84 [a0, .int x, a2, a3] st h Q = iWp d mX9_keeps 85 [a0, .int x, a2, a3] (.int x :: st) h Q := w_iload_n dX9_keeps_84 rfl
theorem X9_keeps_85 : iWp d mX9_keeps 85 [a0, a1, a2, a3] st h Q = iWp d mX9_keeps 86 [a0, a1, a2, a3] (.int 2 :: st) h Q := w_iconst dX9_keeps_85 rfl
theorem X9_keeps_86 : iWp d mX9_keeps 86 [a0, a1, a2, a3] (.int y :: .int x :: st) h Q = iWp d mX9_keeps 87 [a0, a1, a2, a3] (.int (x + y) :: st) h Q := w_iadd dX9_keeps_86
theorem X9_keeps_87 : iWp d mX9_keeps 87 [a0, a1, a2, a3] (.int x :: .ref p :: st) h Q = iOb (iLdI h p x) (fun v => iWp d mX9_keeps 88 [a0, a1, a2, a3] (.int v :: st) h Q) := w_iaload dX9_keeps_87
theorem X9_keeps_88 : iWp d mX9_keeps 88 [a0, a1, a2, a3] (.int y :: .int x :: st) h Q = if x = y then iWp d mX9_keeps 93 [a0, a1, a2, a3] st h Q else iWp d mX9_keeps 91 [a0, a1, a2, a3] st h Q := w_icmp_eq dX9_keeps_88 rfl
theorem X9_keeps_91 : iWp d mX9_keeps 91 [a0, a1, a2, a3] st h Q = iWp d mX9_keeps 92 [a0, a1, a2, a3] (.int 2 :: st) h Q := w_iconst dX9_keeps_91 rfl
theorem X9_keeps_92 : iWp d mX9_keeps 92 [a0, a1, a2, a3] [.int x] h Q = Q (some (.int x)) h := w_ireti dX9_keeps_92 rfl
theorem X9_keeps_93 : iWp d mX9_keeps 93 [.ref p, a1, a2, a3] st h Q = iWp d mX9_keeps 94 [.ref p, a1, a2, a3] (.ref p :: st) h Q := w_aload_n dX9_keeps_93 rfl
theorem X9_keeps_94 : iWp d mX9_keeps 94 [a0, a1, a2, a3] st h Q = iWp d mX9_keeps 95 [a0, a1, a2, a3] (.int 0 :: st) h Q := w_iconst dX9_keeps_94 rfl
theorem X9_keeps_95 : iWp d mX9_keeps 95 [a0, a1, .int x, a3] st h Q = iWp d mX9_keeps 96 [a0, a1, .int x, a3] (.int x :: st) h Q := w_iload_n dX9_keeps_95 rfl
theorem X9_keeps_96 : iWp d mX9_keeps 96 [.ref p, a1, a2, a3] st h Q = iWp d mX9_keeps 97 [.ref p, a1, a2, a3] (.ref p :: st) h Q := w_aload_n dX9_keeps_96 rfl
theorem X9_keeps_97 : iWp d mX9_keeps 97 [a0, a1, a2, a3] (.ref p :: st) h Q = iOb (iGet h p 9 8) (fun v => iWp d mX9_keeps 100 [a0, a1, a2, a3] (v :: st) h Q) := w_getf dX9_keeps_97 fF_9_25
theorem X9_keeps_100 : iWp d mX9_keeps 100 [a0, .int x, a2, a3] st h Q = iWp d mX9_keeps 101 [a0, .int x, a2, a3] (.int x :: st) h Q := w_iload_n dX9_keeps_100 rfl
theorem X9_keeps_101 : iWp d mX9_keeps 101 [a0, a1, a2, a3] st h Q = iWp d mX9_keeps 102 [a0, a1, a2, a3] (.int 2 :: st) h Q := w_iconst dX9_keeps_101 rfl
theorem X9_keeps_102 : iWp d mX9_keeps 102 [a0, a1, a2, a3] (.int y :: .int x :: st) h Q = iWp d mX9_keeps 103 [a0, a1, a2, a3] (.int (x + y) :: st) h Q := w_iadd dX9_keeps_102
theorem X9_keeps_103 : iWp d mX9_keeps 103 [a0, a1, a2, a3] (.int x :: .ref p :: st) h Q = iOb (iLdI h p x) (fun v => iWp d mX9_keeps 104 [a0, a1, a2, a3] (.int v :: st) h Q) := w_iaload dX9_keeps_103
theorem X9_keeps_104 : iWp d mX9_keeps 104 [.ref p, a1, a2, a3] st h Q = iWp d mX9_keeps 105 [.ref p, a1, a2, a3] (.ref p :: st) h Q := w_aload_n dX9_keeps_104 rfl
theorem X9_keeps_105 : iWp d mX9_keeps 105 [a0, a1, a2, a3] (.ref p :: st) h Q = iOb (iGet h p 9 8) (fun v => iWp d mX9_keeps 108 [a0, a1, a2, a3] (v :: st) h Q) := w_getf dX9_keeps_105 fF_9_25
theorem X9_keeps_108 : iWp d mX9_keeps 108 [a0, .int x, a2, a3] st h Q = iWp d mX9_keeps 109 [a0, .int x, a2, a3] (.int x :: st) h Q := w_iload_n dX9_keeps_108 rfl
theorem X9_keeps_109 : iWp d mX9_keeps 109 [a0, a1, a2, a3] st h Q = iWp d mX9_keeps 110 [a0, a1, a2, a3] (.int 3 :: st) h Q := w_iconst dX9_keeps_109 rfl
theorem X9_keeps_110 : iWp d mX9_keeps 110 [a0, a1, a2, a3] (.int y :: .int x :: st) h Q = iWp d mX9_keeps 111 [a0, a1, a2, a3] (.int (x + y) :: st) h Q := w_iadd dX9_keeps_110
theorem X9_keeps_111 : iWp d mX9_keeps 111 [a0, a1, a2, a3] (.int x :: .ref p :: st) h Q = iOb (iLdI h p x) (fun v => iWp d mX9_keeps 112 [a0, a1, a2, a3] (.int v :: st) h Q) := w_iaload dX9_keeps_111
theorem X9_keeps_112 : iWp d mX9_keeps 112 [a0, a1, a2, a3] st h Q = iWp d mX9_keeps 113 [a0, a1, a2, a3] (.int 0 :: st) h Q := w_iconst dX9_keeps_112 rfl
theorem X9_keeps_113 : iWp d mX9_keeps 113 [a0, a1, a2, a3] st h Q = iWp d mX9_keeps 114 [a0, a1, a2, a3] (.int 0 :: st) h Q := w_iconst dX9_keeps_113 rfl
theorem X9_keeps_114 : iWp d mX9_keeps 114 [a0, a1, a2, a3] st h Q = iWp d mX9_keeps 115 [a0, a1, a2, a3] (.int 0 :: st) h Q := w_iconst dX9_keeps_114 rfl
theorem X9_keeps_115 (he : iEv mX9_goes [.ref p, .int x0, .int x1, .int x2, .int x3, .int x4, .int x5, .int x6] h none h2) (ho : iObj h p 9 = true) : iWp 8 mX9_keeps 115 [a0, a1, a2, a3] [.int x6, .int x5, .int x4, .int x3, .int x2, .int x1, .int x0, .ref p] h Q = iWp 8 mX9_keeps 118 [a0, a1, a2, a3] [] h2 Q := iWp_cV dX9_keeps_115 fK_9_233 rfl rfl ho (Nat.le_of_ble_eq_true rfl) (Nat.le_of_ble_eq_true rfl) rfl (Nat.le_of_ble_eq_true rfl) he rfl
theorem X9_keeps_118 : iWp d mX9_keeps 118 [a0, a1, a2, a3] st h Q = iWp d mX9_keeps 119 [a0, a1, a2, a3] (.int 0 :: st) h Q := w_iconst dX9_keeps_118 rfl
theorem X9_keeps_119 : iWp d mX9_keeps 119 [a0, a1, a2, a3] [.int x] h Q = Q (some (.int x)) h := w_ireti dX9_keeps_119 rfl
theorem X9_keeps_120 : iWp d mX9_keeps 120 [a0, a1, a2, .int x] st h Q = iWp d mX9_keeps 121 [a0, a1, a2, .int x] (.int x :: st) h Q := w_iload_n dX9_keeps_120 rfl
theorem X9_keeps_121 : iWp d mX9_keeps 121 [a0, a1, a2, a3] st h Q = iWp d mX9_keeps 122 [a0, a1, a2, a3] (.int (-1) :: st) h Q := w_iconst dX9_keeps_121 rfl
theorem X9_keeps_122 : iWp d mX9_keeps 122 [a0, a1, a2, a3] (.int y :: .int x :: st) h Q = if x = y then iWp d mX9_keeps 125 [a0, a1, a2, a3] st h Q else iWp d mX9_keeps 127 [a0, a1, a2, a3] st h Q := w_icmp_ne dX9_keeps_122 rfl
theorem X9_keeps_125 : iWp d mX9_keeps 125 [a0, a1, a2, a3] st h Q = iWp d mX9_keeps 126 [a0, a1, a2, a3] (.int 0 :: st) h Q := w_iconst dX9_keeps_125 rfl
theorem X9_keeps_126 : iWp d mX9_keeps 126 [a0, a1, a2, a3] [.int x] h Q = Q (some (.int x)) h := w_ireti dX9_keeps_126 rfl
theorem X9_keeps_127 : iWp d mX9_keeps 127 [a0, a1, a2, .int x] st h Q = iWp d mX9_keeps 128 [a0, a1, a2, .int x] (.int x :: st) h Q := w_iload_n dX9_keeps_127 rfl
theorem X9_keeps_128 : iWp d mX9_keeps 128 [a0, a1, a2, a3] (.int x :: st) h Q = if x = 0 then iWp d mX9_keeps 139 [a0, a1, a2, a3] st h Q else iWp d mX9_keeps 131 [a0, a1, a2, a3] st h Q := w_ifc_eq dX9_keeps_128 rfl
theorem X9_keeps_131 : iWp d mX9_keeps 131 [.ref p, a1, a2, a3] st h Q = iWp d mX9_keeps 132 [.ref p, a1, a2, a3] (.ref p :: st) h Q := w_aload_n dX9_keeps_131 rfl
theorem X9_keeps_132 : iWp d mX9_keeps 132 [a0, a1, a2, .int x] st h Q = iWp d mX9_keeps 133 [a0, a1, a2, .int x] (.int x :: st) h Q := w_iload_n dX9_keeps_132 rfl
theorem X9_keeps_133 (he : iEv mX9_children [.ref p, .int x0] h (some (.int rv)) h2) (ho : iObj h p 9 = true) : iWp 8 mX9_keeps 133 [a0, a1, a2, a3] [.int x0, .ref p] h Q = iWp 8 mX9_keeps 136 [a0, a1, a2, a3] [.int rv] h2 Q := iWp_cV dX9_keeps_133 fK_9_178 rfl rfl ho (Nat.le_of_ble_eq_true rfl) (Nat.le_of_ble_eq_true rfl) rfl (Nat.le_of_ble_eq_true rfl) he rfl
theorem X9_keeps_136 : iWp d mX9_keeps 136 [a0, a1, a2, a3] (.int x :: st) h Q = if x ≤ 0 then iWp d mX9_keeps 141 [a0, a1, a2, a3] st h Q else iWp d mX9_keeps 139 [a0, a1, a2, a3] st h Q := w_ifc_le dX9_keeps_136 rfl
theorem X9_keeps_139 : iWp d mX9_keeps 139 [a0, a1, a2, a3] st h Q = iWp d mX9_keeps 140 [a0, a1, a2, a3] (.int 3 :: st) h Q := w_iconst dX9_keeps_139 rfl
theorem X9_keeps_140 : iWp d mX9_keeps 140 [a0, a1, a2, a3] [.int x] h Q = Q (some (.int x)) h := w_ireti dX9_keeps_140 rfl
theorem X9_keeps_141 : iWp d mX9_keeps 141 [.ref p, a1, a2, a3] st h Q = iWp d mX9_keeps 142 [.ref p, a1, a2, a3] (.ref p :: st) h Q := w_aload_n dX9_keeps_141 rfl
theorem X9_keeps_142 : iWp d mX9_keeps 142 [a0, a1, a2, a3] (.ref p :: st) h Q = iOb (iGet h p 9 20) (fun v => iWp d mX9_keeps 145 [a0, a1, a2, a3] (v :: st) h Q) := w_getf dX9_keeps_142 fF_9_47
theorem X9_keeps_145 : iWp d mX9_keeps 145 [a0, a1, a2, .int x] st h Q = iWp d mX9_keeps 146 [a0, a1, a2, .int x] (.int x :: st) h Q := w_iload_n dX9_keeps_145 rfl
theorem X9_keeps_146 : iWp d mX9_keeps 146 [a0, a1, a2, a3] (.int x :: .ref p :: st) h Q = iOb (iLdI h p x) (fun v => iWp d mX9_keeps 147 [a0, a1, a2, a3] (.int v :: st) h Q) := w_iaload dX9_keeps_146
theorem X9_keeps_147 : iWp d mX9_keeps 147 [.ref p, a1, a2, a3] st h Q = iWp d mX9_keeps 148 [.ref p, a1, a2, a3] (.ref p :: st) h Q := w_aload_n dX9_keeps_147 rfl
theorem X9_keeps_148 : iWp d mX9_keeps 148 [a0, a1, a2, a3] (.ref p :: st) h Q = iOb (iGet h p 9 8) (fun v => iWp d mX9_keeps 151 [a0, a1, a2, a3] (v :: st) h Q) := w_getf dX9_keeps_148 fF_9_25
theorem X9_keeps_151 : iWp d mX9_keeps 151 [a0, .int x, a2, a3] st h Q = iWp d mX9_keeps 152 [a0, .int x, a2, a3] (.int x :: st) h Q := w_iload_n dX9_keeps_151 rfl
theorem X9_keeps_152 : iWp d mX9_keeps 152 [a0, a1, a2, a3] st h Q = iWp d mX9_keeps 153 [a0, a1, a2, a3] (.int 2 :: st) h Q := w_iconst dX9_keeps_152 rfl
theorem X9_keeps_153 : iWp d mX9_keeps 153 [a0, a1, a2, a3] (.int y :: .int x :: st) h Q = iWp d mX9_keeps 154 [a0, a1, a2, a3] (.int (x + y) :: st) h Q := w_iadd dX9_keeps_153
theorem X9_keeps_154 : iWp d mX9_keeps 154 [a0, a1, a2, a3] (.int x :: .ref p :: st) h Q = iOb (iLdI h p x) (fun v => iWp d mX9_keeps 155 [a0, a1, a2, a3] (.int v :: st) h Q) := w_iaload dX9_keeps_154
theorem X9_keeps_155 : iWp d mX9_keeps 155 [a0, a1, a2, a3] (.int y :: .int x :: st) h Q = if x = y then iWp d mX9_keeps 160 [a0, a1, a2, a3] st h Q else iWp d mX9_keeps 158 [a0, a1, a2, a3] st h Q := w_icmp_eq dX9_keeps_155 rfl
theorem X9_keeps_158 : iWp d mX9_keeps 158 [a0, a1, a2, a3] st h Q = iWp d mX9_keeps 159 [a0, a1, a2, a3] (.int 2 :: st) h Q := w_iconst dX9_keeps_158 rfl
theorem X9_keeps_159 : iWp d mX9_keeps 159 [a0, a1, a2, a3] [.int x] h Q = Q (some (.int x)) h := w_ireti dX9_keeps_159 rfl
theorem X9_keeps_160 : iWp d mX9_keeps 160 [.ref p, a1, a2, a3] st h Q = iWp d mX9_keeps 161 [.ref p, a1, a2, a3] (.ref p :: st) h Q := w_aload_n dX9_keeps_160 rfl
theorem X9_keeps_161 : iWp d mX9_keeps 161 [a0, a1, a2, a3] st h Q = iWp d mX9_keeps 162 [a0, a1, a2, a3] (.int 1 :: st) h Q := w_iconst dX9_keeps_161 rfl
theorem X9_keeps_162 : iWp d mX9_keeps 162 [a0, a1, .int x, a3] st h Q = iWp d mX9_keeps 163 [a0, a1, .int x, a3] (.int x :: st) h Q := w_iload_n dX9_keeps_162 rfl
theorem X9_keeps_163 : iWp d mX9_keeps 163 [.ref p, a1, a2, a3] st h Q = iWp d mX9_keeps 164 [.ref p, a1, a2, a3] (.ref p :: st) h Q := w_aload_n dX9_keeps_163 rfl
theorem X9_keeps_164 : iWp d mX9_keeps 164 [a0, a1, a2, a3] (.ref p :: st) h Q = iOb (iGet h p 9 20) (fun v => iWp d mX9_keeps 167 [a0, a1, a2, a3] (v :: st) h Q) := w_getf dX9_keeps_164 fF_9_47
theorem X9_keeps_167 : iWp d mX9_keeps 167 [a0, a1, a2, .int x] st h Q = iWp d mX9_keeps 168 [a0, a1, a2, .int x] (.int x :: st) h Q := w_iload_n dX9_keeps_167 rfl
theorem X9_keeps_168 : iWp d mX9_keeps 168 [a0, a1, a2, a3] (.int x :: .ref p :: st) h Q = iOb (iLdI h p x) (fun v => iWp d mX9_keeps 169 [a0, a1, a2, a3] (.int v :: st) h Q) := w_iaload dX9_keeps_168
theorem X9_keeps_169 : iWp d mX9_keeps 169 [.ref p, a1, a2, a3] st h Q = iWp d mX9_keeps 170 [.ref p, a1, a2, a3] (.ref p :: st) h Q := w_aload_n dX9_keeps_169 rfl
theorem X9_keeps_170 : iWp d mX9_keeps 170 [a0, a1, a2, .int x] st h Q = iWp d mX9_keeps 171 [a0, a1, a2, .int x] (.int x :: st) h Q := w_iload_n dX9_keeps_170 rfl
theorem X9_keeps_171 (he : iEv mX9_parentKey [.ref p, .int x0] h (some (.int rv)) h2) (ho : iObj h p 9 = true) : iWp 8 mX9_keeps 171 [a0, a1, a2, a3] [.int x0, .ref p, .int r0, .int r1, .int r2, .ref t3] h Q = iWp 8 mX9_keeps 174 [a0, a1, a2, a3] [.int rv, .int r0, .int r1, .int r2, .ref t3] h2 Q := iWp_cV dX9_keeps_171 fK_9_172 rfl rfl ho (Nat.le_of_ble_eq_true rfl) (Nat.le_of_ble_eq_true rfl) rfl (Nat.le_of_ble_eq_true rfl) he rfl
theorem X9_keeps_174 : iWp d mX9_keeps 174 [.ref p, a1, a2, a3] st h Q = iWp d mX9_keeps 175 [.ref p, a1, a2, a3] (.ref p :: st) h Q := w_aload_n dX9_keeps_174 rfl
theorem X9_keeps_175 : iWp d mX9_keeps 175 [a0, a1, a2, .int x] st h Q = iWp d mX9_keeps 176 [a0, a1, a2, .int x] (.int x :: st) h Q := w_iload_n dX9_keeps_175 rfl
theorem X9_keeps_176 (he : iEv mX9_place [.ref p, .int x0] h (some (.int rv)) h2) (ho : iObj h p 9 = true) : iWp 8 mX9_keeps 176 [a0, a1, a2, a3] [.int x0, .ref p, .int r0, .int r1, .int r2, .int r3, .ref t4] h Q = iWp 8 mX9_keeps 179 [a0, a1, a2, a3] [.int rv, .int r0, .int r1, .int r2, .int r3, .ref t4] h2 Q := iWp_cV dX9_keeps_176 fK_9_175 rfl rfl ho (Nat.le_of_ble_eq_true rfl) (Nat.le_of_ble_eq_true rfl) rfl (Nat.le_of_ble_eq_true rfl) he rfl
theorem X9_keeps_179 : iWp d mX9_keeps 179 [a0, a1, a2, a3] st h Q = iWp d mX9_keeps 180 [a0, a1, a2, a3] (.int 0 :: st) h Q := w_iconst dX9_keeps_179 rfl
theorem X9_keeps_180 : iWp d mX9_keeps 180 [a0, a1, a2, a3] st h Q = iWp d mX9_keeps 181 [a0, a1, a2, a3] (.int 0 :: st) h Q := w_iconst dX9_keeps_180 rfl
theorem X9_keeps_181 (he : iEv mX9_goes [.ref p, .int x0, .int x1, .int x2, .int x3, .int x4, .int x5, .int x6] h none h2) (ho : iObj h p 9 = true) : iWp 8 mX9_keeps 181 [a0, a1, a2, a3] [.int x6, .int x5, .int x4, .int x3, .int x2, .int x1, .int x0, .ref p] h Q = iWp 8 mX9_keeps 184 [a0, a1, a2, a3] [] h2 Q := iWp_cV dX9_keeps_181 fK_9_233 rfl rfl ho (Nat.le_of_ble_eq_true rfl) (Nat.le_of_ble_eq_true rfl) rfl (Nat.le_of_ble_eq_true rfl) he rfl
theorem X9_keeps_184 : iWp d mX9_keeps 184 [a0, a1, a2, a3] st h Q = iWp d mX9_keeps 185 [a0, a1, a2, a3] (.int 0 :: st) h Q := w_iconst dX9_keeps_184 rfl
theorem X9_keeps_185 : iWp d mX9_keeps 185 [a0, a1, a2, a3] [.int x] h Q = Q (some (.int x)) h := w_ireti dX9_keeps_185 rfl
theorem X9_keeps_186 : iWp d mX9_keeps 186 [.ref p, a1, a2, a3] st h Q = iWp d mX9_keeps 187 [.ref p, a1, a2, a3] (.ref p :: st) h Q := w_aload_n dX9_keeps_186 rfl
theorem X9_keeps_187 : iWp d mX9_keeps 187 [a0, .int x, a2, a3] st h Q = iWp d mX9_keeps 188 [a0, .int x, a2, a3] (.int x :: st) h Q := w_iload_n dX9_keeps_187 rfl
theorem X9_keeps_188 : iWp d mX9_keeps 188 [a0, a1, .int x, a3] st h Q = iWp d mX9_keeps 189 [a0, a1, .int x, a3] (.int x :: st) h Q := w_iload_n dX9_keeps_188 rfl
theorem X9_keeps_189 : iWp d mX9_keeps 189 [a0, a1, a2, .int x] st h Q = iWp d mX9_keeps 190 [a0, a1, a2, .int x] (.int x :: st) h Q := w_iload_n dX9_keeps_189 rfl
theorem X9_keeps_190 (he : iEv mX9_gives [.ref p, .int x0, .int x1, .int x2] h (some (.int rv)) h2) (ho : iObj h p 9 = true) : iWp 8 mX9_keeps 190 [a0, a1, a2, a3] [.int x2, .int x1, .int x0, .ref p] h Q = iWp 8 mX9_keeps 193 [a0, a1, a2, a3] [.int rv] h2 Q := iWp_cV dX9_keeps_190 fK_9_276 rfl rfl ho (Nat.le_of_ble_eq_true rfl) (Nat.le_of_ble_eq_true rfl) rfl (Nat.le_of_ble_eq_true rfl) he rfl
theorem X9_keeps_193 : iWp d mX9_keeps 193 [a0, a1, a2, a3] [.int x] h Q = Q (some (.int x)) h := w_ireti dX9_keeps_193 rfl
theorem X9_keeps_194 : iWp d mX9_keeps 194 [.ref p, a1, a2, a3] st h Q = iWp d mX9_keeps 195 [.ref p, a1, a2, a3] (.ref p :: st) h Q := w_aload_n dX9_keeps_194 rfl
theorem X9_keeps_195 : iWp d mX9_keeps 195 [a0, .int x, a2, a3] st h Q = iWp d mX9_keeps 196 [a0, .int x, a2, a3] (.int x :: st) h Q := w_iload_n dX9_keeps_195 rfl
theorem X9_keeps_196 : iWp d mX9_keeps 196 [a0, a1, .int x, a3] st h Q = iWp d mX9_keeps 197 [a0, a1, .int x, a3] (.int x :: st) h Q := w_iload_n dX9_keeps_196 rfl
theorem X9_keeps_197 : iWp d mX9_keeps 197 [a0, a1, a2, .int x] st h Q = iWp d mX9_keeps 198 [a0, a1, a2, .int x] (.int x :: st) h Q := w_iload_n dX9_keeps_197 rfl
theorem X9_keeps_198 (he : iEv mX9_keepsMove [.ref p, .int x0, .int x1, .int x2] h (some (.int rv)) h2) (ho : iObj h p 9 = true) : iWp 8 mX9_keeps 198 [a0, a1, a2, a3] [.int x2, .int x1, .int x0, .ref p] h Q = iWp 8 mX9_keeps 201 [a0, a1, a2, a3] [.int rv] h2 Q := iWp_cV dX9_keeps_198 fK_9_279 rfl rfl ho (Nat.le_of_ble_eq_true rfl) (Nat.le_of_ble_eq_true rfl) rfl (Nat.le_of_ble_eq_true rfl) he rfl
theorem X9_keeps_201 : iWp d mX9_keeps 201 [a0, a1, a2, a3] [.int x] h Q = Q (some (.int x)) h := w_ireti dX9_keeps_201 rfl
theorem I9_keeps {Q : Option Value → iHp → Prop} (hw : iWp 8 mX9_keeps 0 [.ref p, .int x0, iU, iU] [] h Q) : ∃ r h1, iEv mX9_keeps [.ref p, .int x0] h r h1 ∧ Q r h1 := iEv_of (by rfl) rfl hw
theorem J9_keeps {r : Option Value} {h1 : iHp} (hw : iWp 8 mX9_keeps 0 [.ref p, .int x0, iU, iU] [] h (fun r' h' => r' = r ∧ h' = h1)) : iEv mX9_keeps [.ref p, .int x0] h r h1 := iEv_ev (by rfl) rfl hw
theorem X9_keepsMove_0 : iWp d mX9_keepsMove 0 [.ref p, a1, a2, a3, a4, a5, a6] st h Q = iWp d mX9_keepsMove 1 [.ref p, a1, a2, a3, a4, a5, a6] (.ref p :: st) h Q := w_aload_n dX9_keepsMove_0 rfl
theorem X9_keepsMove_1 : iWp d mX9_keepsMove 1 [.ref p, a1, a2, a3, a4, a5, a6] st h Q = iWp d mX9_keepsMove 2 [.ref p, a1, a2, a3, a4, a5, a6] (.ref p :: st) h Q := w_aload_n dX9_keepsMove_1 rfl
theorem X9_keepsMove_2 : iWp d mX9_keepsMove 2 [a0, a1, a2, a3, a4, a5, a6] (.ref p :: st) h Q = iOb (iGet h p 9 8) (fun v => iWp d mX9_keepsMove 5 [a0, a1, a2, a3, a4, a5, a6] (v :: st) h Q) := w_getf dX9_keepsMove_2 fF_9_25
theorem X9_keepsMove_5 : iWp d mX9_keepsMove 5 [a0, .int x, a2, a3, a4, a5, a6] st h Q = iWp d mX9_keepsMove 6 [a0, .int x, a2, a3, a4, a5, a6] (.int x :: st) h Q := w_iload_n dX9_keepsMove_5 rfl
theorem X9_keepsMove_6 : iWp d mX9_keepsMove 6 [a0, a1, a2, a3, a4, a5, a6] st h Q = iWp d mX9_keepsMove 7 [a0, a1, a2, a3, a4, a5, a6] (.int 5 :: st) h Q := w_iconst dX9_keepsMove_6 rfl
theorem X9_keepsMove_7 : iWp d mX9_keepsMove 7 [a0, a1, a2, a3, a4, a5, a6] (.int y :: .int x :: st) h Q = iWp d mX9_keepsMove 8 [a0, a1, a2, a3, a4, a5, a6] (.int (x + y) :: st) h Q := w_iadd dX9_keepsMove_7
theorem X9_keepsMove_8 : iWp d mX9_keepsMove 8 [a0, a1, a2, a3, a4, a5, a6] (.int x :: .ref p :: st) h Q = iOb (iLdI h p x) (fun v => iWp d mX9_keepsMove 9 [a0, a1, a2, a3, a4, a5, a6] (.int v :: st) h Q) := w_iaload dX9_keepsMove_8
theorem X9_keepsMove_9 (he : iEv mX9_find [.ref p, .int x0] h (some (.int rv)) h2) (ho : iObj h p 9 = true) : iWp 7 mX9_keepsMove 9 [a0, a1, a2, a3, a4, a5, a6] [.int x0, .ref p] h Q = iWp 7 mX9_keepsMove 12 [a0, a1, a2, a3, a4, a5, a6] [.int rv] h2 Q := iWp_cV dX9_keepsMove_9 fK_9_153 rfl rfl ho (Nat.le_of_ble_eq_true rfl) (Nat.le_of_ble_eq_true rfl) rfl (Nat.le_of_ble_eq_true rfl) he rfl
theorem X9_keepsMove_12 : iWp d mX9_keepsMove 12 [a0, a1, a2, a3, a4, a5, a6] (.int x :: st) h Q = iWp d mX9_keepsMove 14 [a0, a1, a2, iClr a3, .int x, a5, a6] st h Q := w_istore dX9_keepsMove_12 (Nat.le_of_ble_eq_true rfl) rfl
theorem X9_keepsMove_14 : iWp d mX9_keepsMove 14 [a0, a1, a2, .int x, a4, a5, a6] st h Q = iWp d mX9_keepsMove 15 [a0, a1, a2, .int x, a4, a5, a6] (.int x :: st) h Q := w_iload_n dX9_keepsMove_14 rfl
theorem X9_keepsMove_15 : iWp d mX9_keepsMove 15 [a0, a1, a2, a3, a4, a5, a6] st h Q = iWp d mX9_keepsMove 16 [a0, a1, a2, a3, a4, a5, a6] (.int (-1) :: st) h Q := w_iconst dX9_keepsMove_15 rfl
theorem X9_keepsMove_16 : iWp d mX9_keepsMove 16 [a0, a1, a2, a3, a4, a5, a6] (.int y :: .int x :: st) h Q = if x = y then iWp d mX9_keepsMove 25 [a0, a1, a2, a3, a4, a5, a6] st h Q else iWp d mX9_keepsMove 19 [a0, a1, a2, a3, a4, a5, a6] st h Q := w_icmp_eq dX9_keepsMove_16 rfl
theorem X9_keepsMove_19 : iWp d mX9_keepsMove 19 [a0, a1, a2, a3, .int x, a5, a6] st h Q = iWp d mX9_keepsMove 21 [a0, a1, a2, a3, .int x, a5, a6] (.int x :: st) h Q := w_iload dX9_keepsMove_19 rfl
theorem X9_keepsMove_21 : iWp d mX9_keepsMove 21 [a0, a1, a2, a3, a4, a5, a6] st h Q = iWp d mX9_keepsMove 22 [a0, a1, a2, a3, a4, a5, a6] (.int (-1) :: st) h Q := w_iconst dX9_keepsMove_21 rfl
theorem X9_keepsMove_22 : iWp d mX9_keepsMove 22 [a0, a1, a2, a3, a4, a5, a6] (.int y :: .int x :: st) h Q = if x = y then iWp d mX9_keepsMove 25 [a0, a1, a2, a3, a4, a5, a6] st h Q else iWp d mX9_keepsMove 27 [a0, a1, a2, a3, a4, a5, a6] st h Q := w_icmp_ne dX9_keepsMove_22 rfl
theorem X9_keepsMove_25 : iWp d mX9_keepsMove 25 [a0, a1, a2, a3, a4, a5, a6] st h Q = iWp d mX9_keepsMove 26 [a0, a1, a2, a3, a4, a5, a6] (.int 1 :: st) h Q := w_iconst dX9_keepsMove_25 rfl
theorem X9_keepsMove_26 : iWp d mX9_keepsMove 26 [a0, a1, a2, a3, a4, a5, a6] [.int x] h Q = Q (some (.int x)) h := w_ireti dX9_keepsMove_26 rfl
theorem X9_keepsMove_27 : iWp d mX9_keepsMove 27 [a0, a1, a2, .int x, a4, a5, a6] st h Q = iWp d mX9_keepsMove 28 [a0, a1, a2, .int x, a4, a5, a6] (.int x :: st) h Q := w_iload_n dX9_keepsMove_27 rfl
theorem X9_keepsMove_28 : iWp d mX9_keepsMove 28 [a0, a1, a2, a3, a4, a5, a6] (.int x :: st) h Q = if x = 0 then iWp d mX9_keepsMove 41 [a0, a1, a2, a3, a4, a5, a6] st h Q else iWp d mX9_keepsMove 31 [a0, a1, a2, a3, a4, a5, a6] st h Q := w_ifc_eq dX9_keepsMove_28 rfl
theorem X9_keepsMove_31 : iWp d mX9_keepsMove 31 [.ref p, a1, a2, a3, a4, a5, a6] st h Q = iWp d mX9_keepsMove 32 [.ref p, a1, a2, a3, a4, a5, a6] (.ref p :: st) h Q := w_aload_n dX9_keepsMove_31 rfl
theorem X9_keepsMove_32 : iWp d mX9_keepsMove 32 [a0, a1, a2, a3, .int x, a5, a6] st h Q = iWp d mX9_keepsMove 34 [a0, a1, a2, a3, .int x, a5, a6] (.int x :: st) h Q := w_iload dX9_keepsMove_32 rfl
theorem X9_keepsMove_34 : iWp d mX9_keepsMove 34 [a0, a1, a2, .int x, a4, a5, a6] st h Q = iWp d mX9_keepsMove 35 [a0, a1, a2, .int x, a4, a5, a6] (.int x :: st) h Q := w_iload_n dX9_keepsMove_34 rfl
theorem X9_keepsMove_35 (he : iEv mX9_isBelow [.ref p, .int x0, .int x1] h (some (.int rv)) h2) (ho : iObj h p 9 = true) : iWp 7 mX9_keepsMove 35 [a0, a1, a2, a3, a4, a5, a6] [.int x1, .int x0, .ref p] h Q = iWp 7 mX9_keepsMove 38 [a0, a1, a2, a3, a4, a5, a6] [.int rv] h2 Q := iWp_cV dX9_keepsMove_35 fK_9_184 rfl rfl ho (Nat.le_of_ble_eq_true rfl) (Nat.le_of_ble_eq_true rfl) rfl (Nat.le_of_ble_eq_true rfl) he rfl
theorem X9_keepsMove_38 : iWp d mX9_keepsMove 38 [a0, a1, a2, a3, a4, a5, a6] (.int x :: st) h Q = if x = 0 then iWp d mX9_keepsMove 43 [a0, a1, a2, a3, a4, a5, a6] st h Q else iWp d mX9_keepsMove 41 [a0, a1, a2, a3, a4, a5, a6] st h Q := w_ifc_eq dX9_keepsMove_38 rfl
theorem X9_keepsMove_41 : iWp d mX9_keepsMove 41 [a0, a1, a2, a3, a4, a5, a6] st h Q = iWp d mX9_keepsMove 42 [a0, a1, a2, a3, a4, a5, a6] (.int 5 :: st) h Q := w_iconst dX9_keepsMove_41 rfl
theorem X9_keepsMove_42 : iWp d mX9_keepsMove 42 [a0, a1, a2, a3, a4, a5, a6] [.int x] h Q = Q (some (.int x)) h := w_ireti dX9_keepsMove_42 rfl
theorem X9_keepsMove_43 : iWp d mX9_keepsMove 43 [.ref p, a1, a2, a3, a4, a5, a6] st h Q = iWp d mX9_keepsMove 44 [.ref p, a1, a2, a3, a4, a5, a6] (.ref p :: st) h Q := w_aload_n dX9_keepsMove_43 rfl
theorem X9_keepsMove_44 : iWp d mX9_keepsMove 44 [a0, a1, a2, .int x, a4, a5, a6] st h Q = iWp d mX9_keepsMove 45 [a0, a1, a2, .int x, a4, a5, a6] (.int x :: st) h Q := w_iload_n dX9_keepsMove_44 rfl
theorem X9_keepsMove_45 (he : iEv mX9_parentKey [.ref p, .int x0] h (some (.int rv)) h2) (ho : iObj h p 9 = true) : iWp 7 mX9_keepsMove 45 [a0, a1, a2, a3, a4, a5, a6] [.int x0, .ref p] h Q = iWp 7 mX9_keepsMove 48 [a0, a1, a2, a3, a4, a5, a6] [.int rv] h2 Q := iWp_cV dX9_keepsMove_45 fK_9_172 rfl rfl ho (Nat.le_of_ble_eq_true rfl) (Nat.le_of_ble_eq_true rfl) rfl (Nat.le_of_ble_eq_true rfl) he rfl
theorem X9_keepsMove_48 : iWp d mX9_keepsMove 48 [a0, a1, a2, a3, a4, a5, a6] (.int x :: st) h Q = iWp d mX9_keepsMove 50 [a0, a1, a2, a3, iClr a4, .int x, a6] st h Q := w_istore dX9_keepsMove_48 (Nat.le_of_ble_eq_true rfl) rfl
theorem X9_keepsMove_50 : iWp d mX9_keepsMove 50 [a0, a1, a2, a3, a4, .int x, a6] st h Q = iWp d mX9_keepsMove 52 [a0, a1, a2, a3, a4, .int x, a6] (.int x :: st) h Q := w_iload dX9_keepsMove_50 rfl
theorem X9_keepsMove_52 : iWp d mX9_keepsMove 52 [.ref p, a1, a2, a3, a4, a5, a6] st h Q = iWp d mX9_keepsMove 53 [.ref p, a1, a2, a3, a4, a5, a6] (.ref p :: st) h Q := w_aload_n dX9_keepsMove_52 rfl
theorem X9_keepsMove_53 : iWp d mX9_keepsMove 53 [a0, a1, a2, a3, a4, a5, a6] (.ref p :: st) h Q = iOb (iGet h p 9 8) (fun v => iWp d mX9_keepsMove 56 [a0, a1, a2, a3, a4, a5, a6] (v :: st) h Q) := w_getf dX9_keepsMove_53 fF_9_25
theorem X9_keepsMove_56 : iWp d mX9_keepsMove 56 [a0, .int x, a2, a3, a4, a5, a6] st h Q = iWp d mX9_keepsMove 57 [a0, .int x, a2, a3, a4, a5, a6] (.int x :: st) h Q := w_iload_n dX9_keepsMove_56 rfl
theorem X9_keepsMove_57 : iWp d mX9_keepsMove 57 [a0, a1, a2, a3, a4, a5, a6] st h Q = iWp d mX9_keepsMove 58 [a0, a1, a2, a3, a4, a5, a6] (.int 3 :: st) h Q := w_iconst dX9_keepsMove_57 rfl
theorem X9_keepsMove_58 : iWp d mX9_keepsMove 58 [a0, a1, a2, a3, a4, a5, a6] (.int y :: .int x :: st) h Q = iWp d mX9_keepsMove 59 [a0, a1, a2, a3, a4, a5, a6] (.int (x + y) :: st) h Q := w_iadd dX9_keepsMove_58
theorem X9_keepsMove_59 : iWp d mX9_keepsMove 59 [a0, a1, a2, a3, a4, a5, a6] (.int x :: .ref p :: st) h Q = iOb (iLdI h p x) (fun v => iWp d mX9_keepsMove 60 [a0, a1, a2, a3, a4, a5, a6] (.int v :: st) h Q) := w_iaload dX9_keepsMove_59
theorem X9_keepsMove_60 : iWp d mX9_keepsMove 60 [a0, a1, a2, a3, a4, a5, a6] (.int y :: .int x :: st) h Q = if x = y then iWp d mX9_keepsMove 83 [a0, a1, a2, a3, a4, a5, a6] st h Q else iWp d mX9_keepsMove 63 [a0, a1, a2, a3, a4, a5, a6] st h Q := w_icmp_eq dX9_keepsMove_60 rfl
theorem X9_keepsMove_63 : iWp d mX9_keepsMove 63 [a0, a1, a2, a3, a4, .int x, a6] st h Q = iWp d mX9_keepsMove 65 [a0, a1, a2, a3, a4, .int x, a6] (.int x :: st) h Q := w_iload dX9_keepsMove_63 rfl
theorem X9_keepsMove_65 : iWp d mX9_keepsMove 65 [.ref p, a1, a2, a3, a4, a5, a6] st h Q = iWp d mX9_keepsMove 66 [.ref p, a1, a2, a3, a4, a5, a6] (.ref p :: st) h Q := w_aload_n dX9_keepsMove_65 rfl
theorem X9_keepsMove_66 : iWp d mX9_keepsMove 66 [a0, a1, a2, a3, a4, a5, a6] (.ref p :: st) h Q = iOb (iGet h p 9 8) (fun v => iWp d mX9_keepsMove 69 [a0, a1, a2, a3, a4, a5, a6] (v :: st) h Q) := w_getf dX9_keepsMove_66 fF_9_25
theorem X9_keepsMove_69 : iWp d mX9_keepsMove 69 [a0, .int x, a2, a3, a4, a5, a6] st h Q = iWp d mX9_keepsMove 70 [a0, .int x, a2, a3, a4, a5, a6] (.int x :: st) h Q := w_iload_n dX9_keepsMove_69 rfl
theorem X9_keepsMove_70 : iWp d mX9_keepsMove 70 [a0, a1, a2, a3, a4, a5, a6] st h Q = iWp d mX9_keepsMove 71 [a0, a1, a2, a3, a4, a5, a6] (.int 5 :: st) h Q := w_iconst dX9_keepsMove_70 rfl
theorem X9_keepsMove_71 : iWp d mX9_keepsMove 71 [a0, a1, a2, a3, a4, a5, a6] (.int y :: .int x :: st) h Q = iWp d mX9_keepsMove 72 [a0, a1, a2, a3, a4, a5, a6] (.int (x + y) :: st) h Q := w_iadd dX9_keepsMove_71
theorem X9_keepsMove_72 : iWp d mX9_keepsMove 72 [a0, a1, a2, a3, a4, a5, a6] (.int x :: .ref p :: st) h Q = iOb (iLdI h p x) (fun v => iWp d mX9_keepsMove 73 [a0, a1, a2, a3, a4, a5, a6] (.int v :: st) h Q) := w_iaload dX9_keepsMove_72
theorem X9_keepsMove_73 : iWp d mX9_keepsMove 73 [a0, a1, a2, a3, a4, a5, a6] (.int y :: .int x :: st) h Q = if x = y then iWp d mX9_keepsMove 76 [a0, a1, a2, a3, a4, a5, a6] st h Q else iWp d mX9_keepsMove 80 [a0, a1, a2, a3, a4, a5, a6] st h Q := w_icmp_ne dX9_keepsMove_73 rfl
theorem X9_keepsMove_76 : iWp d mX9_keepsMove 76 [a0, a1, a2, a3, a4, a5, a6] st h Q = iWp d mX9_keepsMove 77 [a0, a1, a2, a3, a4, a5, a6] (.int 0 :: st) h Q := w_iconst dX9_keepsMove_76 rfl
theorem X9_keepsMove_77 : iWp d mX9_keepsMove 77 [a0, a1, a2, a3, a4, a5, a6] st h Q = iWp d mX9_keepsMove 82 [a0, a1, a2, a3, a4, a5, a6] st h Q := w_goto dX9_keepsMove_77 rfl
theorem X9_keepsMove_80 : iWp d mX9_keepsMove 80 [a0, a1, a2, a3, a4, a5, a6] st h Q = iWp d mX9_keepsMove 82 [a0, a1, a2, a3, a4, a5, a6] (.int 6 :: st) h Q := w_bipush dX9_keepsMove_80 rfl
theorem X9_keepsMove_82 : iWp d mX9_keepsMove 82 [a0, a1, a2, a3, a4, a5, a6] [.int x] h Q = Q (some (.int x)) h := w_ireti dX9_keepsMove_82 rfl
theorem X9_keepsMove_83 : iWp d mX9_keepsMove 83 [.ref p, a1, a2, a3, a4, a5, a6] st h Q = iWp d mX9_keepsMove 84 [.ref p, a1, a2, a3, a4, a5, a6] (.ref p :: st) h Q := w_aload_n dX9_keepsMove_83 rfl
theorem X9_keepsMove_84 : iWp d mX9_keepsMove 84 [a0, a1, a2, a3, .int x, a5, a6] st h Q = iWp d mX9_keepsMove 86 [a0, a1, a2, a3, .int x, a5, a6] (.int x :: st) h Q := w_iload dX9_keepsMove_84 rfl
theorem X9_keepsMove_86 (he : iEv mX9_children [.ref p, .int x0] h (some (.int rv)) h2) (ho : iObj h p 9 = true) : iWp 7 mX9_keepsMove 86 [a0, a1, a2, a3, a4, a5, a6] [.int x0, .ref p] h Q = iWp 7 mX9_keepsMove 89 [a0, a1, a2, a3, a4, a5, a6] [.int rv] h2 Q := iWp_cV dX9_keepsMove_86 fK_9_178 rfl rfl ho (Nat.le_of_ble_eq_true rfl) (Nat.le_of_ble_eq_true rfl) rfl (Nat.le_of_ble_eq_true rfl) he rfl
theorem X9_keepsMove_89 : iWp d mX9_keepsMove 89 [.ref p, a1, a2, a3, a4, a5, a6] st h Q = iWp d mX9_keepsMove 90 [.ref p, a1, a2, a3, a4, a5, a6] (.ref p :: st) h Q := w_aload_n dX9_keepsMove_89 rfl
theorem X9_keepsMove_90 : iWp d mX9_keepsMove 90 [a0, a1, a2, .int x, a4, a5, a6] st h Q = iWp d mX9_keepsMove 91 [a0, a1, a2, .int x, a4, a5, a6] (.int x :: st) h Q := w_iload_n dX9_keepsMove_90 rfl
theorem X9_keepsMove_91 (he : iEv mX9_parent [.ref p, .int x0] h (some (.int rv)) h2) (ho : iObj h p 9 = true) : iWp 7 mX9_keepsMove 91 [a0, a1, a2, a3, a4, a5, a6] [.int x0, .ref p, .int r0] h Q = iWp 7 mX9_keepsMove 94 [a0, a1, a2, a3, a4, a5, a6] [.int rv, .int r0] h2 Q := iWp_cV dX9_keepsMove_91 fK_9_130 rfl rfl ho (Nat.le_of_ble_eq_true rfl) (Nat.le_of_ble_eq_true rfl) rfl (Nat.le_of_ble_eq_true rfl) he rfl
theorem X9_keepsMove_94 : iWp d mX9_keepsMove 94 [a0, a1, a2, a3, .int x, a5, a6] st h Q = iWp d mX9_keepsMove 96 [a0, a1, a2, a3, .int x, a5, a6] (.int x :: st) h Q := w_iload dX9_keepsMove_94 rfl
theorem X9_keepsMove_96 : iWp d mX9_keepsMove 96 [a0, a1, a2, a3, a4, a5, a6] (.int y :: .int x :: st) h Q = if x = y then iWp d mX9_keepsMove 99 [a0, a1, a2, a3, a4, a5, a6] st h Q else iWp d mX9_keepsMove 103 [a0, a1, a2, a3, a4, a5, a6] st h Q := w_icmp_ne dX9_keepsMove_96 rfl
theorem X9_keepsMove_99 : iWp d mX9_keepsMove 99 [a0, a1, a2, a3, a4, a5, a6] st h Q = iWp d mX9_keepsMove 100 [a0, a1, a2, a3, a4, a5, a6] (.int 1 :: st) h Q := w_iconst dX9_keepsMove_99 rfl
theorem X9_keepsMove_100 : iWp d mX9_keepsMove 100 [a0, a1, a2, a3, a4, a5, a6] st h Q = iWp d mX9_keepsMove 104 [a0, a1, a2, a3, a4, a5, a6] st h Q := w_goto dX9_keepsMove_100 rfl
theorem X9_keepsMove_103 : iWp d mX9_keepsMove 103 [a0, a1, a2, a3, a4, a5, a6] st h Q = iWp d mX9_keepsMove 104 [a0, a1, a2, a3, a4, a5, a6] (.int 0 :: st) h Q := w_iconst dX9_keepsMove_103 rfl
theorem X9_keepsMove_104 : iWp d mX9_keepsMove 104 [a0, a1, a2, a3, a4, a5, a6] (.int y :: .int x :: st) h Q = iWp d mX9_keepsMove 105 [a0, a1, a2, a3, a4, a5, a6] (.int (x - y) :: st) h Q := w_isub dX9_keepsMove_104
theorem X9_keepsMove_105 : iWp d mX9_keepsMove 105 [a0, a1, a2, a3, a4, a5, a6] (.int x :: st) h Q = iWp d mX9_keepsMove 107 [a0, a1, a2, a3, a4, iClr a5, .int x] st h Q := w_istore dX9_keepsMove_105 (Nat.le_of_ble_eq_true rfl) rfl
theorem X9_keepsMove_107 : iWp d mX9_keepsMove 107 [.ref p, a1, a2, a3, a4, a5, a6] st h Q = iWp d mX9_keepsMove 108 [.ref p, a1, a2, a3, a4, a5, a6] (.ref p :: st) h Q := w_aload_n dX9_keepsMove_107 rfl
theorem X9_keepsMove_108 : iWp d mX9_keepsMove 108 [a0, a1, a2, a3, a4, a5, a6] st h Q = iWp d mX9_keepsMove 109 [a0, a1, a2, a3, a4, a5, a6] (.int 3 :: st) h Q := w_iconst dX9_keepsMove_108 rfl
theorem X9_keepsMove_109 : iWp d mX9_keepsMove 109 [a0, a1, .int x, a3, a4, a5, a6] st h Q = iWp d mX9_keepsMove 110 [a0, a1, .int x, a3, a4, a5, a6] (.int x :: st) h Q := w_iload_n dX9_keepsMove_109 rfl
theorem X9_keepsMove_110 : iWp d mX9_keepsMove 110 [a0, a1, a2, a3, a4, a5, a6] st h Q = iWp d mX9_keepsMove 111 [a0, a1, a2, a3, a4, a5, a6] (.int 0 :: st) h Q := w_iconst dX9_keepsMove_110 rfl
theorem X9_keepsMove_111 : iWp d mX9_keepsMove 111 [a0, a1, a2, a3, a4, .int x, a6] st h Q = iWp d mX9_keepsMove 113 [a0, a1, a2, a3, a4, .int x, a6] (.int x :: st) h Q := w_iload dX9_keepsMove_111 rfl
theorem X9_keepsMove_113 : iWp d mX9_keepsMove 113 [.ref p, a1, a2, a3, a4, a5, a6] st h Q = iWp d mX9_keepsMove 114 [.ref p, a1, a2, a3, a4, a5, a6] (.ref p :: st) h Q := w_aload_n dX9_keepsMove_113 rfl
theorem X9_keepsMove_114 : iWp d mX9_keepsMove 114 [a0, a1, a2, .int x, a4, a5, a6] st h Q = iWp d mX9_keepsMove 115 [a0, a1, a2, .int x, a4, a5, a6] (.int x :: st) h Q := w_iload_n dX9_keepsMove_114 rfl
theorem X9_keepsMove_115 (he : iEv mX9_place [.ref p, .int x0] h (some (.int rv)) h2) (ho : iObj h p 9 = true) : iWp 7 mX9_keepsMove 115 [a0, a1, a2, a3, a4, a5, a6] [.int x0, .ref p, .int r0, .int r1, .int r2, .int r3, .ref t4] h Q = iWp 7 mX9_keepsMove 118 [a0, a1, a2, a3, a4, a5, a6] [.int rv, .int r0, .int r1, .int r2, .int r3, .ref t4] h2 Q := iWp_cV dX9_keepsMove_115 fK_9_175 rfl rfl ho (Nat.le_of_ble_eq_true rfl) (Nat.le_of_ble_eq_true rfl) rfl (Nat.le_of_ble_eq_true rfl) he rfl
theorem X9_keepsMove_118 : iWp d mX9_keepsMove 118 [.ref p, a1, a2, a3, a4, a5, a6] st h Q = iWp d mX9_keepsMove 119 [.ref p, a1, a2, a3, a4, a5, a6] (.ref p :: st) h Q := w_aload_n dX9_keepsMove_118 rfl
theorem X9_keepsMove_119 : iWp d mX9_keepsMove 119 [a0, a1, a2, a3, a4, a5, a6] (.ref p :: st) h Q = iOb (iGet h p 9 8) (fun v => iWp d mX9_keepsMove 122 [a0, a1, a2, a3, a4, a5, a6] (v :: st) h Q) := w_getf dX9_keepsMove_119 fF_9_25
theorem X9_keepsMove_122 : iWp d mX9_keepsMove 122 [a0, .int x, a2, a3, a4, a5, a6] st h Q = iWp d mX9_keepsMove 123 [a0, .int x, a2, a3, a4, a5, a6] (.int x :: st) h Q := w_iload_n dX9_keepsMove_122 rfl
theorem X9_keepsMove_123 : iWp d mX9_keepsMove 123 [a0, a1, a2, a3, a4, a5, a6] st h Q = iWp d mX9_keepsMove 124 [a0, a1, a2, a3, a4, a5, a6] (.int 5 :: st) h Q := w_iconst dX9_keepsMove_123 rfl
theorem X9_keepsMove_124 : iWp d mX9_keepsMove 124 [a0, a1, a2, a3, a4, a5, a6] (.int y :: .int x :: st) h Q = iWp d mX9_keepsMove 125 [a0, a1, a2, a3, a4, a5, a6] (.int (x + y) :: st) h Q := w_iadd dX9_keepsMove_124
theorem X9_keepsMove_125 : iWp d mX9_keepsMove 125 [a0, a1, a2, a3, a4, a5, a6] (.int x :: .ref p :: st) h Q = iOb (iLdI h p x) (fun v => iWp d mX9_keepsMove 126 [a0, a1, a2, a3, a4, a5, a6] (.int v :: st) h Q) := w_iaload dX9_keepsMove_125
theorem X9_keepsMove_126 : iWp d mX9_keepsMove 126 [.ref p, a1, a2, a3, a4, a5, a6] st h Q = iWp d mX9_keepsMove 127 [.ref p, a1, a2, a3, a4, a5, a6] (.ref p :: st) h Q := w_aload_n dX9_keepsMove_126 rfl
theorem X9_keepsMove_127 : iWp d mX9_keepsMove 127 [a0, a1, a2, a3, a4, a5, a6] (.ref p :: st) h Q = iOb (iGet h p 9 8) (fun v => iWp d mX9_keepsMove 130 [a0, a1, a2, a3, a4, a5, a6] (v :: st) h Q) := w_getf dX9_keepsMove_127 fF_9_25
theorem X9_keepsMove_130 : iWp d mX9_keepsMove 130 [a0, .int x, a2, a3, a4, a5, a6] st h Q = iWp d mX9_keepsMove 131 [a0, .int x, a2, a3, a4, a5, a6] (.int x :: st) h Q := w_iload_n dX9_keepsMove_130 rfl
theorem X9_keepsMove_131 : iWp d mX9_keepsMove 131 [a0, a1, a2, a3, a4, a5, a6] st h Q = iWp d mX9_keepsMove 133 [a0, a1, a2, a3, a4, a5, a6] (.int 6 :: st) h Q := w_bipush dX9_keepsMove_131 rfl
theorem X9_keepsMove_133 : iWp d mX9_keepsMove 133 [a0, a1, a2, a3, a4, a5, a6] (.int y :: .int x :: st) h Q = iWp d mX9_keepsMove 134 [a0, a1, a2, a3, a4, a5, a6] (.int (x + y) :: st) h Q := w_iadd dX9_keepsMove_133
theorem X9_keepsMove_134 : iWp d mX9_keepsMove 134 [a0, a1, a2, a3, a4, a5, a6] (.int x :: .ref p :: st) h Q = iOb (iLdI h p x) (fun v => iWp d mX9_keepsMove 135 [a0, a1, a2, a3, a4, a5, a6] (.int v :: st) h Q) := w_iaload dX9_keepsMove_134
theorem X9_keepsMove_135 : iWp d mX9_keepsMove 135 [a0, a1, a2, a3, a4, a5, .int x] st h Q = iWp d mX9_keepsMove 137 [a0, a1, a2, a3, a4, a5, .int x] (.int x :: st) h Q := w_iload dX9_keepsMove_135 rfl
theorem X9_keepsMove_137 (hs : iSum st ≤ 8) : iWp d mX9_keepsMove 137 [a0, a1, a2, a3, a4, a5, a6] (.int y :: .int x :: st) h Q = iWp d mX9_keepsMove 140 [a0, a1, a2, a3, a4, a5, a6] (.int (if y < x then y else x) :: st) h Q := iWp_k dX9_keepsMove_137 rfl (fun _ _ => iMinS hs fK_9_282 rfl rfl rfl rfl)
theorem X9_keepsMove_140 (he : iEv mX9_goes [.ref p, .int x0, .int x1, .int x2, .int x3, .int x4, .int x5, .int x6] h none h2) (ho : iObj h p 9 = true) : iWp 7 mX9_keepsMove 140 [a0, a1, a2, a3, a4, a5, a6] [.int x6, .int x5, .int x4, .int x3, .int x2, .int x1, .int x0, .ref p] h Q = iWp 7 mX9_keepsMove 143 [a0, a1, a2, a3, a4, a5, a6] [] h2 Q := iWp_cV dX9_keepsMove_140 fK_9_233 rfl rfl ho (Nat.le_of_ble_eq_true rfl) (Nat.le_of_ble_eq_true rfl) rfl (Nat.le_of_ble_eq_true rfl) he rfl
theorem X9_keepsMove_143 : iWp d mX9_keepsMove 143 [a0, a1, a2, a3, a4, a5, a6] st h Q = iWp d mX9_keepsMove 144 [a0, a1, a2, a3, a4, a5, a6] (.int 0 :: st) h Q := w_iconst dX9_keepsMove_143 rfl
theorem X9_keepsMove_144 : iWp d mX9_keepsMove 144 [a0, a1, a2, a3, a4, a5, a6] [.int x] h Q = Q (some (.int x)) h := w_ireti dX9_keepsMove_144 rfl
theorem I9_keepsMove {Q : Option Value → iHp → Prop} (hw : iWp 7 mX9_keepsMove 0 [.ref p, .int x0, .int x1, .int x2, iU, iU, iU] [] h Q) : ∃ r h1, iEv mX9_keepsMove [.ref p, .int x0, .int x1, .int x2] h r h1 ∧ Q r h1 := iEv_of (by rfl) rfl hw
theorem J9_keepsMove {r : Option Value} {h1 : iHp} (hw : iWp 7 mX9_keepsMove 0 [.ref p, .int x0, .int x1, .int x2, iU, iU, iU] [] h (fun r' h' => r' = r ∧ h' = h1)) : iEv mX9_keepsMove [.ref p, .int x0, .int x1, .int x2] h r h1 := iEv_ev (by rfl) rfl hw
theorem X9_keyOf_0 : iWp d mX9_keyOf 0 [.ref p, a1, a2] st h Q = iWp d mX9_keyOf 1 [.ref p, a1, a2] (.ref p :: st) h Q := w_aload_n dX9_keyOf_0 rfl
theorem X9_keyOf_1 : iWp d mX9_keyOf 1 [a0, a1, a2] (.ref p :: st) h Q = iOb (iGet h p 9 2) (fun v => iWp d mX9_keyOf 4 [a0, a1, a2] (v :: st) h Q) := w_getf dX9_keyOf_1 fF_9_13
theorem X9_keyOf_4 : iWp d mX9_keyOf 4 [a0, a1, a2] st h Q = iWp d mX9_keyOf 6 [a0, a1, a2] (.int 64 :: st) h Q := w_bipush dX9_keyOf_4 rfl
theorem X9_keyOf_6 : iWp d mX9_keyOf 6 [a0, .int x, a2] st h Q = iWp d mX9_keyOf 7 [a0, .int x, a2] (.int x :: st) h Q := w_iload_n dX9_keyOf_6 rfl
theorem X9_keyOf_7 : iWp d mX9_keyOf 7 [a0, a1, a2] (.int y :: .int x :: st) h Q = iWp d mX9_keyOf 8 [a0, a1, a2] (.int (x * y) :: st) h Q := w_imul dX9_keyOf_7
theorem X9_keyOf_8 : iWp d mX9_keyOf 8 [a0, a1, .int x] st h Q = iWp d mX9_keyOf 9 [a0, a1, .int x] (.int x :: st) h Q := w_iload_n dX9_keyOf_8 rfl
theorem X9_keyOf_9 : iWp d mX9_keyOf 9 [a0, a1, a2] (.int y :: .int x :: st) h Q = iWp d mX9_keyOf 10 [a0, a1, a2] (.int (x + y) :: st) h Q := w_iadd dX9_keyOf_9
theorem X9_keyOf_10 : iWp d mX9_keyOf 10 [a0, a1, a2] (.int x :: .ref p :: st) h Q = iOb (iLdI h p x) (fun v => iWp d mX9_keyOf 11 [a0, a1, a2] (.int v :: st) h Q) := w_iaload dX9_keyOf_10
theorem X9_keyOf_11 : iWp d mX9_keyOf 11 [a0, a1, a2] [.int x] h Q = Q (some (.int x)) h := w_ireti dX9_keyOf_11 rfl
theorem I9_keyOf {Q : Option Value → iHp → Prop} (hw : iWp 1 mX9_keyOf 0 [.ref p, .int x0, .int x1] [] h Q) : ∃ r h1, iEv mX9_keyOf [.ref p, .int x0, .int x1] h r h1 ∧ Q r h1 := iEv_of (by rfl) rfl hw
theorem J9_keyOf {r : Option Value} {h1 : iHp} (hw : iWp 1 mX9_keyOf 0 [.ref p, .int x0, .int x1] [] h (fun r' h' => r' = r ∧ h' = h1)) : iEv mX9_keyOf [.ref p, .int x0, .int x1] h r h1 := iEv_ev (by rfl) rfl hw
theorem X9_lays_0 : iWp d mX9_lays 0 [.ref p, a1, a2] st h Q = iWp d mX9_lays 1 [.ref p, a1, a2] (.ref p :: st) h Q := w_aload_n dX9_lays_0 rfl
theorem X9_lays_1 : iWp d mX9_lays 1 [a0, a1, a2] (.ref p :: st) h Q = iOb (iGet h p 9 1) (fun v => iWp d mX9_lays 4 [a0, a1, a2] (v :: st) h Q) := w_getf dX9_lays_1 fF_9_7
theorem X9_lays_4 : iWp d mX9_lays 4 [a0, .int x, a2] st h Q = iWp d mX9_lays 5 [a0, .int x, a2] (.int x :: st) h Q := w_iload_n dX9_lays_4 rfl
theorem X9_lays_5 : iWp d mX9_lays 5 [.ref p, a1, a2] st h Q = iWp d mX9_lays 6 [.ref p, a1, a2] (.ref p :: st) h Q := w_aload_n dX9_lays_5 rfl
theorem X9_lays_6 : iWp d mX9_lays 6 [a0, a1, a2] (.ref p :: st) h Q = iOb (iGet h p 9 18) (fun v => iWp d mX9_lays 9 [a0, a1, a2] (v :: st) h Q) := w_getf dX9_lays_6 fF_9_127
theorem X9_lays_9 : iWp d mX9_lays 9 [a0, a1, a2] (.int y :: .int x :: .ref p :: st) h Q = iOb (iStI h p x y) (fun g => iWp d mX9_lays 10 [a0, a1, a2] st g Q) := w_iastore dX9_lays_9
theorem X9_lays_10 : iWp d mX9_lays 10 [a0, a1, a2] st h Q = iWp d mX9_lays 11 [a0, a1, a2] (.int 0 :: st) h Q := w_iconst dX9_lays_10 rfl
theorem X9_lays_11 : iWp d mX9_lays 11 [a0, a1, a2] (.int x :: st) h Q = iWp d mX9_lays 12 [a0, iClr a1, .int x] st h Q := w_istore_n dX9_lays_11 (Nat.le_of_ble_eq_true rfl) rfl
theorem X9_lays_12 : iWp d mX9_lays 12 [a0, a1, .int x] st h Q = iWp d mX9_lays 13 [a0, a1, .int x] (.int x :: st) h Q := w_iload_n dX9_lays_12 rfl
theorem X9_lays_13 : iWp d mX9_lays 13 [.ref p, a1, a2] st h Q = iWp d mX9_lays 14 [.ref p, a1, a2] (.ref p :: st) h Q := w_aload_n dX9_lays_13 rfl
theorem X9_lays_14 : iWp d mX9_lays 14 [a0, a1, a2] (.ref p :: st) h Q = iOb (iGet h p 9 18) (fun v => iWp d mX9_lays 17 [a0, a1, a2] (v :: st) h Q) := w_getf dX9_lays_14 fF_9_127
theorem X9_lays_17 : iWp d mX9_lays 17 [a0, a1, a2] (.int y :: .int x :: st) h Q = if y ≤ x then iWp d mX9_lays 77 [a0, a1, a2] st h Q else iWp d mX9_lays 20 [a0, a1, a2] st h Q := w_icmp_ge dX9_lays_17 rfl
theorem X9_lays_20 : iWp d mX9_lays 20 [.ref p, a1, a2] st h Q = iWp d mX9_lays 21 [.ref p, a1, a2] (.ref p :: st) h Q := w_aload_n dX9_lays_20 rfl
theorem X9_lays_21 : iWp d mX9_lays 21 [a0, a1, a2] (.ref p :: st) h Q = iOb (iGet h p 9 2) (fun v => iWp d mX9_lays 24 [a0, a1, a2] (v :: st) h Q) := w_getf dX9_lays_21 fF_9_13
theorem X9_lays_24 : iWp d mX9_lays 24 [a0, a1, a2] st h Q = iWp d mX9_lays 26 [a0, a1, a2] (.int 64 :: st) h Q := w_bipush dX9_lays_24 rfl
theorem X9_lays_26 : iWp d mX9_lays 26 [a0, .int x, a2] st h Q = iWp d mX9_lays 27 [a0, .int x, a2] (.int x :: st) h Q := w_iload_n dX9_lays_26 rfl
theorem X9_lays_27 : iWp d mX9_lays 27 [a0, a1, a2] (.int y :: .int x :: st) h Q = iWp d mX9_lays 28 [a0, a1, a2] (.int (x * y) :: st) h Q := w_imul dX9_lays_27
theorem X9_lays_28 : iWp d mX9_lays 28 [a0, a1, .int x] st h Q = iWp d mX9_lays 29 [a0, a1, .int x] (.int x :: st) h Q := w_iload_n dX9_lays_28 rfl
theorem X9_lays_29 : iWp d mX9_lays 29 [a0, a1, a2] (.int y :: .int x :: st) h Q = iWp d mX9_lays 30 [a0, a1, a2] (.int (x + y) :: st) h Q := w_iadd dX9_lays_29
theorem X9_lays_30 : iWp d mX9_lays 30 [.ref p, a1, a2] st h Q = iWp d mX9_lays 31 [.ref p, a1, a2] (.ref p :: st) h Q := w_aload_n dX9_lays_30 rfl
theorem X9_lays_31 : iWp d mX9_lays 31 [a0, a1, a2] (.ref p :: st) h Q = iOb (iGet h p 9 19) (fun v => iWp d mX9_lays 34 [a0, a1, a2] (v :: st) h Q) := w_getf dX9_lays_31 fF_9_44
theorem X9_lays_34 : iWp d mX9_lays 34 [a0, a1, .int x] st h Q = iWp d mX9_lays 35 [a0, a1, .int x] (.int x :: st) h Q := w_iload_n dX9_lays_34 rfl
theorem X9_lays_35 : iWp d mX9_lays 35 [a0, a1, a2] (.int x :: .ref p :: st) h Q = iOb (iLdI h p x) (fun v => iWp d mX9_lays 36 [a0, a1, a2] (.int v :: st) h Q) := w_iaload dX9_lays_35
theorem X9_lays_36 : iWp d mX9_lays 36 [a0, a1, a2] (.int y :: .int x :: .ref p :: st) h Q = iOb (iStI h p x y) (fun g => iWp d mX9_lays 37 [a0, a1, a2] st g Q) := w_iastore dX9_lays_36
theorem X9_lays_37 : iWp d mX9_lays 37 [.ref p, a1, a2] st h Q = iWp d mX9_lays 38 [.ref p, a1, a2] (.ref p :: st) h Q := w_aload_n dX9_lays_37 rfl
theorem X9_lays_38 : iWp d mX9_lays 38 [a0, a1, a2] (.ref p :: st) h Q = iOb (iGet h p 9 3) (fun v => iWp d mX9_lays 41 [a0, a1, a2] (v :: st) h Q) := w_getf dX9_lays_38 fF_9_16
theorem X9_lays_41 : iWp d mX9_lays 41 [a0, a1, a2] st h Q = iWp d mX9_lays 43 [a0, a1, a2] (.int 64 :: st) h Q := w_bipush dX9_lays_41 rfl
theorem X9_lays_43 : iWp d mX9_lays 43 [a0, .int x, a2] st h Q = iWp d mX9_lays 44 [a0, .int x, a2] (.int x :: st) h Q := w_iload_n dX9_lays_43 rfl
theorem X9_lays_44 : iWp d mX9_lays 44 [a0, a1, a2] (.int y :: .int x :: st) h Q = iWp d mX9_lays 45 [a0, a1, a2] (.int (x * y) :: st) h Q := w_imul dX9_lays_44
theorem X9_lays_45 : iWp d mX9_lays 45 [a0, a1, .int x] st h Q = iWp d mX9_lays 46 [a0, a1, .int x] (.int x :: st) h Q := w_iload_n dX9_lays_45 rfl
theorem X9_lays_46 : iWp d mX9_lays 46 [a0, a1, a2] (.int y :: .int x :: st) h Q = iWp d mX9_lays 47 [a0, a1, a2] (.int (x + y) :: st) h Q := w_iadd dX9_lays_46
theorem X9_lays_47 : iWp d mX9_lays 47 [.ref p, a1, a2] st h Q = iWp d mX9_lays 48 [.ref p, a1, a2] (.ref p :: st) h Q := w_aload_n dX9_lays_47 rfl
theorem X9_lays_48 : iWp d mX9_lays 48 [a0, a1, a2] (.ref p :: st) h Q = iOb (iGet h p 9 20) (fun v => iWp d mX9_lays 51 [a0, a1, a2] (v :: st) h Q) := w_getf dX9_lays_48 fF_9_47
theorem X9_lays_51 : iWp d mX9_lays 51 [a0, a1, .int x] st h Q = iWp d mX9_lays 52 [a0, a1, .int x] (.int x :: st) h Q := w_iload_n dX9_lays_51 rfl
theorem X9_lays_52 : iWp d mX9_lays 52 [a0, a1, a2] (.int x :: .ref p :: st) h Q = iOb (iLdI h p x) (fun v => iWp d mX9_lays 53 [a0, a1, a2] (.int v :: st) h Q) := w_iaload dX9_lays_52
theorem X9_lays_53 : iWp d mX9_lays 53 [a0, a1, a2] (.int y :: .int x :: .ref p :: st) h Q = iOb (iStI h p x y) (fun g => iWp d mX9_lays 54 [a0, a1, a2] st g Q) := w_iastore dX9_lays_53
theorem X9_lays_54 : iWp d mX9_lays 54 [.ref p, a1, a2] st h Q = iWp d mX9_lays 55 [.ref p, a1, a2] (.ref p :: st) h Q := w_aload_n dX9_lays_54 rfl
theorem X9_lays_55 : iWp d mX9_lays 55 [a0, a1, a2] (.ref p :: st) h Q = iOb (iGet h p 9 4) (fun v => iWp d mX9_lays 58 [a0, a1, a2] (v :: st) h Q) := w_getf dX9_lays_55 fF_9_19
theorem X9_lays_58 : iWp d mX9_lays 58 [a0, a1, a2] st h Q = iWp d mX9_lays 60 [a0, a1, a2] (.int 64 :: st) h Q := w_bipush dX9_lays_58 rfl
theorem X9_lays_60 : iWp d mX9_lays 60 [a0, .int x, a2] st h Q = iWp d mX9_lays 61 [a0, .int x, a2] (.int x :: st) h Q := w_iload_n dX9_lays_60 rfl
theorem X9_lays_61 : iWp d mX9_lays 61 [a0, a1, a2] (.int y :: .int x :: st) h Q = iWp d mX9_lays 62 [a0, a1, a2] (.int (x * y) :: st) h Q := w_imul dX9_lays_61
theorem X9_lays_62 : iWp d mX9_lays 62 [a0, a1, .int x] st h Q = iWp d mX9_lays 63 [a0, a1, .int x] (.int x :: st) h Q := w_iload_n dX9_lays_62 rfl
theorem X9_lays_63 : iWp d mX9_lays 63 [a0, a1, a2] (.int y :: .int x :: st) h Q = iWp d mX9_lays 64 [a0, a1, a2] (.int (x + y) :: st) h Q := w_iadd dX9_lays_63
theorem X9_lays_64 : iWp d mX9_lays 64 [.ref p, a1, a2] st h Q = iWp d mX9_lays 65 [.ref p, a1, a2] (.ref p :: st) h Q := w_aload_n dX9_lays_64 rfl
theorem X9_lays_65 : iWp d mX9_lays 65 [a0, a1, a2] (.ref p :: st) h Q = iOb (iGet h p 9 21) (fun v => iWp d mX9_lays 68 [a0, a1, a2] (v :: st) h Q) := w_getf dX9_lays_65 fF_9_50
theorem X9_lays_68 : iWp d mX9_lays 68 [a0, a1, .int x] st h Q = iWp d mX9_lays 69 [a0, a1, .int x] (.int x :: st) h Q := w_iload_n dX9_lays_68 rfl
theorem X9_lays_69 : iWp d mX9_lays 69 [a0, a1, a2] (.int x :: .ref p :: st) h Q = iOb (iLdI h p x) (fun v => iWp d mX9_lays 70 [a0, a1, a2] (.int v :: st) h Q) := w_iaload dX9_lays_69
theorem X9_lays_70 : iWp d mX9_lays 70 [a0, a1, a2] (.int y :: .int x :: .ref p :: st) h Q = iOb (iStI h p x y) (fun g => iWp d mX9_lays 71 [a0, a1, a2] st g Q) := w_iastore dX9_lays_70
theorem X9_lays_71 : iWp d mX9_lays 71 [a0, a1, .int x] st h Q = iWp d mX9_lays 74 [a0, iClr a1, .int (x + 1)] st h Q := w_iinc dX9_lays_71 rfl (Nat.le_of_ble_eq_true rfl) rfl
theorem X9_lays_74 : iWp d mX9_lays 74 [a0, a1, a2] st h Q = iWp d mX9_lays 12 [a0, a1, a2] st h Q := w_goto dX9_lays_74 rfl
theorem X9_lays_77 : iWp d mX9_lays 77 [a0, a1, a2] [] h Q = Q none h := w_ret dX9_lays_77 rfl
theorem I9_lays {Q : Option Value → iHp → Prop} (hw : iWp 1 mX9_lays 0 [.ref p, .int x0, iU] [] h Q) : ∃ r h1, iEv mX9_lays [.ref p, .int x0] h r h1 ∧ Q r h1 := iEv_of (by rfl) rfl hw
theorem J9_lays {r : Option Value} {h1 : iHp} (hw : iWp 1 mX9_lays 0 [.ref p, .int x0, iU] [] h (fun r' h' => r' = r ∧ h' = h1)) : iEv mX9_lays [.ref p, .int x0] h r h1 := iEv_ev (by rfl) rfl hw
theorem X9_loads_0 : iWp d mX9_loads 0 [.ref p, a1, a2] st h Q = iWp d mX9_loads 1 [.ref p, a1, a2] (.ref p :: st) h Q := w_aload_n dX9_loads_0 rfl
theorem X9_loads_1 : iWp d mX9_loads 1 [.ref p, a1, a2] st h Q = iWp d mX9_loads 2 [.ref p, a1, a2] (.ref p :: st) h Q := w_aload_n dX9_loads_1 rfl
theorem X9_loads_2 : iWp d mX9_loads 2 [a0, a1, a2] (.ref p :: st) h Q = iOb (iGet h p 9 1) (fun v => iWp d mX9_loads 5 [a0, a1, a2] (v :: st) h Q) := w_getf dX9_loads_2 fF_9_7
theorem X9_loads_5 : iWp d mX9_loads 5 [a0, .int x, a2] st h Q = iWp d mX9_loads 6 [a0, .int x, a2] (.int x :: st) h Q := w_iload_n dX9_loads_5 rfl
theorem X9_loads_6 : iWp d mX9_loads 6 [a0, a1, a2] (.int x :: .ref p :: st) h Q = iOb (iLdI h p x) (fun v => iWp d mX9_loads 7 [a0, a1, a2] (.int v :: st) h Q) := w_iaload dX9_loads_6
theorem X9_loads_7 : iWp d mX9_loads 7 [a0, a1, a2] (.int x :: .ref p :: st) h Q = iOb (iPut h p 9 18 (.int x)) (fun g => iWp d mX9_loads 10 [a0, a1, a2] st g Q) := w_putf dX9_loads_7 fF_9_127 ⟨rfl, (Or.inl rfl)⟩
theorem X9_loads_10 : iWp d mX9_loads 10 [a0, a1, a2] st h Q = iWp d mX9_loads 11 [a0, a1, a2] (.int 0 :: st) h Q := w_iconst dX9_loads_10 rfl
theorem X9_loads_11 : iWp d mX9_loads 11 [a0, a1, a2] (.int x :: st) h Q = iWp d mX9_loads 12 [a0, iClr a1, .int x] st h Q := w_istore_n dX9_loads_11 (Nat.le_of_ble_eq_true rfl) rfl
theorem X9_loads_12 : iWp d mX9_loads 12 [a0, a1, .int x] st h Q = iWp d mX9_loads 13 [a0, a1, .int x] (.int x :: st) h Q := w_iload_n dX9_loads_12 rfl
theorem X9_loads_13 : iWp d mX9_loads 13 [.ref p, a1, a2] st h Q = iWp d mX9_loads 14 [.ref p, a1, a2] (.ref p :: st) h Q := w_aload_n dX9_loads_13 rfl
theorem X9_loads_14 : iWp d mX9_loads 14 [a0, a1, a2] (.ref p :: st) h Q = iOb (iGet h p 9 18) (fun v => iWp d mX9_loads 17 [a0, a1, a2] (v :: st) h Q) := w_getf dX9_loads_14 fF_9_127
theorem X9_loads_17 : iWp d mX9_loads 17 [a0, a1, a2] (.int y :: .int x :: st) h Q = if y ≤ x then iWp d mX9_loads 77 [a0, a1, a2] st h Q else iWp d mX9_loads 20 [a0, a1, a2] st h Q := w_icmp_ge dX9_loads_17 rfl
theorem X9_loads_20 : iWp d mX9_loads 20 [.ref p, a1, a2] st h Q = iWp d mX9_loads 21 [.ref p, a1, a2] (.ref p :: st) h Q := w_aload_n dX9_loads_20 rfl
theorem X9_loads_21 : iWp d mX9_loads 21 [a0, a1, a2] (.ref p :: st) h Q = iOb (iGet h p 9 19) (fun v => iWp d mX9_loads 24 [a0, a1, a2] (v :: st) h Q) := w_getf dX9_loads_21 fF_9_44
theorem X9_loads_24 : iWp d mX9_loads 24 [a0, a1, .int x] st h Q = iWp d mX9_loads 25 [a0, a1, .int x] (.int x :: st) h Q := w_iload_n dX9_loads_24 rfl
theorem X9_loads_25 : iWp d mX9_loads 25 [.ref p, a1, a2] st h Q = iWp d mX9_loads 26 [.ref p, a1, a2] (.ref p :: st) h Q := w_aload_n dX9_loads_25 rfl
theorem X9_loads_26 : iWp d mX9_loads 26 [a0, a1, a2] (.ref p :: st) h Q = iOb (iGet h p 9 2) (fun v => iWp d mX9_loads 29 [a0, a1, a2] (v :: st) h Q) := w_getf dX9_loads_26 fF_9_13
theorem X9_loads_29 : iWp d mX9_loads 29 [a0, a1, a2] st h Q = iWp d mX9_loads 31 [a0, a1, a2] (.int 64 :: st) h Q := w_bipush dX9_loads_29 rfl
theorem X9_loads_31 : iWp d mX9_loads 31 [a0, .int x, a2] st h Q = iWp d mX9_loads 32 [a0, .int x, a2] (.int x :: st) h Q := w_iload_n dX9_loads_31 rfl
theorem X9_loads_32 : iWp d mX9_loads 32 [a0, a1, a2] (.int y :: .int x :: st) h Q = iWp d mX9_loads 33 [a0, a1, a2] (.int (x * y) :: st) h Q := w_imul dX9_loads_32
theorem X9_loads_33 : iWp d mX9_loads 33 [a0, a1, .int x] st h Q = iWp d mX9_loads 34 [a0, a1, .int x] (.int x :: st) h Q := w_iload_n dX9_loads_33 rfl
theorem X9_loads_34 : iWp d mX9_loads 34 [a0, a1, a2] (.int y :: .int x :: st) h Q = iWp d mX9_loads 35 [a0, a1, a2] (.int (x + y) :: st) h Q := w_iadd dX9_loads_34
theorem X9_loads_35 : iWp d mX9_loads 35 [a0, a1, a2] (.int x :: .ref p :: st) h Q = iOb (iLdI h p x) (fun v => iWp d mX9_loads 36 [a0, a1, a2] (.int v :: st) h Q) := w_iaload dX9_loads_35
theorem X9_loads_36 : iWp d mX9_loads 36 [a0, a1, a2] (.int y :: .int x :: .ref p :: st) h Q = iOb (iStI h p x y) (fun g => iWp d mX9_loads 37 [a0, a1, a2] st g Q) := w_iastore dX9_loads_36
theorem X9_loads_37 : iWp d mX9_loads 37 [.ref p, a1, a2] st h Q = iWp d mX9_loads 38 [.ref p, a1, a2] (.ref p :: st) h Q := w_aload_n dX9_loads_37 rfl
theorem X9_loads_38 : iWp d mX9_loads 38 [a0, a1, a2] (.ref p :: st) h Q = iOb (iGet h p 9 20) (fun v => iWp d mX9_loads 41 [a0, a1, a2] (v :: st) h Q) := w_getf dX9_loads_38 fF_9_47
theorem X9_loads_41 : iWp d mX9_loads 41 [a0, a1, .int x] st h Q = iWp d mX9_loads 42 [a0, a1, .int x] (.int x :: st) h Q := w_iload_n dX9_loads_41 rfl
theorem X9_loads_42 : iWp d mX9_loads 42 [.ref p, a1, a2] st h Q = iWp d mX9_loads 43 [.ref p, a1, a2] (.ref p :: st) h Q := w_aload_n dX9_loads_42 rfl
theorem X9_loads_43 : iWp d mX9_loads 43 [a0, a1, a2] (.ref p :: st) h Q = iOb (iGet h p 9 3) (fun v => iWp d mX9_loads 46 [a0, a1, a2] (v :: st) h Q) := w_getf dX9_loads_43 fF_9_16
theorem X9_loads_46 : iWp d mX9_loads 46 [a0, a1, a2] st h Q = iWp d mX9_loads 48 [a0, a1, a2] (.int 64 :: st) h Q := w_bipush dX9_loads_46 rfl
theorem X9_loads_48 : iWp d mX9_loads 48 [a0, .int x, a2] st h Q = iWp d mX9_loads 49 [a0, .int x, a2] (.int x :: st) h Q := w_iload_n dX9_loads_48 rfl
theorem X9_loads_49 : iWp d mX9_loads 49 [a0, a1, a2] (.int y :: .int x :: st) h Q = iWp d mX9_loads 50 [a0, a1, a2] (.int (x * y) :: st) h Q := w_imul dX9_loads_49
theorem X9_loads_50 : iWp d mX9_loads 50 [a0, a1, .int x] st h Q = iWp d mX9_loads 51 [a0, a1, .int x] (.int x :: st) h Q := w_iload_n dX9_loads_50 rfl
theorem X9_loads_51 : iWp d mX9_loads 51 [a0, a1, a2] (.int y :: .int x :: st) h Q = iWp d mX9_loads 52 [a0, a1, a2] (.int (x + y) :: st) h Q := w_iadd dX9_loads_51
theorem X9_loads_52 : iWp d mX9_loads 52 [a0, a1, a2] (.int x :: .ref p :: st) h Q = iOb (iLdI h p x) (fun v => iWp d mX9_loads 53 [a0, a1, a2] (.int v :: st) h Q) := w_iaload dX9_loads_52
theorem X9_loads_53 : iWp d mX9_loads 53 [a0, a1, a2] (.int y :: .int x :: .ref p :: st) h Q = iOb (iStI h p x y) (fun g => iWp d mX9_loads 54 [a0, a1, a2] st g Q) := w_iastore dX9_loads_53
theorem X9_loads_54 : iWp d mX9_loads 54 [.ref p, a1, a2] st h Q = iWp d mX9_loads 55 [.ref p, a1, a2] (.ref p :: st) h Q := w_aload_n dX9_loads_54 rfl
theorem X9_loads_55 : iWp d mX9_loads 55 [a0, a1, a2] (.ref p :: st) h Q = iOb (iGet h p 9 21) (fun v => iWp d mX9_loads 58 [a0, a1, a2] (v :: st) h Q) := w_getf dX9_loads_55 fF_9_50
theorem X9_loads_58 : iWp d mX9_loads 58 [a0, a1, .int x] st h Q = iWp d mX9_loads 59 [a0, a1, .int x] (.int x :: st) h Q := w_iload_n dX9_loads_58 rfl
theorem X9_loads_59 : iWp d mX9_loads 59 [.ref p, a1, a2] st h Q = iWp d mX9_loads 60 [.ref p, a1, a2] (.ref p :: st) h Q := w_aload_n dX9_loads_59 rfl
theorem X9_loads_60 : iWp d mX9_loads 60 [a0, a1, a2] (.ref p :: st) h Q = iOb (iGet h p 9 4) (fun v => iWp d mX9_loads 63 [a0, a1, a2] (v :: st) h Q) := w_getf dX9_loads_60 fF_9_19
theorem X9_loads_63 : iWp d mX9_loads 63 [a0, a1, a2] st h Q = iWp d mX9_loads 65 [a0, a1, a2] (.int 64 :: st) h Q := w_bipush dX9_loads_63 rfl
theorem X9_loads_65 : iWp d mX9_loads 65 [a0, .int x, a2] st h Q = iWp d mX9_loads 66 [a0, .int x, a2] (.int x :: st) h Q := w_iload_n dX9_loads_65 rfl
theorem X9_loads_66 : iWp d mX9_loads 66 [a0, a1, a2] (.int y :: .int x :: st) h Q = iWp d mX9_loads 67 [a0, a1, a2] (.int (x * y) :: st) h Q := w_imul dX9_loads_66
theorem X9_loads_67 : iWp d mX9_loads 67 [a0, a1, .int x] st h Q = iWp d mX9_loads 68 [a0, a1, .int x] (.int x :: st) h Q := w_iload_n dX9_loads_67 rfl
theorem X9_loads_68 : iWp d mX9_loads 68 [a0, a1, a2] (.int y :: .int x :: st) h Q = iWp d mX9_loads 69 [a0, a1, a2] (.int (x + y) :: st) h Q := w_iadd dX9_loads_68
theorem X9_loads_69 : iWp d mX9_loads 69 [a0, a1, a2] (.int x :: .ref p :: st) h Q = iOb (iLdI h p x) (fun v => iWp d mX9_loads 70 [a0, a1, a2] (.int v :: st) h Q) := w_iaload dX9_loads_69
theorem X9_loads_70 : iWp d mX9_loads 70 [a0, a1, a2] (.int y :: .int x :: .ref p :: st) h Q = iOb (iStI h p x y) (fun g => iWp d mX9_loads 71 [a0, a1, a2] st g Q) := w_iastore dX9_loads_70
theorem X9_loads_71 : iWp d mX9_loads 71 [a0, a1, .int x] st h Q = iWp d mX9_loads 74 [a0, iClr a1, .int (x + 1)] st h Q := w_iinc dX9_loads_71 rfl (Nat.le_of_ble_eq_true rfl) rfl
theorem X9_loads_74 : iWp d mX9_loads 74 [a0, a1, a2] st h Q = iWp d mX9_loads 12 [a0, a1, a2] st h Q := w_goto dX9_loads_74 rfl
theorem X9_loads_77 : iWp d mX9_loads 77 [a0, a1, a2] [] h Q = Q none h := w_ret dX9_loads_77 rfl
theorem I9_loads {Q : Option Value → iHp → Prop} (hw : iWp 1 mX9_loads 0 [.ref p, .int x0, iU] [] h Q) : ∃ r h1, iEv mX9_loads [.ref p, .int x0] h r h1 ∧ Q r h1 := iEv_of (by rfl) rfl hw
theorem J9_loads {r : Option Value} {h1 : iHp} (hw : iWp 1 mX9_loads 0 [.ref p, .int x0, iU] [] h (fun r' h' => r' = r ∧ h' = h1)) : iEv mX9_loads [.ref p, .int x0] h r h1 := iEv_ev (by rfl) rfl hw
theorem X9_makes_0 : iWp d mX9_makes 0 [a0, a1, a2, a3, a4, a5, a6, a7, a8] st h Q = iWp d mX9_makes 2 [a0, a1, a2, a3, a4, a5, a6, a7, a8] (.int 7 :: st) h Q := w_bipush dX9_makes_0 rfl
theorem X9_makes_2 : iWp d mX9_makes 2 [.ref p, a1, a2, a3, a4, a5, a6, a7, a8] st h Q = iWp d mX9_makes 3 [.ref p, a1, a2, a3, a4, a5, a6, a7, a8] (.ref p :: st) h Q := w_aload_n dX9_makes_2 rfl
theorem X9_makes_3 : iWp d mX9_makes 3 [a0, a1, a2, a3, a4, a5, a6, a7, a8] (.ref p :: st) h Q = iOb (iGet h p 9 25) (fun v => iWp d mX9_makes 6 [a0, a1, a2, a3, a4, a5, a6, a7, a8] (v :: st) h Q) := w_getf dX9_makes_3 fF_9_200
theorem X9_makes_6 : iWp d mX9_makes 6 [a0, a1, a2, a3, a4, a5, a6, a7, a8] (.int y :: .int x :: st) h Q = iWp d mX9_makes 7 [a0, a1, a2, a3, a4, a5, a6, a7, a8] (.int (x * y) :: st) h Q := w_imul dX9_makes_6
theorem X9_makes_7 : iWp d mX9_makes 7 [a0, a1, a2, a3, a4, a5, a6, a7, a8] (.int x :: st) h Q = iWp d mX9_makes 9 [a0, a1, a2, a3, a4, a5, a6, iClr a7, .int x] st h Q := w_istore dX9_makes_7 (Nat.le_of_ble_eq_true rfl) rfl
theorem X9_makes_9 : iWp d mX9_makes 9 [.ref p, a1, a2, a3, a4, a5, a6, a7, a8] st h Q = iWp d mX9_makes 10 [.ref p, a1, a2, a3, a4, a5, a6, a7, a8] (.ref p :: st) h Q := w_aload_n dX9_makes_9 rfl
theorem X9_makes_10 : iWp d mX9_makes 10 [a0, a1, a2, a3, a4, a5, a6, a7, a8] (.ref p :: st) h Q = iOb (iGet h p 9 26) (fun v => iWp d mX9_makes 13 [a0, a1, a2, a3, a4, a5, a6, a7, a8] (v :: st) h Q) := w_getf dX9_makes_10 fF_9_62
theorem X9_makes_13 : iWp d mX9_makes 13 [a0, a1, a2, a3, a4, a5, a6, a7, .int x] st h Q = iWp d mX9_makes 15 [a0, a1, a2, a3, a4, a5, a6, a7, .int x] (.int x :: st) h Q := w_iload dX9_makes_13 rfl
theorem X9_makes_15 : iWp d mX9_makes 15 [a0, .int x, a2, a3, a4, a5, a6, a7, a8] st h Q = iWp d mX9_makes 16 [a0, .int x, a2, a3, a4, a5, a6, a7, a8] (.int x :: st) h Q := w_iload_n dX9_makes_15 rfl
theorem X9_makes_16 : iWp d mX9_makes 16 [a0, a1, a2, a3, a4, a5, a6, a7, a8] (.int y :: .int x :: .ref p :: st) h Q = iOb (iStI h p x y) (fun g => iWp d mX9_makes 17 [a0, a1, a2, a3, a4, a5, a6, a7, a8] st g Q) := w_iastore dX9_makes_16
theorem X9_makes_17 : iWp d mX9_makes 17 [.ref p, a1, a2, a3, a4, a5, a6, a7, a8] st h Q = iWp d mX9_makes 18 [.ref p, a1, a2, a3, a4, a5, a6, a7, a8] (.ref p :: st) h Q := w_aload_n dX9_makes_17 rfl
theorem X9_makes_18 : iWp d mX9_makes 18 [a0, a1, a2, a3, a4, a5, a6, a7, a8] (.ref p :: st) h Q = iOb (iGet h p 9 26) (fun v => iWp d mX9_makes 21 [a0, a1, a2, a3, a4, a5, a6, a7, a8] (v :: st) h Q) := w_getf dX9_makes_18 fF_9_62
theorem X9_makes_21 : iWp d mX9_makes 21 [a0, a1, a2, a3, a4, a5, a6, a7, .int x] st h Q = iWp d mX9_makes 23 [a0, a1, a2, a3, a4, a5, a6, a7, .int x] (.int x :: st) h Q := w_iload dX9_makes_21 rfl
theorem X9_makes_23 : iWp d mX9_makes 23 [a0, a1, a2, a3, a4, a5, a6, a7, a8] st h Q = iWp d mX9_makes 24 [a0, a1, a2, a3, a4, a5, a6, a7, a8] (.int 1 :: st) h Q := w_iconst dX9_makes_23 rfl
theorem X9_makes_24 : iWp d mX9_makes 24 [a0, a1, a2, a3, a4, a5, a6, a7, a8] (.int y :: .int x :: st) h Q = iWp d mX9_makes 25 [a0, a1, a2, a3, a4, a5, a6, a7, a8] (.int (x + y) :: st) h Q := w_iadd dX9_makes_24
theorem X9_makes_25 : iWp d mX9_makes 25 [a0, a1, .int x, a3, a4, a5, a6, a7, a8] st h Q = iWp d mX9_makes 26 [a0, a1, .int x, a3, a4, a5, a6, a7, a8] (.int x :: st) h Q := w_iload_n dX9_makes_25 rfl
theorem X9_makes_26 : iWp d mX9_makes 26 [a0, a1, a2, a3, a4, a5, a6, a7, a8] (.int y :: .int x :: .ref p :: st) h Q = iOb (iStI h p x y) (fun g => iWp d mX9_makes 27 [a0, a1, a2, a3, a4, a5, a6, a7, a8] st g Q) := w_iastore dX9_makes_26
theorem X9_makes_27 : iWp d mX9_makes 27 [.ref p, a1, a2, a3, a4, a5, a6, a7, a8] st h Q = iWp d mX9_makes 28 [.ref p, a1, a2, a3, a4, a5, a6, a7, a8] (.ref p :: st) h Q := w_aload_n dX9_makes_27 rfl
theorem X9_makes_28 : iWp d mX9_makes 28 [a0, a1, a2, a3, a4, a5, a6, a7, a8] (.ref p :: st) h Q = iOb (iGet h p 9 26) (fun v => iWp d mX9_makes 31 [a0, a1, a2, a3, a4, a5, a6, a7, a8] (v :: st) h Q) := w_getf dX9_makes_28 fF_9_62
theorem X9_makes_31 : iWp d mX9_makes 31 [a0, a1, a2, a3, a4, a5, a6, a7, .int x] st h Q = iWp d mX9_makes 33 [a0, a1, a2, a3, a4, a5, a6, a7, .int x] (.int x :: st) h Q := w_iload dX9_makes_31 rfl
theorem X9_makes_33 : iWp d mX9_makes 33 [a0, a1, a2, a3, a4, a5, a6, a7, a8] st h Q = iWp d mX9_makes 34 [a0, a1, a2, a3, a4, a5, a6, a7, a8] (.int 2 :: st) h Q := w_iconst dX9_makes_33 rfl
theorem X9_makes_34 : iWp d mX9_makes 34 [a0, a1, a2, a3, a4, a5, a6, a7, a8] (.int y :: .int x :: st) h Q = iWp d mX9_makes 35 [a0, a1, a2, a3, a4, a5, a6, a7, a8] (.int (x + y) :: st) h Q := w_iadd dX9_makes_34
theorem X9_makes_35 : iWp d mX9_makes 35 [a0, a1, a2, .int x, a4, a5, a6, a7, a8] st h Q = iWp d mX9_makes 36 [a0, a1, a2, .int x, a4, a5, a6, a7, a8] (.int x :: st) h Q := w_iload_n dX9_makes_35 rfl
theorem X9_makes_36 : iWp d mX9_makes 36 [a0, a1, a2, a3, a4, a5, a6, a7, a8] (.int y :: .int x :: .ref p :: st) h Q = iOb (iStI h p x y) (fun g => iWp d mX9_makes 37 [a0, a1, a2, a3, a4, a5, a6, a7, a8] st g Q) := w_iastore dX9_makes_36
theorem X9_makes_37 : iWp d mX9_makes 37 [.ref p, a1, a2, a3, a4, a5, a6, a7, a8] st h Q = iWp d mX9_makes 38 [.ref p, a1, a2, a3, a4, a5, a6, a7, a8] (.ref p :: st) h Q := w_aload_n dX9_makes_37 rfl
theorem X9_makes_38 : iWp d mX9_makes 38 [a0, a1, a2, a3, a4, a5, a6, a7, a8] (.ref p :: st) h Q = iOb (iGet h p 9 26) (fun v => iWp d mX9_makes 41 [a0, a1, a2, a3, a4, a5, a6, a7, a8] (v :: st) h Q) := w_getf dX9_makes_38 fF_9_62
theorem X9_makes_41 : iWp d mX9_makes 41 [a0, a1, a2, a3, a4, a5, a6, a7, .int x] st h Q = iWp d mX9_makes 43 [a0, a1, a2, a3, a4, a5, a6, a7, .int x] (.int x :: st) h Q := w_iload dX9_makes_41 rfl
theorem X9_makes_43 : iWp d mX9_makes 43 [a0, a1, a2, a3, a4, a5, a6, a7, a8] st h Q = iWp d mX9_makes 44 [a0, a1, a2, a3, a4, a5, a6, a7, a8] (.int 3 :: st) h Q := w_iconst dX9_makes_43 rfl
theorem X9_makes_44 : iWp d mX9_makes 44 [a0, a1, a2, a3, a4, a5, a6, a7, a8] (.int y :: .int x :: st) h Q = iWp d mX9_makes 45 [a0, a1, a2, a3, a4, a5, a6, a7, a8] (.int (x + y) :: st) h Q := w_iadd dX9_makes_44
theorem X9_makes_45 : iWp d mX9_makes 45 [a0, a1, a2, a3, .int x, a5, a6, a7, a8] st h Q = iWp d mX9_makes 47 [a0, a1, a2, a3, .int x, a5, a6, a7, a8] (.int x :: st) h Q := w_iload dX9_makes_45 rfl
theorem X9_makes_47 : iWp d mX9_makes 47 [a0, a1, a2, a3, a4, a5, a6, a7, a8] (.int y :: .int x :: .ref p :: st) h Q = iOb (iStI h p x y) (fun g => iWp d mX9_makes 48 [a0, a1, a2, a3, a4, a5, a6, a7, a8] st g Q) := w_iastore dX9_makes_47
theorem X9_makes_48 : iWp d mX9_makes 48 [.ref p, a1, a2, a3, a4, a5, a6, a7, a8] st h Q = iWp d mX9_makes 49 [.ref p, a1, a2, a3, a4, a5, a6, a7, a8] (.ref p :: st) h Q := w_aload_n dX9_makes_48 rfl
theorem X9_makes_49 : iWp d mX9_makes 49 [a0, a1, a2, a3, a4, a5, a6, a7, a8] (.ref p :: st) h Q = iOb (iGet h p 9 26) (fun v => iWp d mX9_makes 52 [a0, a1, a2, a3, a4, a5, a6, a7, a8] (v :: st) h Q) := w_getf dX9_makes_49 fF_9_62
theorem X9_makes_52 : iWp d mX9_makes 52 [a0, a1, a2, a3, a4, a5, a6, a7, .int x] st h Q = iWp d mX9_makes 54 [a0, a1, a2, a3, a4, a5, a6, a7, .int x] (.int x :: st) h Q := w_iload dX9_makes_52 rfl
theorem X9_makes_54 : iWp d mX9_makes 54 [a0, a1, a2, a3, a4, a5, a6, a7, a8] st h Q = iWp d mX9_makes 55 [a0, a1, a2, a3, a4, a5, a6, a7, a8] (.int 4 :: st) h Q := w_iconst dX9_makes_54 rfl
theorem X9_makes_55 : iWp d mX9_makes 55 [a0, a1, a2, a3, a4, a5, a6, a7, a8] (.int y :: .int x :: st) h Q = iWp d mX9_makes 56 [a0, a1, a2, a3, a4, a5, a6, a7, a8] (.int (x + y) :: st) h Q := w_iadd dX9_makes_55
theorem X9_makes_56 : iWp d mX9_makes 56 [a0, a1, a2, a3, a4, .int x, a6, a7, a8] st h Q = iWp d mX9_makes 58 [a0, a1, a2, a3, a4, .int x, a6, a7, a8] (.int x :: st) h Q := w_iload dX9_makes_56 rfl
theorem X9_makes_58 : iWp d mX9_makes 58 [a0, a1, a2, a3, a4, a5, a6, a7, a8] (.int y :: .int x :: .ref p :: st) h Q = iOb (iStI h p x y) (fun g => iWp d mX9_makes 59 [a0, a1, a2, a3, a4, a5, a6, a7, a8] st g Q) := w_iastore dX9_makes_58
theorem X9_makes_59 : iWp d mX9_makes 59 [.ref p, a1, a2, a3, a4, a5, a6, a7, a8] st h Q = iWp d mX9_makes 60 [.ref p, a1, a2, a3, a4, a5, a6, a7, a8] (.ref p :: st) h Q := w_aload_n dX9_makes_59 rfl
theorem X9_makes_60 : iWp d mX9_makes 60 [a0, a1, a2, a3, a4, a5, a6, a7, a8] (.ref p :: st) h Q = iOb (iGet h p 9 26) (fun v => iWp d mX9_makes 63 [a0, a1, a2, a3, a4, a5, a6, a7, a8] (v :: st) h Q) := w_getf dX9_makes_60 fF_9_62
theorem X9_makes_63 : iWp d mX9_makes 63 [a0, a1, a2, a3, a4, a5, a6, a7, .int x] st h Q = iWp d mX9_makes 65 [a0, a1, a2, a3, a4, a5, a6, a7, .int x] (.int x :: st) h Q := w_iload dX9_makes_63 rfl
theorem X9_makes_65 : iWp d mX9_makes 65 [a0, a1, a2, a3, a4, a5, a6, a7, a8] st h Q = iWp d mX9_makes 66 [a0, a1, a2, a3, a4, a5, a6, a7, a8] (.int 5 :: st) h Q := w_iconst dX9_makes_65 rfl
theorem X9_makes_66 : iWp d mX9_makes 66 [a0, a1, a2, a3, a4, a5, a6, a7, a8] (.int y :: .int x :: st) h Q = iWp d mX9_makes 67 [a0, a1, a2, a3, a4, a5, a6, a7, a8] (.int (x + y) :: st) h Q := w_iadd dX9_makes_66
theorem X9_makes_67 : iWp d mX9_makes 67 [a0, a1, a2, a3, a4, a5, .int x, a7, a8] st h Q = iWp d mX9_makes 69 [a0, a1, a2, a3, a4, a5, .int x, a7, a8] (.int x :: st) h Q := w_iload dX9_makes_67 rfl
theorem X9_makes_69 : iWp d mX9_makes 69 [a0, a1, a2, a3, a4, a5, a6, a7, a8] (.int y :: .int x :: .ref p :: st) h Q = iOb (iStI h p x y) (fun g => iWp d mX9_makes 70 [a0, a1, a2, a3, a4, a5, a6, a7, a8] st g Q) := w_iastore dX9_makes_69
theorem X9_makes_70 : iWp d mX9_makes 70 [.ref p, a1, a2, a3, a4, a5, a6, a7, a8] st h Q = iWp d mX9_makes 71 [.ref p, a1, a2, a3, a4, a5, a6, a7, a8] (.ref p :: st) h Q := w_aload_n dX9_makes_70 rfl
theorem X9_makes_71 : iWp d mX9_makes 71 [a0, a1, a2, a3, a4, a5, a6, a7, a8] (.ref p :: st) h Q = iOb (iGet h p 9 26) (fun v => iWp d mX9_makes 74 [a0, a1, a2, a3, a4, a5, a6, a7, a8] (v :: st) h Q) := w_getf dX9_makes_71 fF_9_62
theorem X9_makes_74 : iWp d mX9_makes 74 [a0, a1, a2, a3, a4, a5, a6, a7, .int x] st h Q = iWp d mX9_makes 76 [a0, a1, a2, a3, a4, a5, a6, a7, .int x] (.int x :: st) h Q := w_iload dX9_makes_74 rfl
theorem X9_makes_76 : iWp d mX9_makes 76 [a0, a1, a2, a3, a4, a5, a6, a7, a8] st h Q = iWp d mX9_makes 78 [a0, a1, a2, a3, a4, a5, a6, a7, a8] (.int 6 :: st) h Q := w_bipush dX9_makes_76 rfl
theorem X9_makes_78 : iWp d mX9_makes 78 [a0, a1, a2, a3, a4, a5, a6, a7, a8] (.int y :: .int x :: st) h Q = iWp d mX9_makes 79 [a0, a1, a2, a3, a4, a5, a6, a7, a8] (.int (x + y) :: st) h Q := w_iadd dX9_makes_78
theorem X9_makes_79 : iWp d mX9_makes 79 [a0, a1, a2, a3, a4, a5, a6, .int x, a8] st h Q = iWp d mX9_makes 81 [a0, a1, a2, a3, a4, a5, a6, .int x, a8] (.int x :: st) h Q := w_iload dX9_makes_79 rfl
theorem X9_makes_81 : iWp d mX9_makes 81 [a0, a1, a2, a3, a4, a5, a6, a7, a8] (.int y :: .int x :: .ref p :: st) h Q = iOb (iStI h p x y) (fun g => iWp d mX9_makes 82 [a0, a1, a2, a3, a4, a5, a6, a7, a8] st g Q) := w_iastore dX9_makes_81
theorem X9_makes_82 : iWp d mX9_makes 82 [.ref p, a1, a2, a3, a4, a5, a6, a7, a8] st h Q = iWp d mX9_makes 83 [.ref p, a1, a2, a3, a4, a5, a6, a7, a8] (.ref p :: st) h Q := w_aload_n dX9_makes_82 rfl
theorem X9_makes_83 : iWp d mX9_makes 83 [a0, a1, a2, a3, a4, a5, a6, a7, a8] (.ref p :: st) h Q = iWp d mX9_makes 84 [a0, a1, a2, a3, a4, a5, a6, a7, a8] (.ref p :: .ref p :: st) h Q := w_dup dX9_makes_83 rfl
theorem X9_makes_84 : iWp d mX9_makes 84 [a0, a1, a2, a3, a4, a5, a6, a7, a8] (.ref p :: st) h Q = iOb (iGet h p 9 25) (fun v => iWp d mX9_makes 87 [a0, a1, a2, a3, a4, a5, a6, a7, a8] (v :: st) h Q) := w_getf dX9_makes_84 fF_9_200
theorem X9_makes_87 : iWp d mX9_makes 87 [a0, a1, a2, a3, a4, a5, a6, a7, a8] st h Q = iWp d mX9_makes 88 [a0, a1, a2, a3, a4, a5, a6, a7, a8] (.int 1 :: st) h Q := w_iconst dX9_makes_87 rfl
theorem X9_makes_88 : iWp d mX9_makes 88 [a0, a1, a2, a3, a4, a5, a6, a7, a8] (.int y :: .int x :: st) h Q = iWp d mX9_makes 89 [a0, a1, a2, a3, a4, a5, a6, a7, a8] (.int (x + y) :: st) h Q := w_iadd dX9_makes_88
theorem X9_makes_89 : iWp d mX9_makes 89 [a0, a1, a2, a3, a4, a5, a6, a7, a8] (.int x :: .ref p :: st) h Q = iOb (iPut h p 9 25 (.int x)) (fun g => iWp d mX9_makes 92 [a0, a1, a2, a3, a4, a5, a6, a7, a8] st g Q) := w_putf dX9_makes_89 fF_9_200 ⟨rfl, (Or.inl rfl)⟩
theorem X9_makes_92 : iWp d mX9_makes 92 [a0, a1, a2, a3, a4, a5, a6, a7, a8] [] h Q = Q none h := w_ret dX9_makes_92 rfl
theorem I9_makes {Q : Option Value → iHp → Prop} (hw : iWp 1 mX9_makes 0 [.ref p, .int x0, .int x1, .int x2, .int x3, .int x4, .int x5, .int x6, iU] [] h Q) : ∃ r h1, iEv mX9_makes [.ref p, .int x0, .int x1, .int x2, .int x3, .int x4, .int x5, .int x6] h r h1 ∧ Q r h1 := iEv_of (by rfl) rfl hw
theorem J9_makes {r : Option Value} {h1 : iHp} (hw : iWp 1 mX9_makes 0 [.ref p, .int x0, .int x1, .int x2, .int x3, .int x4, .int x5, .int x6, iU] [] h (fun r' h' => r' = r ∧ h' = h1)) : iEv mX9_makes [.ref p, .int x0, .int x1, .int x2, .int x3, .int x4, .int x5, .int x6] h r h1 := iEv_ev (by rfl) rfl hw
theorem X9_moves_0 : iWp d mX9_moves 0 [.ref p, a1, a2, a3, a4, a5, a6] st h Q = iWp d mX9_moves 1 [.ref p, a1, a2, a3, a4, a5, a6] (.ref p :: st) h Q := w_aload_n dX9_moves_0 rfl
theorem X9_moves_1 : iWp d mX9_moves 1 [a0, .ref p, a2, a3, a4, a5, a6] st h Q = iWp d mX9_moves 2 [a0, .ref p, a2, a3, a4, a5, a6] (.ref p :: st) h Q := w_aload_n dX9_moves_1 rfl
theorem X9_moves_1n : iWp d mX9_moves 1 [a0, .null, a2, a3, a4, a5, a6] st h Q = iWp d mX9_moves 2 [a0, .null, a2, a3, a4, a5, a6] (.null :: st) h Q := w_aload_nN dX9_moves_1 rfl
theorem X9_moves_2 : iWp d mX9_moves 2 [a0, a1, .int x, a3, a4, a5, a6] st h Q = iWp d mX9_moves 3 [a0, a1, .int x, a3, a4, a5, a6] (.int x :: st) h Q := w_iload_n dX9_moves_2 rfl
theorem X9_moves_3 : iWp d mX9_moves 3 [a0, a1, a2, a3, a4, a5, a6] st h Q = iWp d mX9_moves 4 [a0, a1, a2, a3, a4, a5, a6] (.int 5 :: st) h Q := w_iconst dX9_moves_3 rfl
theorem X9_moves_4 : iWp d mX9_moves 4 [a0, a1, a2, a3, a4, a5, a6] (.int y :: .int x :: st) h Q = iWp d mX9_moves 5 [a0, a1, a2, a3, a4, a5, a6] (.int (x + y) :: st) h Q := w_iadd dX9_moves_4
theorem X9_moves_5 : iWp d mX9_moves 5 [a0, a1, a2, a3, a4, a5, a6] (.int x :: .ref p :: st) h Q = iOb (iLdI h p x) (fun v => iWp d mX9_moves 6 [a0, a1, a2, a3, a4, a5, a6] (.int v :: st) h Q) := w_iaload dX9_moves_5
theorem X9_moves_6 (he : iEv mX9_find [.ref p, .int x0] h (some (.int rv)) h2) (ho : iObj h p 9 = true) : iWp 4 mX9_moves 6 [a0, a1, a2, a3, a4, a5, a6] [.int x0, .ref p] h Q = iWp 4 mX9_moves 9 [a0, a1, a2, a3, a4, a5, a6] [.int rv] h2 Q := iWp_cV dX9_moves_6 fK_9_153 rfl rfl ho (Nat.le_of_ble_eq_true rfl) (Nat.le_of_ble_eq_true rfl) rfl (Nat.le_of_ble_eq_true rfl) he rfl
theorem X9_moves_9 : iWp d mX9_moves 9 [a0, a1, a2, a3, a4, a5, a6] (.int x :: st) h Q = iWp d mX9_moves 11 [a0, a1, a2, iClr a3, .int x, a5, a6] st h Q := w_istore dX9_moves_9 (Nat.le_of_ble_eq_true rfl) rfl
theorem X9_moves_11 : iWp d mX9_moves 11 [a0, a1, a2, .int x, a4, a5, a6] st h Q = iWp d mX9_moves 12 [a0, a1, a2, .int x, a4, a5, a6] (.int x :: st) h Q := w_iload_n dX9_moves_11 rfl
theorem X9_moves_12 : iWp d mX9_moves 12 [a0, a1, a2, a3, a4, a5, a6] (.int x :: st) h Q = if x ≤ 0 then iWp d mX9_moves 57 [a0, a1, a2, a3, a4, a5, a6] st h Q else iWp d mX9_moves 15 [a0, a1, a2, a3, a4, a5, a6] st h Q := w_ifc_le dX9_moves_12 rfl
theorem X9_moves_15 : iWp d mX9_moves 15 [a0, a1, a2, a3, .int x, a5, a6] st h Q = iWp d mX9_moves 17 [a0, a1, a2, a3, .int x, a5, a6] (.int x :: st) h Q := w_iload dX9_moves_15 rfl
theorem X9_moves_17 : iWp d mX9_moves 17 [a0, a1, a2, a3, a4, a5, a6] st h Q = iWp d mX9_moves 18 [a0, a1, a2, a3, a4, a5, a6] (.int (-1) :: st) h Q := w_iconst dX9_moves_17 rfl
theorem X9_moves_18 : iWp d mX9_moves 18 [a0, a1, a2, a3, a4, a5, a6] (.int y :: .int x :: st) h Q = if x = y then iWp d mX9_moves 57 [a0, a1, a2, a3, a4, a5, a6] st h Q else iWp d mX9_moves 21 [a0, a1, a2, a3, a4, a5, a6] st h Q := w_icmp_eq dX9_moves_18 rfl
theorem X9_moves_21 : iWp d mX9_moves 21 [.ref p, a1, a2, a3, a4, a5, a6] st h Q = iWp d mX9_moves 22 [.ref p, a1, a2, a3, a4, a5, a6] (.ref p :: st) h Q := w_aload_n dX9_moves_21 rfl
theorem X9_moves_22 : iWp d mX9_moves 22 [a0, a1, a2, .int x, a4, a5, a6] st h Q = iWp d mX9_moves 23 [a0, a1, a2, .int x, a4, a5, a6] (.int x :: st) h Q := w_iload_n dX9_moves_22 rfl
theorem X9_moves_23 (he : iEv mX9_parentKey [.ref p, .int x0] h (some (.int rv)) h2) (ho : iObj h p 9 = true) : iWp 4 mX9_moves 23 [a0, a1, a2, a3, a4, a5, a6] [.int x0, .ref p] h Q = iWp 4 mX9_moves 26 [a0, a1, a2, a3, a4, a5, a6] [.int rv] h2 Q := iWp_cV dX9_moves_23 fK_9_172 rfl rfl ho (Nat.le_of_ble_eq_true rfl) (Nat.le_of_ble_eq_true rfl) rfl (Nat.le_of_ble_eq_true rfl) he rfl
theorem X9_moves_26 : iWp d mX9_moves 26 [a0, .ref p, a2, a3, a4, a5, a6] st h Q = iWp d mX9_moves 27 [a0, .ref p, a2, a3, a4, a5, a6] (.ref p :: st) h Q := w_aload_n dX9_moves_26 rfl
theorem X9_moves_26n : iWp d mX9_moves 26 [a0, .null, a2, a3, a4, a5, a6] st h Q = iWp d mX9_moves 27 [a0, .null, a2, a3, a4, a5, a6] (.null :: st) h Q := w_aload_nN dX9_moves_26 rfl
theorem X9_moves_27 : iWp d mX9_moves 27 [a0, a1, .int x, a3, a4, a5, a6] st h Q = iWp d mX9_moves 28 [a0, a1, .int x, a3, a4, a5, a6] (.int x :: st) h Q := w_iload_n dX9_moves_27 rfl
theorem X9_moves_28 : iWp d mX9_moves 28 [a0, a1, a2, a3, a4, a5, a6] st h Q = iWp d mX9_moves 29 [a0, a1, a2, a3, a4, a5, a6] (.int 3 :: st) h Q := w_iconst dX9_moves_28 rfl
theorem X9_moves_29 : iWp d mX9_moves 29 [a0, a1, a2, a3, a4, a5, a6] (.int y :: .int x :: st) h Q = iWp d mX9_moves 30 [a0, a1, a2, a3, a4, a5, a6] (.int (x + y) :: st) h Q := w_iadd dX9_moves_29
theorem X9_moves_30 : iWp d mX9_moves 30 [a0, a1, a2, a3, a4, a5, a6] (.int x :: .ref p :: st) h Q = iOb (iLdI h p x) (fun v => iWp d mX9_moves 31 [a0, a1, a2, a3, a4, a5, a6] (.int v :: st) h Q) := w_iaload dX9_moves_30
theorem X9_moves_31 : iWp d mX9_moves 31 [a0, a1, a2, a3, a4, a5, a6] (.int y :: .int x :: st) h Q = if x = y then iWp d mX9_moves 34 [a0, a1, a2, a3, a4, a5, a6] st h Q else iWp d mX9_moves 57 [a0, a1, a2, a3, a4, a5, a6] st h Q := w_icmp_ne dX9_moves_31 rfl
theorem X9_moves_34 : iWp d mX9_moves 34 [.ref p, a1, a2, a3, a4, a5, a6] st h Q = iWp d mX9_moves 35 [.ref p, a1, a2, a3, a4, a5, a6] (.ref p :: st) h Q := w_aload_n dX9_moves_34 rfl
theorem X9_moves_35 : iWp d mX9_moves 35 [a0, a1, a2, .int x, a4, a5, a6] st h Q = iWp d mX9_moves 36 [a0, a1, a2, .int x, a4, a5, a6] (.int x :: st) h Q := w_iload_n dX9_moves_35 rfl
theorem X9_moves_36 (he : iEv mX9_place [.ref p, .int x0] h (some (.int rv)) h2) (ho : iObj h p 9 = true) : iWp 4 mX9_moves 36 [a0, a1, a2, a3, a4, a5, a6] [.int x0, .ref p] h Q = iWp 4 mX9_moves 39 [a0, a1, a2, a3, a4, a5, a6] [.int rv] h2 Q := iWp_cV dX9_moves_36 fK_9_175 rfl rfl ho (Nat.le_of_ble_eq_true rfl) (Nat.le_of_ble_eq_true rfl) rfl (Nat.le_of_ble_eq_true rfl) he rfl
theorem X9_moves_39 : iWp d mX9_moves 39 [a0, .ref p, a2, a3, a4, a5, a6] st h Q = iWp d mX9_moves 40 [a0, .ref p, a2, a3, a4, a5, a6] (.ref p :: st) h Q := w_aload_n dX9_moves_39 rfl
theorem X9_moves_39n : iWp d mX9_moves 39 [a0, .null, a2, a3, a4, a5, a6] st h Q = iWp d mX9_moves 40 [a0, .null, a2, a3, a4, a5, a6] (.null :: st) h Q := w_aload_nN dX9_moves_39 rfl
theorem X9_moves_40 : iWp d mX9_moves 40 [a0, a1, .int x, a3, a4, a5, a6] st h Q = iWp d mX9_moves 41 [a0, a1, .int x, a3, a4, a5, a6] (.int x :: st) h Q := w_iload_n dX9_moves_40 rfl
theorem X9_moves_41 : iWp d mX9_moves 41 [a0, a1, a2, a3, a4, a5, a6] st h Q = iWp d mX9_moves 42 [a0, a1, a2, a3, a4, a5, a6] (.int 4 :: st) h Q := w_iconst dX9_moves_41 rfl
theorem X9_moves_42 : iWp d mX9_moves 42 [a0, a1, a2, a3, a4, a5, a6] (.int y :: .int x :: st) h Q = iWp d mX9_moves 43 [a0, a1, a2, a3, a4, a5, a6] (.int (x + y) :: st) h Q := w_iadd dX9_moves_42
theorem X9_moves_43 : iWp d mX9_moves 43 [a0, a1, a2, a3, a4, a5, a6] (.int x :: .ref p :: st) h Q = iOb (iLdI h p x) (fun v => iWp d mX9_moves 44 [a0, a1, a2, a3, a4, a5, a6] (.int v :: st) h Q) := w_iaload dX9_moves_43
theorem X9_moves_44 : iWp d mX9_moves 44 [a0, a1, a2, a3, a4, a5, a6] (.int y :: .int x :: st) h Q = if x = y then iWp d mX9_moves 47 [a0, a1, a2, a3, a4, a5, a6] st h Q else iWp d mX9_moves 57 [a0, a1, a2, a3, a4, a5, a6] st h Q := w_icmp_ne dX9_moves_44 rfl
theorem X9_moves_47 : iWp d mX9_moves 47 [.ref p, a1, a2, a3, a4, a5, a6] st h Q = iWp d mX9_moves 48 [.ref p, a1, a2, a3, a4, a5, a6] (.ref p :: st) h Q := w_aload_n dX9_moves_47 rfl
theorem X9_moves_48 : iWp d mX9_moves 48 [a0, a1, a2, a3, .int x, a5, a6] st h Q = iWp d mX9_moves 50 [a0, a1, a2, a3, .int x, a5, a6] (.int x :: st) h Q := w_iload dX9_moves_48 rfl
theorem X9_moves_50 : iWp d mX9_moves 50 [a0, a1, a2, .int x, a4, a5, a6] st h Q = iWp d mX9_moves 51 [a0, a1, a2, .int x, a4, a5, a6] (.int x :: st) h Q := w_iload_n dX9_moves_50 rfl
theorem X9_moves_51 (he : iEv mX9_isBelow [.ref p, .int x0, .int x1] h (some (.int rv)) h2) (ho : iObj h p 9 = true) : iWp 4 mX9_moves 51 [a0, a1, a2, a3, a4, a5, a6] [.int x1, .int x0, .ref p] h Q = iWp 4 mX9_moves 54 [a0, a1, a2, a3, a4, a5, a6] [.int rv] h2 Q := iWp_cV dX9_moves_51 fK_9_184 rfl rfl ho (Nat.le_of_ble_eq_true rfl) (Nat.le_of_ble_eq_true rfl) rfl (Nat.le_of_ble_eq_true rfl) he rfl
theorem X9_moves_54 : iWp d mX9_moves 54 [a0, a1, a2, a3, a4, a5, a6] (.int x :: st) h Q = if x = 0 then iWp d mX9_moves 59 [a0, a1, a2, a3, a4, a5, a6] st h Q else iWp d mX9_moves 57 [a0, a1, a2, a3, a4, a5, a6] st h Q := w_ifc_eq dX9_moves_54 rfl
theorem X9_moves_57 : iWp d mX9_moves 57 [a0, a1, a2, a3, a4, a5, a6] st h Q = iWp d mX9_moves 58 [a0, a1, a2, a3, a4, a5, a6] (.int 0 :: st) h Q := w_iconst dX9_moves_57 rfl
theorem X9_moves_58 : iWp d mX9_moves 58 [a0, a1, a2, a3, a4, a5, a6] [.int (iB b)] h Q = Q (some (.int (iB b))) h := w_iretb dX9_moves_58 rfl
theorem X9_moves_58z : iWp d mX9_moves 58 [a0, a1, a2, a3, a4, a5, a6] [.int 0] h Q = Q (some (.int (iB false))) h := w_iretb (bb := false) dX9_moves_58 rfl
theorem X9_moves_58o : iWp d mX9_moves 58 [a0, a1, a2, a3, a4, a5, a6] [.int 1] h Q = Q (some (.int (iB true))) h := w_iretb (bb := true) dX9_moves_58 rfl
theorem X9_moves_59 : iWp d mX9_moves 59 [.ref p, a1, a2, a3, a4, a5, a6] st h Q = iWp d mX9_moves 60 [.ref p, a1, a2, a3, a4, a5, a6] (.ref p :: st) h Q := w_aload_n dX9_moves_59 rfl
theorem X9_moves_60 : iWp d mX9_moves 60 [a0, a1, a2, a3, .int x, a5, a6] st h Q = iWp d mX9_moves 62 [a0, a1, a2, a3, .int x, a5, a6] (.int x :: st) h Q := w_iload dX9_moves_60 rfl
theorem X9_moves_62 (he : iEv mX9_children [.ref p, .int x0] h (some (.int rv)) h2) (ho : iObj h p 9 = true) : iWp 4 mX9_moves 62 [a0, a1, a2, a3, a4, a5, a6] [.int x0, .ref p] h Q = iWp 4 mX9_moves 65 [a0, a1, a2, a3, a4, a5, a6] [.int rv] h2 Q := iWp_cV dX9_moves_62 fK_9_178 rfl rfl ho (Nat.le_of_ble_eq_true rfl) (Nat.le_of_ble_eq_true rfl) rfl (Nat.le_of_ble_eq_true rfl) he rfl
theorem X9_moves_65 : iWp d mX9_moves 65 [.ref p, a1, a2, a3, a4, a5, a6] st h Q = iWp d mX9_moves 66 [.ref p, a1, a2, a3, a4, a5, a6] (.ref p :: st) h Q := w_aload_n dX9_moves_65 rfl
theorem X9_moves_66 : iWp d mX9_moves 66 [a0, a1, a2, .int x, a4, a5, a6] st h Q = iWp d mX9_moves 67 [a0, a1, a2, .int x, a4, a5, a6] (.int x :: st) h Q := w_iload_n dX9_moves_66 rfl
theorem X9_moves_67 (he : iEv mX9_parent [.ref p, .int x0] h (some (.int rv)) h2) (ho : iObj h p 9 = true) : iWp 4 mX9_moves 67 [a0, a1, a2, a3, a4, a5, a6] [.int x0, .ref p, .int r0] h Q = iWp 4 mX9_moves 70 [a0, a1, a2, a3, a4, a5, a6] [.int rv, .int r0] h2 Q := iWp_cV dX9_moves_67 fK_9_130 rfl rfl ho (Nat.le_of_ble_eq_true rfl) (Nat.le_of_ble_eq_true rfl) rfl (Nat.le_of_ble_eq_true rfl) he rfl
theorem X9_moves_70 : iWp d mX9_moves 70 [a0, a1, a2, a3, .int x, a5, a6] st h Q = iWp d mX9_moves 72 [a0, a1, a2, a3, .int x, a5, a6] (.int x :: st) h Q := w_iload dX9_moves_70 rfl
theorem X9_moves_72 : iWp d mX9_moves 72 [a0, a1, a2, a3, a4, a5, a6] (.int y :: .int x :: st) h Q = if x = y then iWp d mX9_moves 75 [a0, a1, a2, a3, a4, a5, a6] st h Q else iWp d mX9_moves 79 [a0, a1, a2, a3, a4, a5, a6] st h Q := w_icmp_ne dX9_moves_72 rfl
theorem X9_moves_75 : iWp d mX9_moves 75 [a0, a1, a2, a3, a4, a5, a6] st h Q = iWp d mX9_moves 76 [a0, a1, a2, a3, a4, a5, a6] (.int 1 :: st) h Q := w_iconst dX9_moves_75 rfl
theorem X9_moves_76 : iWp d mX9_moves 76 [a0, a1, a2, a3, a4, a5, a6] st h Q = iWp d mX9_moves 80 [a0, a1, a2, a3, a4, a5, a6] st h Q := w_goto dX9_moves_76 rfl
theorem X9_moves_79 : iWp d mX9_moves 79 [a0, a1, a2, a3, a4, a5, a6] st h Q = iWp d mX9_moves 80 [a0, a1, a2, a3, a4, a5, a6] (.int 0 :: st) h Q := w_iconst dX9_moves_79 rfl
theorem X9_moves_80 : iWp d mX9_moves 80 [a0, a1, a2, a3, a4, a5, a6] (.int y :: .int x :: st) h Q = iWp d mX9_moves 81 [a0, a1, a2, a3, a4, a5, a6] (.int (x - y) :: st) h Q := w_isub dX9_moves_80
theorem X9_moves_81 : iWp d mX9_moves 81 [a0, a1, a2, a3, a4, a5, a6] (.int x :: st) h Q = iWp d mX9_moves 83 [a0, a1, a2, a3, iClr a4, .int x, a6] st h Q := w_istore dX9_moves_81 (Nat.le_of_ble_eq_true rfl) rfl
theorem X9_moves_83 : iWp d mX9_moves 83 [a0, .ref p, a2, a3, a4, a5, a6] st h Q = iWp d mX9_moves 84 [a0, .ref p, a2, a3, a4, a5, a6] (.ref p :: st) h Q := w_aload_n dX9_moves_83 rfl
theorem X9_moves_83n : iWp d mX9_moves 83 [a0, .null, a2, a3, a4, a5, a6] st h Q = iWp d mX9_moves 84 [a0, .null, a2, a3, a4, a5, a6] (.null :: st) h Q := w_aload_nN dX9_moves_83 rfl
theorem X9_moves_84 : iWp d mX9_moves 84 [a0, a1, .int x, a3, a4, a5, a6] st h Q = iWp d mX9_moves 85 [a0, a1, .int x, a3, a4, a5, a6] (.int x :: st) h Q := w_iload_n dX9_moves_84 rfl
theorem X9_moves_85 : iWp d mX9_moves 85 [a0, a1, a2, a3, a4, a5, a6] st h Q = iWp d mX9_moves 87 [a0, a1, a2, a3, a4, a5, a6] (.int 6 :: st) h Q := w_bipush dX9_moves_85 rfl
theorem X9_moves_87 : iWp d mX9_moves 87 [a0, a1, a2, a3, a4, a5, a6] (.int y :: .int x :: st) h Q = iWp d mX9_moves 88 [a0, a1, a2, a3, a4, a5, a6] (.int (x + y) :: st) h Q := w_iadd dX9_moves_87
theorem X9_moves_88 : iWp d mX9_moves 88 [a0, a1, a2, a3, a4, a5, a6] (.int x :: .ref p :: st) h Q = iOb (iLdI h p x) (fun v => iWp d mX9_moves 89 [a0, a1, a2, a3, a4, a5, a6] (.int v :: st) h Q) := w_iaload dX9_moves_88
theorem X9_moves_89 : iWp d mX9_moves 89 [a0, a1, a2, a3, a4, a5, a6] st h Q = iWp d mX9_moves 90 [a0, a1, a2, a3, a4, a5, a6] (.int 0 :: st) h Q := w_iconst dX9_moves_89 rfl
theorem X9_moves_90 : iWp d mX9_moves 90 [a0, a1, a2, a3, a4, .int x, a6] st h Q = iWp d mX9_moves 92 [a0, a1, a2, a3, a4, .int x, a6] (.int x :: st) h Q := w_iload dX9_moves_90 rfl
theorem X9_moves_92 (he : iEv mX9_within [.int x0, .int x1, .int x2] h (some (.int rv)) h2) : iWp 4 mX9_moves 92 [a0, a1, a2, a3, a4, a5, a6] [.int x2, .int x1, .int x0] h Q = iWp 4 mX9_moves 95 [a0, a1, a2, a3, a4, a5, a6] [.int rv] h2 Q := iWp_cS dX9_moves_92 fK_9_106 rfl rfl (Nat.le_of_ble_eq_true rfl) (Nat.le_of_ble_eq_true rfl) rfl (Nat.le_of_ble_eq_true rfl) he rfl
theorem X9_moves_95 : iWp d mX9_moves 95 [a0, a1, a2, a3, a4, a5, a6] (.int x :: st) h Q = if x = 0 then iWp d mX9_moves 98 [a0, a1, a2, a3, a4, a5, a6] st h Q else iWp d mX9_moves 100 [a0, a1, a2, a3, a4, a5, a6] st h Q := w_ifc_ne dX9_moves_95 rfl
theorem X9_moves_98 : iWp d mX9_moves 98 [a0, a1, a2, a3, a4, a5, a6] st h Q = iWp d mX9_moves 99 [a0, a1, a2, a3, a4, a5, a6] (.int 0 :: st) h Q := w_iconst dX9_moves_98 rfl
theorem X9_moves_99 : iWp d mX9_moves 99 [a0, a1, a2, a3, a4, a5, a6] [.int (iB b)] h Q = Q (some (.int (iB b))) h := w_iretb dX9_moves_99 rfl
theorem X9_moves_99z : iWp d mX9_moves 99 [a0, a1, a2, a3, a4, a5, a6] [.int 0] h Q = Q (some (.int (iB false))) h := w_iretb (bb := false) dX9_moves_99 rfl
theorem X9_moves_99o : iWp d mX9_moves 99 [a0, a1, a2, a3, a4, a5, a6] [.int 1] h Q = Q (some (.int (iB true))) h := w_iretb (bb := true) dX9_moves_99 rfl
theorem X9_moves_100 : iWp d mX9_moves 100 [.ref p, a1, a2, a3, a4, a5, a6] st h Q = iWp d mX9_moves 101 [.ref p, a1, a2, a3, a4, a5, a6] (.ref p :: st) h Q := w_aload_n dX9_moves_100 rfl
theorem X9_moves_101 : iWp d mX9_moves 101 [a0, a1, a2, .int x, a4, a5, a6] st h Q = iWp d mX9_moves 102 [a0, a1, a2, .int x, a4, a5, a6] (.int x :: st) h Q := w_iload_n dX9_moves_101 rfl
theorem X9_moves_102 (he : iEv mX9_end [.ref p, .int x0] h (some (.int rv)) h2) (ho : iObj h p 9 = true) : iWp 4 mX9_moves 102 [a0, a1, a2, a3, a4, a5, a6] [.int x0, .ref p] h Q = iWp 4 mX9_moves 105 [a0, a1, a2, a3, a4, a5, a6] [.int rv] h2 Q := iWp_cV dX9_moves_102 fK_9_133 rfl rfl ho (Nat.le_of_ble_eq_true rfl) (Nat.le_of_ble_eq_true rfl) rfl (Nat.le_of_ble_eq_true rfl) he rfl
theorem X9_moves_105 : iWp d mX9_moves 105 [a0, a1, a2, .int x, a4, a5, a6] st h Q = iWp d mX9_moves 106 [a0, a1, a2, .int x, a4, a5, a6] (.int x :: st) h Q := w_iload_n dX9_moves_105 rfl
theorem X9_moves_106 : iWp d mX9_moves 106 [a0, a1, a2, a3, a4, a5, a6] (.int y :: .int x :: st) h Q = iWp d mX9_moves 107 [a0, a1, a2, a3, a4, a5, a6] (.int (x - y) :: st) h Q := w_isub dX9_moves_106
theorem X9_moves_107 : iWp d mX9_moves 107 [a0, a1, a2, a3, a4, a5, a6] (.int x :: st) h Q = iWp d mX9_moves 109 [a0, a1, a2, a3, a4, iClr a5, .int x] st h Q := w_istore dX9_moves_107 (Nat.le_of_ble_eq_true rfl) rfl
theorem X9_moves_109 : iWp d mX9_moves 109 [.ref p, a1, a2, a3, a4, a5, a6] st h Q = iWp d mX9_moves 110 [.ref p, a1, a2, a3, a4, a5, a6] (.ref p :: st) h Q := w_aload_n dX9_moves_109 rfl
theorem X9_moves_110 : iWp d mX9_moves 110 [a0, a1, a2, .int x, a4, a5, a6] st h Q = iWp d mX9_moves 111 [a0, a1, a2, .int x, a4, a5, a6] (.int x :: st) h Q := w_iload_n dX9_moves_110 rfl
theorem X9_moves_111 : iWp d mX9_moves 111 [a0, a1, a2, a3, a4, a5, .int x] st h Q = iWp d mX9_moves 113 [a0, a1, a2, a3, a4, a5, .int x] (.int x :: st) h Q := w_iload dX9_moves_111 rfl
theorem X9_moves_113 (he : iEv mX9_cuts [.ref p, .int x0, .int x1] h none h2) (ho : iObj h p 9 = true) : iWp 4 mX9_moves 113 [a0, a1, a2, a3, a4, a5, a6] [.int x1, .int x0, .ref p] h Q = iWp 4 mX9_moves 116 [a0, a1, a2, a3, a4, a5, a6] [] h2 Q := iWp_cV dX9_moves_113 fK_9_188 rfl rfl ho (Nat.le_of_ble_eq_true rfl) (Nat.le_of_ble_eq_true rfl) rfl (Nat.le_of_ble_eq_true rfl) he rfl
theorem X9_moves_116 : iWp d mX9_moves 116 [.ref p, a1, a2, a3, a4, a5, a6] st h Q = iWp d mX9_moves 117 [.ref p, a1, a2, a3, a4, a5, a6] (.ref p :: st) h Q := w_aload_n dX9_moves_116 rfl
theorem X9_moves_117 : iWp d mX9_moves 117 [a0, a1, a2, a3, a4, a5, .int x] st h Q = iWp d mX9_moves 119 [a0, a1, a2, a3, a4, a5, .int x] (.int x :: st) h Q := w_iload dX9_moves_117 rfl
theorem X9_moves_119 : iWp d mX9_moves 119 [.ref p, a1, a2, a3, a4, a5, a6] st h Q = iWp d mX9_moves 120 [.ref p, a1, a2, a3, a4, a5, a6] (.ref p :: st) h Q := w_aload_n dX9_moves_119 rfl
theorem X9_moves_120 : iWp d mX9_moves 120 [a0, .ref p, a2, a3, a4, a5, a6] st h Q = iWp d mX9_moves 121 [a0, .ref p, a2, a3, a4, a5, a6] (.ref p :: st) h Q := w_aload_n dX9_moves_120 rfl
theorem X9_moves_120n : iWp d mX9_moves 120 [a0, .null, a2, a3, a4, a5, a6] st h Q = iWp d mX9_moves 121 [a0, .null, a2, a3, a4, a5, a6] (.null :: st) h Q := w_aload_nN dX9_moves_120 rfl
theorem X9_moves_121 : iWp d mX9_moves 121 [a0, a1, .int x, a3, a4, a5, a6] st h Q = iWp d mX9_moves 122 [a0, a1, .int x, a3, a4, a5, a6] (.int x :: st) h Q := w_iload_n dX9_moves_121 rfl
theorem X9_moves_122 : iWp d mX9_moves 122 [a0, a1, a2, a3, a4, a5, a6] st h Q = iWp d mX9_moves 123 [a0, a1, a2, a3, a4, a5, a6] (.int 5 :: st) h Q := w_iconst dX9_moves_122 rfl
theorem X9_moves_123 : iWp d mX9_moves 123 [a0, a1, a2, a3, a4, a5, a6] (.int y :: .int x :: st) h Q = iWp d mX9_moves 124 [a0, a1, a2, a3, a4, a5, a6] (.int (x + y) :: st) h Q := w_iadd dX9_moves_123
theorem X9_moves_124 : iWp d mX9_moves 124 [a0, a1, a2, a3, a4, a5, a6] (.int x :: .ref p :: st) h Q = iOb (iLdI h p x) (fun v => iWp d mX9_moves 125 [a0, a1, a2, a3, a4, a5, a6] (.int v :: st) h Q) := w_iaload dX9_moves_124
theorem X9_moves_125 (he : iEv mX9_find [.ref p, .int x0] h (some (.int rv)) h2) (ho : iObj h p 9 = true) : iWp 4 mX9_moves 125 [a0, a1, a2, a3, a4, a5, a6] [.int x0, .ref p, .int r0, .ref t1] h Q = iWp 4 mX9_moves 128 [a0, a1, a2, a3, a4, a5, a6] [.int rv, .int r0, .ref t1] h2 Q := iWp_cV dX9_moves_125 fK_9_153 rfl rfl ho (Nat.le_of_ble_eq_true rfl) (Nat.le_of_ble_eq_true rfl) rfl (Nat.le_of_ble_eq_true rfl) he rfl
theorem X9_moves_128 : iWp d mX9_moves 128 [a0, .ref p, a2, a3, a4, a5, a6] st h Q = iWp d mX9_moves 129 [a0, .ref p, a2, a3, a4, a5, a6] (.ref p :: st) h Q := w_aload_n dX9_moves_128 rfl
theorem X9_moves_128n : iWp d mX9_moves 128 [a0, .null, a2, a3, a4, a5, a6] st h Q = iWp d mX9_moves 129 [a0, .null, a2, a3, a4, a5, a6] (.null :: st) h Q := w_aload_nN dX9_moves_128 rfl
theorem X9_moves_129 : iWp d mX9_moves 129 [a0, a1, .int x, a3, a4, a5, a6] st h Q = iWp d mX9_moves 130 [a0, a1, .int x, a3, a4, a5, a6] (.int x :: st) h Q := w_iload_n dX9_moves_129 rfl
theorem X9_moves_130 : iWp d mX9_moves 130 [a0, a1, a2, a3, a4, a5, a6] st h Q = iWp d mX9_moves 132 [a0, a1, a2, a3, a4, a5, a6] (.int 6 :: st) h Q := w_bipush dX9_moves_130 rfl
theorem X9_moves_132 : iWp d mX9_moves 132 [a0, a1, a2, a3, a4, a5, a6] (.int y :: .int x :: st) h Q = iWp d mX9_moves 133 [a0, a1, a2, a3, a4, a5, a6] (.int (x + y) :: st) h Q := w_iadd dX9_moves_132
theorem X9_moves_133 : iWp d mX9_moves 133 [a0, a1, a2, a3, a4, a5, a6] (.int x :: .ref p :: st) h Q = iOb (iLdI h p x) (fun v => iWp d mX9_moves 134 [a0, a1, a2, a3, a4, a5, a6] (.int v :: st) h Q) := w_iaload dX9_moves_133
theorem X9_moves_134 (he : iEv mX9_puts [.ref p, .int x0, .int x1, .int x2] h none h2) (ho : iObj h p 9 = true) : iWp 4 mX9_moves 134 [a0, a1, a2, a3, a4, a5, a6] [.int x2, .int x1, .int x0, .ref p] h Q = iWp 4 mX9_moves 137 [a0, a1, a2, a3, a4, a5, a6] [] h2 Q := iWp_cV dX9_moves_134 fK_9_192 rfl rfl ho (Nat.le_of_ble_eq_true rfl) (Nat.le_of_ble_eq_true rfl) rfl (Nat.le_of_ble_eq_true rfl) he rfl
theorem X9_moves_137 : iWp d mX9_moves 137 [a0, a1, a2, a3, a4, a5, a6] st h Q = iWp d mX9_moves 138 [a0, a1, a2, a3, a4, a5, a6] (.int 1 :: st) h Q := w_iconst dX9_moves_137 rfl
theorem X9_moves_138 : iWp d mX9_moves 138 [a0, a1, a2, a3, a4, a5, a6] [.int (iB b)] h Q = Q (some (.int (iB b))) h := w_iretb dX9_moves_138 rfl
theorem X9_moves_138z : iWp d mX9_moves 138 [a0, a1, a2, a3, a4, a5, a6] [.int 0] h Q = Q (some (.int (iB false))) h := w_iretb (bb := false) dX9_moves_138 rfl
theorem X9_moves_138o : iWp d mX9_moves 138 [a0, a1, a2, a3, a4, a5, a6] [.int 1] h Q = Q (some (.int (iB true))) h := w_iretb (bb := true) dX9_moves_138 rfl
theorem I9_moves {Q : Option Value → iHp → Prop} (c0 : b0.category = 1) (hw : iWp 4 mX9_moves 0 [.ref p, b0, .int x1, .int x2, iU, iU, iU] [] h Q) : ∃ r h1, iEv mX9_moves [.ref p, b0, .int x1, .int x2] h r h1 ∧ Q r h1 := iEv_of (by rfl) (by simp [iInit, cat_i, cat_r, cat_l, mX9_moves, c0]) hw
theorem J9_moves {r : Option Value} {h1 : iHp} (c0 : b0.category = 1) (hw : iWp 4 mX9_moves 0 [.ref p, b0, .int x1, .int x2, iU, iU, iU] [] h (fun r' h' => r' = r ∧ h' = h1)) : iEv mX9_moves [.ref p, b0, .int x1, .int x2] h r h1 := iEv_ev (by rfl) (by simp [iInit, cat_i, cat_r, cat_l, mX9_moves, c0]) hw
theorem X9_moves__0 : iWp d mX9_moves_ 0 [.ref p, a1, a2, a3, a4] st h Q = iWp d mX9_moves_ 1 [.ref p, a1, a2, a3, a4] (.ref p :: st) h Q := w_aload_n dX9_moves__0 rfl
theorem X9_moves__1 : iWp d mX9_moves_ 1 [a0, .int x, a2, a3, a4] st h Q = iWp d mX9_moves_ 2 [a0, .int x, a2, a3, a4] (.int x :: st) h Q := w_iload_n dX9_moves__1 rfl
theorem X9_moves__2 (he : iEv mX9_isTree [.ref p, .int x0] h (some (.int rv)) h2) (ho : iObj h p 9 = true) : iWp 9 mX9_moves_ 2 [a0, a1, a2, a3, a4] [.int x0, .ref p] h Q = iWp 9 mX9_moves_ 5 [a0, a1, a2, a3, a4] [.int rv] h2 Q := iWp_cV dX9_moves__2 fK_9_166 rfl rfl ho (Nat.le_of_ble_eq_true rfl) (Nat.le_of_ble_eq_true rfl) rfl (Nat.le_of_ble_eq_true rfl) he rfl
theorem X9_moves__5 : iWp d mX9_moves_ 5 [a0, a1, a2, a3, a4] (.int x :: st) h Q = if x = 0 then iWp d mX9_moves_ 16 [a0, a1, a2, a3, a4] st h Q else iWp d mX9_moves_ 8 [a0, a1, a2, a3, a4] st h Q := w_ifc_eq dX9_moves__5 rfl
theorem X9_moves__8 : iWp d mX9_moves_ 8 [.ref p, a1, a2, a3, a4] st h Q = iWp d mX9_moves_ 9 [.ref p, a1, a2, a3, a4] (.ref p :: st) h Q := w_aload_n dX9_moves__8 rfl
theorem X9_moves__9 : iWp d mX9_moves_ 9 [a0, a1, .int x, a3, a4] st h Q = iWp d mX9_moves_ 10 [a0, a1, .int x, a3, a4] (.int x :: st) h Q := w_iload_n dX9_moves__9 rfl
theorem X9_moves__10 (he : iEv mX9_isTree [.ref p, .int x0] h (some (.int rv)) h2) (ho : iObj h p 9 = true) : iWp 9 mX9_moves_ 10 [a0, a1, a2, a3, a4] [.int x0, .ref p] h Q = iWp 9 mX9_moves_ 13 [a0, a1, a2, a3, a4] [.int rv] h2 Q := iWp_cV dX9_moves__10 fK_9_166 rfl rfl ho (Nat.le_of_ble_eq_true rfl) (Nat.le_of_ble_eq_true rfl) rfl (Nat.le_of_ble_eq_true rfl) he rfl
theorem X9_moves__13 : iWp d mX9_moves_ 13 [a0, a1, a2, a3, a4] (.int x :: st) h Q = if x = 0 then iWp d mX9_moves_ 16 [a0, a1, a2, a3, a4] st h Q else iWp d mX9_moves_ 22 [a0, a1, a2, a3, a4] st h Q := w_ifc_ne dX9_moves__13 rfl
theorem X9_moves__16 : iWp d mX9_moves_ 16 [.ref p, a1, a2, a3, a4] st h Q = iWp d mX9_moves_ 17 [.ref p, a1, a2, a3, a4] (.ref p :: st) h Q := w_aload_n dX9_moves__16 rfl
theorem X9_moves__17 : iWp d mX9_moves_ 17 [a0, a1, a2, a3, a4] st h Q = iWp d mX9_moves_ 18 [a0, a1, a2, a3, a4] (.int (-1) :: st) h Q := w_iconst dX9_moves__17 rfl
theorem X9_moves__18 (he : iEv mX9_no [.ref p, .int x0] h (some (.int rv)) h2) (ho : iObj h p 9 = true) : iWp 9 mX9_moves_ 18 [a0, a1, a2, a3, a4] [.int x0, .ref p] h Q = iWp 9 mX9_moves_ 21 [a0, a1, a2, a3, a4] [.int rv] h2 Q := iWp_cV dX9_moves__18 fK_9_99 rfl rfl ho (Nat.le_of_ble_eq_true rfl) (Nat.le_of_ble_eq_true rfl) rfl (Nat.le_of_ble_eq_true rfl) he rfl
theorem X9_moves__21 : iWp d mX9_moves_ 21 [a0, a1, a2, a3, a4] [.int x] h Q = Q (some (.int x)) h := w_ireti dX9_moves__21 rfl
theorem X9_moves__22 : iWp d mX9_moves_ 22 [.ref p, a1, a2, a3, a4] st h Q = iWp d mX9_moves_ 23 [.ref p, a1, a2, a3, a4] (.ref p :: st) h Q := w_aload_n dX9_moves__22 rfl
theorem X9_moves__23 : iWp d mX9_moves_ 23 [a0, .int x, a2, a3, a4] st h Q = iWp d mX9_moves_ 24 [a0, .int x, a2, a3, a4] (.int x :: st) h Q := w_iload_n dX9_moves__23 rfl
theorem X9_moves__24 : iWp d mX9_moves_ 24 [a0, a1, .int x, a3, a4] st h Q = iWp d mX9_moves_ 25 [a0, a1, .int x, a3, a4] (.int x :: st) h Q := w_iload_n dX9_moves__24 rfl
theorem X9_moves__25 (he : iEv mX9_isUnlike [.ref p, .int x0, .int x1] h (some (.int rv)) h2) (ho : iObj h p 9 = true) : iWp 9 mX9_moves_ 25 [a0, a1, a2, a3, a4] [.int x1, .int x0, .ref p] h Q = iWp 9 mX9_moves_ 28 [a0, a1, a2, a3, a4] [.int rv] h2 Q := iWp_cV dX9_moves__25 fK_9_245 rfl rfl ho (Nat.le_of_ble_eq_true rfl) (Nat.le_of_ble_eq_true rfl) rfl (Nat.le_of_ble_eq_true rfl) he rfl
theorem X9_moves__28 : iWp d mX9_moves_ 28 [a0, a1, a2, a3, a4] (.int x :: st) h Q = if x = 0 then iWp d mX9_moves_ 38 [a0, a1, a2, a3, a4] st h Q else iWp d mX9_moves_ 31 [a0, a1, a2, a3, a4] st h Q := w_ifc_eq dX9_moves__28 rfl
theorem X9_moves__31 : iWp d mX9_moves_ 31 [.ref p, a1, a2, a3, a4] st h Q = iWp d mX9_moves_ 32 [.ref p, a1, a2, a3, a4] (.ref p :: st) h Q := w_aload_n dX9_moves__31 rfl
theorem X9_moves__32 : iWp d mX9_moves_ 32 [a0, a1, a2, a3, a4] st h Q = iWp d mX9_moves_ 34 [a0, a1, a2, a3, a4] (.int (-6) :: st) h Q := w_bipush dX9_moves__32 rfl
theorem X9_moves__34 (he : iEv mX9_no [.ref p, .int x0] h (some (.int rv)) h2) (ho : iObj h p 9 = true) : iWp 9 mX9_moves_ 34 [a0, a1, a2, a3, a4] [.int x0, .ref p] h Q = iWp 9 mX9_moves_ 37 [a0, a1, a2, a3, a4] [.int rv] h2 Q := iWp_cV dX9_moves__34 fK_9_99 rfl rfl ho (Nat.le_of_ble_eq_true rfl) (Nat.le_of_ble_eq_true rfl) rfl (Nat.le_of_ble_eq_true rfl) he rfl
theorem X9_moves__37 : iWp d mX9_moves_ 37 [a0, a1, a2, a3, a4] [.int x] h Q = Q (some (.int x)) h := w_ireti dX9_moves__37 rfl
theorem X9_moves__38 : iWp d mX9_moves_ 38 [.ref p, a1, a2, a3, a4] st h Q = iWp d mX9_moves_ 39 [.ref p, a1, a2, a3, a4] (.ref p :: st) h Q := w_aload_n dX9_moves__38 rfl
theorem X9_moves__39 : iWp d mX9_moves_ 39 [a0, .int x, a2, a3, a4] st h Q = iWp d mX9_moves_ 40 [a0, .int x, a2, a3, a4] (.int x :: st) h Q := w_iload_n dX9_moves__39 rfl
theorem X9_moves__40 : iWp d mX9_moves_ 40 [a0, a1, .int x, a3, a4] st h Q = iWp d mX9_moves_ 41 [a0, a1, .int x, a3, a4] (.int x :: st) h Q := w_iload_n dX9_moves__40 rfl
theorem X9_moves__41 (he : iEv mX9_differs [.ref p, .int x0, .int x1] h none h2) (ho : iObj h p 9 = true) : iWp 9 mX9_moves_ 41 [a0, a1, a2, a3, a4] [.int x1, .int x0, .ref p] h Q = iWp 9 mX9_moves_ 44 [a0, a1, a2, a3, a4] [] h2 Q := iWp_cV dX9_moves__41 fK_9_248 rfl rfl ho (Nat.le_of_ble_eq_true rfl) (Nat.le_of_ble_eq_true rfl) rfl (Nat.le_of_ble_eq_true rfl) he rfl
theorem X9_moves__44 : iWp d mX9_moves_ 44 [a0, a1, a2, a3, a4] st h Q = iWp d mX9_moves_ 45 [a0, a1, a2, a3, a4] (.int 0 :: st) h Q := w_iconst dX9_moves__44 rfl
theorem X9_moves__45 : iWp d mX9_moves_ 45 [a0, a1, a2, a3, a4] (.int x :: st) h Q = iWp d mX9_moves_ 46 [a0, a1, iClr a2, .int x, a4] st h Q := w_istore_n dX9_moves__45 (Nat.le_of_ble_eq_true rfl) rfl
theorem X9_moves__46 : iWp d mX9_moves_ 46 [a0, a1, a2, a3, a4] st h Q = iWp d mX9_moves_ 47 [a0, a1, a2, a3, a4] (.int 0 :: st) h Q := w_iconst dX9_moves__46 rfl
theorem X9_moves__47 : iWp d mX9_moves_ 47 [a0, a1, a2, a3, a4] (.int x :: st) h Q = iWp d mX9_moves_ 49 [a0, a1, a2, iClr a3, .int x] st h Q := w_istore dX9_moves__47 (Nat.le_of_ble_eq_true rfl) rfl
theorem X9_moves__49 : iWp d mX9_moves_ 49 [a0, a1, a2, a3, .int x] st h Q = iWp d mX9_moves_ 51 [a0, a1, a2, a3, .int x] (.int x :: st) h Q := w_iload dX9_moves__49 rfl
theorem X9_moves__51 : iWp d mX9_moves_ 51 [.ref p, a1, a2, a3, a4] st h Q = iWp d mX9_moves_ 52 [.ref p, a1, a2, a3, a4] (.ref p :: st) h Q := w_aload_n dX9_moves__51 rfl
theorem X9_moves__52 : iWp d mX9_moves_ 52 [a0, a1, a2, a3, a4] (.ref p :: st) h Q = iOb (iGet h p 9 25) (fun v => iWp d mX9_moves_ 55 [a0, a1, a2, a3, a4] (v :: st) h Q) := w_getf dX9_moves__52 fF_9_200
theorem X9_moves__55 : iWp d mX9_moves_ 55 [a0, a1, a2, a3, a4] (.int y :: .int x :: st) h Q = if y ≤ x then iWp d mX9_moves_ 81 [a0, a1, a2, a3, a4] st h Q else iWp d mX9_moves_ 58 [a0, a1, a2, a3, a4] st h Q := w_icmp_ge dX9_moves__55 rfl
theorem X9_moves__58 : iWp d mX9_moves_ 58 [.ref p, a1, a2, a3, a4] st h Q = iWp d mX9_moves_ 59 [.ref p, a1, a2, a3, a4] (.ref p :: st) h Q := w_aload_n dX9_moves__58 rfl
theorem X9_moves__59 : iWp d mX9_moves_ 59 [a0, a1, a2, a3, a4] (.ref p :: st) h Q = iOb (iGet h p 9 26) (fun v => iWp d mX9_moves_ 62 [a0, a1, a2, a3, a4] (v :: st) h Q) := w_getf dX9_moves__59 fF_9_62
theorem X9_moves__62 : iWp d mX9_moves_ 62 [a0, a1, a2, a3, a4] st h Q = iWp d mX9_moves_ 64 [a0, a1, a2, a3, a4] (.int 7 :: st) h Q := w_bipush dX9_moves__62 rfl
theorem X9_moves__64 : iWp d mX9_moves_ 64 [a0, a1, a2, a3, .int x] st h Q = iWp d mX9_moves_ 66 [a0, a1, a2, a3, .int x] (.int x :: st) h Q := w_iload dX9_moves__64 rfl
theorem X9_moves__66 : iWp d mX9_moves_ 66 [a0, a1, a2, a3, a4] (.int y :: .int x :: st) h Q = iWp d mX9_moves_ 67 [a0, a1, a2, a3, a4] (.int (x * y) :: st) h Q := w_imul dX9_moves__66
theorem X9_moves__67 : iWp d mX9_moves_ 67 [a0, a1, a2, a3, a4] (.int x :: .ref p :: st) h Q = iOb (iLdI h p x) (fun v => iWp d mX9_moves_ 68 [a0, a1, a2, a3, a4] (.int v :: st) h Q) := w_iaload dX9_moves__67
theorem X9_moves__68 : iWp d mX9_moves_ 68 [a0, a1, a2, a3, a4] st h Q = iWp d mX9_moves_ 69 [a0, a1, a2, a3, a4] (.int 3 :: st) h Q := w_iconst dX9_moves__68 rfl
theorem X9_moves__69 : iWp d mX9_moves_ 69 [a0, a1, a2, a3, a4] (.int y :: .int x :: st) h Q = if x = y then iWp d mX9_moves_ 72 [a0, a1, a2, a3, a4] st h Q else iWp d mX9_moves_ 75 [a0, a1, a2, a3, a4] st h Q := w_icmp_ne dX9_moves__69 rfl
theorem X9_moves__72 : iWp d mX9_moves_ 72 [a0, a1, a2, .int x, a4] st h Q = iWp d mX9_moves_ 75 [a0, a1, iClr a2, .int (x + 1), a4] st h Q := w_iinc dX9_moves__72 rfl (Nat.le_of_ble_eq_true rfl) rfl
theorem X9_moves__75 : iWp d mX9_moves_ 75 [a0, a1, a2, a3, .int x] st h Q = iWp d mX9_moves_ 78 [a0, a1, a2, iClr a3, .int (x + 1)] st h Q := w_iinc dX9_moves__75 rfl (Nat.le_of_ble_eq_true rfl) rfl
theorem X9_moves__78 : iWp d mX9_moves_ 78 [a0, a1, a2, a3, a4] st h Q = iWp d mX9_moves_ 49 [a0, a1, a2, a3, a4] st h Q := w_goto dX9_moves__78 rfl
theorem X9_moves__81 : iWp d mX9_moves_ 81 [a0, a1, a2, .int x, a4] st h Q = iWp d mX9_moves_ 82 [a0, a1, a2, .int x, a4] (.int x :: st) h Q := w_iload_n dX9_moves__81 rfl
theorem X9_moves__82 : iWp d mX9_moves_ 82 [a0, a1, a2, a3, a4] [.int x] h Q = Q (some (.int x)) h := w_ireti dX9_moves__82 rfl
theorem I9_moves_ {Q : Option Value → iHp → Prop} (hw : iWp 9 mX9_moves_ 0 [.ref p, .int x0, .int x1, iU, iU] [] h Q) : ∃ r h1, iEv mX9_moves_ [.ref p, .int x0, .int x1] h r h1 ∧ Q r h1 := iEv_of (by rfl) rfl hw
theorem J9_moves_ {r : Option Value} {h1 : iHp} (hw : iWp 9 mX9_moves_ 0 [.ref p, .int x0, .int x1, iU, iU] [] h (fun r' h' => r' = r ∧ h' = h1)) : iEv mX9_moves_ [.ref p, .int x0, .int x1] h r h1 := iEv_ev (by rfl) rfl hw
theorem X9_newPatch_0 : iWp d mX9_newPatch 0 [.ref p, a1, a2, a3, a4] st h Q = iWp d mX9_newPatch 1 [.ref p, a1, a2, a3, a4] (.ref p :: st) h Q := w_aload_n dX9_newPatch_0 rfl
theorem X9_newPatch_1 : iWp d mX9_newPatch 1 [a0, a1, a2, a3, a4] (.ref p :: st) h Q = iOb (iGet h p 9 5) (fun v => iWp d mX9_newPatch 4 [a0, a1, a2, a3, a4] (v :: st) h Q) := w_getf dX9_newPatch_1 fF_9_110
theorem X9_newPatch_4 : iWp d mX9_newPatch 4 [a0, a1, a2, a3, a4] st h Q = iWp d mX9_newPatch 6 [a0, a1, a2, a3, a4] (.int 16 :: st) h Q := w_bipush dX9_newPatch_4 rfl
theorem X9_newPatch_6 : iWp d mX9_newPatch 6 [a0, a1, a2, a3, a4] (.int y :: .int x :: st) h Q = if x = y then iWp d mX9_newPatch 18 [a0, a1, a2, a3, a4] st h Q else iWp d mX9_newPatch 9 [a0, a1, a2, a3, a4] st h Q := w_icmp_eq dX9_newPatch_6 rfl
theorem X9_newPatch_9 : iWp d mX9_newPatch 9 [.ref p, a1, a2, a3, a4] st h Q = iWp d mX9_newPatch 10 [.ref p, a1, a2, a3, a4] (.ref p :: st) h Q := w_aload_n dX9_newPatch_9 rfl
theorem X9_newPatch_10 : iWp d mX9_newPatch 10 [a0, a1, a2, a3, a4] (.ref p :: st) h Q = iOb (iGet h p 9 25) (fun v => iWp d mX9_newPatch 13 [a0, a1, a2, a3, a4] (v :: st) h Q) := w_getf dX9_newPatch_10 fF_9_200
theorem X9_newPatch_13 : iWp d mX9_newPatch 13 [a0, a1, a2, a3, a4] st h Q = iWp d mX9_newPatch 15 [a0, a1, a2, a3, a4] (.int 120 :: st) h Q := w_bipush dX9_newPatch_13 rfl
theorem X9_newPatch_15 : iWp d mX9_newPatch 15 [a0, a1, a2, a3, a4] (.int y :: .int x :: st) h Q = if x ≤ y then iWp d mX9_newPatch 25 [a0, a1, a2, a3, a4] st h Q else iWp d mX9_newPatch 18 [a0, a1, a2, a3, a4] st h Q := w_icmp_le dX9_newPatch_15 rfl
theorem X9_newPatch_18 : iWp d mX9_newPatch 18 [.ref p, a1, a2, a3, a4] st h Q = iWp d mX9_newPatch 19 [.ref p, a1, a2, a3, a4] (.ref p :: st) h Q := w_aload_n dX9_newPatch_18 rfl
theorem X9_newPatch_19 : iWp d mX9_newPatch 19 [a0, a1, a2, a3, a4] st h Q = iWp d mX9_newPatch 21 [a0, a1, a2, a3, a4] (.int (-7) :: st) h Q := w_bipush dX9_newPatch_19 rfl
theorem X9_newPatch_21 (he : iEv mX9_no [.ref p, .int x0] h (some (.int rv)) h2) (ho : iObj h p 9 = true) : iWp 2 mX9_newPatch 21 [a0, a1, a2, a3, a4] [.int x0, .ref p] h Q = iWp 2 mX9_newPatch 24 [a0, a1, a2, a3, a4] [.int rv] h2 Q := iWp_cV dX9_newPatch_21 fK_9_99 rfl rfl ho (Nat.le_of_ble_eq_true rfl) (Nat.le_of_ble_eq_true rfl) rfl (Nat.le_of_ble_eq_true rfl) he rfl
theorem X9_newPatch_24 : iWp d mX9_newPatch 24 [a0, a1, a2, a3, a4] [.int x] h Q = Q (some (.int x)) h := w_ireti dX9_newPatch_24 rfl
theorem X9_newPatch_25 : iWp d mX9_newPatch 25 [.ref p, a1, a2, a3, a4] st h Q = iWp d mX9_newPatch 26 [.ref p, a1, a2, a3, a4] (.ref p :: st) h Q := w_aload_n dX9_newPatch_25 rfl
theorem X9_newPatch_26 : iWp d mX9_newPatch 26 [a0, a1, a2, a3, a4] (.ref p :: st) h Q = iWp d mX9_newPatch 27 [a0, a1, a2, a3, a4] (.ref p :: .ref p :: st) h Q := w_dup dX9_newPatch_26 rfl
theorem X9_newPatch_27 : iWp d mX9_newPatch 27 [a0, a1, a2, a3, a4] (.ref p :: st) h Q = iOb (iGet h p 9 5) (fun v => iWp d mX9_newPatch 30 [a0, a1, a2, a3, a4] (v :: st) h Q) := w_getf dX9_newPatch_27 fF_9_110
theorem X9_newPatch_30 : iWp d mX9_newPatch 30 [a0, a1, a2, a3, a4] (.int x :: .ref q :: st) h Q = iWp d mX9_newPatch 31 [a0, a1, a2, a3, a4] (.int x :: .ref q :: .int x :: st) h Q := w_dup_x1 dX9_newPatch_30 ⟨rfl, rfl⟩
theorem X9_newPatch_31 : iWp d mX9_newPatch 31 [a0, a1, a2, a3, a4] st h Q = iWp d mX9_newPatch 32 [a0, a1, a2, a3, a4] (.int 1 :: st) h Q := w_iconst dX9_newPatch_31 rfl
theorem X9_newPatch_32 : iWp d mX9_newPatch 32 [a0, a1, a2, a3, a4] (.int y :: .int x :: st) h Q = iWp d mX9_newPatch 33 [a0, a1, a2, a3, a4] (.int (x + y) :: st) h Q := w_iadd dX9_newPatch_32
theorem X9_newPatch_33 : iWp d mX9_newPatch 33 [a0, a1, a2, a3, a4] (.int x :: .ref p :: st) h Q = iOb (iPut h p 9 5 (.int x)) (fun g => iWp d mX9_newPatch 36 [a0, a1, a2, a3, a4] st g Q) := w_putf dX9_newPatch_33 fF_9_110 ⟨rfl, (Or.inl rfl)⟩
theorem X9_newPatch_36 : iWp d mX9_newPatch 36 [a0, a1, a2, a3, a4] (.int x :: st) h Q = iWp d mX9_newPatch 37 [a0, a1, iClr a2, .int x, a4] st h Q := w_istore_n dX9_newPatch_36 (Nat.le_of_ble_eq_true rfl) rfl
theorem X9_newPatch_37 : iWp d mX9_newPatch 37 [.ref p, a1, a2, a3, a4] st h Q = iWp d mX9_newPatch 38 [.ref p, a1, a2, a3, a4] (.ref p :: st) h Q := w_aload_n dX9_newPatch_37 rfl
theorem X9_newPatch_38 : iWp d mX9_newPatch 38 [a0, a1, a2, a3, a4] (.ref p :: st) h Q = iWp d mX9_newPatch 39 [a0, a1, a2, a3, a4] (.ref p :: .ref p :: st) h Q := w_dup dX9_newPatch_38 rfl
theorem X9_newPatch_39 : iWp d mX9_newPatch 39 [a0, a1, a2, a3, a4] (.ref p :: st) h Q = iOb (iGet h p 9 6) (fun v => iWp d mX9_newPatch 42 [a0, a1, a2, a3, a4] (v :: st) h Q) := w_getf dX9_newPatch_39 fF_9_239
theorem X9_newPatch_42 : iWp d mX9_newPatch 42 [a0, a1, a2, a3, a4] st h Q = iWp d mX9_newPatch 43 [a0, a1, a2, a3, a4] (.int 1 :: st) h Q := w_iconst dX9_newPatch_42 rfl
theorem X9_newPatch_43 : iWp d mX9_newPatch 43 [a0, a1, a2, a3, a4] (.int y :: .int x :: st) h Q = iWp d mX9_newPatch 44 [a0, a1, a2, a3, a4] (.int (x + y) :: st) h Q := w_iadd dX9_newPatch_43
theorem X9_newPatch_44 : iWp d mX9_newPatch 44 [a0, a1, a2, a3, a4] (.int x :: .ref p :: st) h Q = iOb (iPut h p 9 6 (.int x)) (fun g => iWp d mX9_newPatch 47 [a0, a1, a2, a3, a4] st g Q) := w_putf dX9_newPatch_44 fF_9_239 ⟨rfl, (Or.inl rfl)⟩
theorem X9_newPatch_47 : iWp d mX9_newPatch 47 [.ref p, a1, a2, a3, a4] st h Q = iWp d mX9_newPatch 48 [.ref p, a1, a2, a3, a4] (.ref p :: st) h Q := w_aload_n dX9_newPatch_47 rfl
theorem X9_newPatch_48 : iWp d mX9_newPatch 48 [a0, a1, a2, a3, a4] (.ref p :: st) h Q = iOb (iGet h p 9 7) (fun v => iWp d mX9_newPatch 51 [a0, a1, a2, a3, a4] (v :: st) h Q) := w_getf dX9_newPatch_48 fF_9_22
theorem X9_newPatch_51 : iWp d mX9_newPatch 51 [a0, a1, a2, .int x, a4] st h Q = iWp d mX9_newPatch 52 [a0, a1, a2, .int x, a4] (.int x :: st) h Q := w_iload_n dX9_newPatch_51 rfl
theorem X9_newPatch_52 : iWp d mX9_newPatch 52 [.ref p, a1, a2, a3, a4] st h Q = iWp d mX9_newPatch 53 [.ref p, a1, a2, a3, a4] (.ref p :: st) h Q := w_aload_n dX9_newPatch_52 rfl
theorem X9_newPatch_53 : iWp d mX9_newPatch 53 [a0, a1, a2, a3, a4] (.ref p :: st) h Q = iOb (iGet h p 9 25) (fun v => iWp d mX9_newPatch 56 [a0, a1, a2, a3, a4] (v :: st) h Q) := w_getf dX9_newPatch_53 fF_9_200
theorem X9_newPatch_56 : iWp d mX9_newPatch 56 [a0, a1, a2, a3, a4] (.int y :: .int x :: .ref p :: st) h Q = iOb (iStI h p x y) (fun g => iWp d mX9_newPatch 57 [a0, a1, a2, a3, a4] st g Q) := w_iastore dX9_newPatch_56
theorem X9_newPatch_57 : iWp d mX9_newPatch 57 [.ref p, a1, a2, a3, a4] st h Q = iWp d mX9_newPatch 58 [.ref p, a1, a2, a3, a4] (.ref p :: st) h Q := w_aload_n dX9_newPatch_57 rfl
theorem X9_newPatch_58 : iWp d mX9_newPatch 58 [a0, a1, a2, a3, a4] (.ref p :: st) h Q = iOb (iGet h p 9 7) (fun v => iWp d mX9_newPatch 61 [a0, a1, a2, a3, a4] (v :: st) h Q) := w_getf dX9_newPatch_58 fF_9_22
theorem X9_newPatch_61 : iWp d mX9_newPatch 61 [a0, a1, a2, a3, a4] st h Q = iWp d mX9_newPatch 63 [a0, a1, a2, a3, a4] (.int 16 :: st) h Q := w_bipush dX9_newPatch_61 rfl
theorem X9_newPatch_63 : iWp d mX9_newPatch 63 [a0, a1, a2, .int x, a4] st h Q = iWp d mX9_newPatch 64 [a0, a1, a2, .int x, a4] (.int x :: st) h Q := w_iload_n dX9_newPatch_63 rfl
theorem X9_newPatch_64 : iWp d mX9_newPatch 64 [a0, a1, a2, a3, a4] (.int y :: .int x :: st) h Q = iWp d mX9_newPatch 65 [a0, a1, a2, a3, a4] (.int (x + y) :: st) h Q := w_iadd dX9_newPatch_64
theorem X9_newPatch_65 : iWp d mX9_newPatch 65 [.ref p, a1, a2, a3, a4] st h Q = iWp d mX9_newPatch 66 [.ref p, a1, a2, a3, a4] (.ref p :: st) h Q := w_aload_n dX9_newPatch_65 rfl
theorem X9_newPatch_66 : iWp d mX9_newPatch 66 [a0, a1, a2, a3, a4] (.ref p :: st) h Q = iOb (iGet h p 9 6) (fun v => iWp d mX9_newPatch 69 [a0, a1, a2, a3, a4] (v :: st) h Q) := w_getf dX9_newPatch_66 fF_9_239
theorem X9_newPatch_69 : iWp d mX9_newPatch 69 [a0, a1, a2, a3, a4] (.int y :: .int x :: .ref p :: st) h Q = iOb (iStI h p x y) (fun g => iWp d mX9_newPatch 70 [a0, a1, a2, a3, a4] st g Q) := w_iastore dX9_newPatch_69
theorem X9_newPatch_70 : iWp d mX9_newPatch 70 [.ref p, a1, a2, a3, a4] st h Q = iWp d mX9_newPatch 71 [.ref p, a1, a2, a3, a4] (.ref p :: st) h Q := w_aload_n dX9_newPatch_70 rfl
theorem X9_newPatch_71 : iWp d mX9_newPatch 71 [a0, a1, a2, a3, a4] (.ref p :: st) h Q = iOb (iGet h p 9 7) (fun v => iWp d mX9_newPatch 74 [a0, a1, a2, a3, a4] (v :: st) h Q) := w_getf dX9_newPatch_71 fF_9_22
theorem X9_newPatch_74 : iWp d mX9_newPatch 74 [a0, a1, a2, a3, a4] st h Q = iWp d mX9_newPatch 76 [a0, a1, a2, a3, a4] (.int 32 :: st) h Q := w_bipush dX9_newPatch_74 rfl
theorem X9_newPatch_76 : iWp d mX9_newPatch 76 [a0, a1, a2, .int x, a4] st h Q = iWp d mX9_newPatch 77 [a0, a1, a2, .int x, a4] (.int x :: st) h Q := w_iload_n dX9_newPatch_76 rfl
theorem X9_newPatch_77 : iWp d mX9_newPatch 77 [a0, a1, a2, a3, a4] (.int y :: .int x :: st) h Q = iWp d mX9_newPatch 78 [a0, a1, a2, a3, a4] (.int (x + y) :: st) h Q := w_iadd dX9_newPatch_77
theorem X9_newPatch_78 : iWp d mX9_newPatch 78 [a0, .int x, a2, a3, a4] st h Q = iWp d mX9_newPatch 79 [a0, .int x, a2, a3, a4] (.int x :: st) h Q := w_iload_n dX9_newPatch_78 rfl
theorem X9_newPatch_79 : iWp d mX9_newPatch 79 [a0, a1, a2, a3, a4] (.int y :: .int x :: .ref p :: st) h Q = iOb (iStI h p x y) (fun g => iWp d mX9_newPatch 80 [a0, a1, a2, a3, a4] st g Q) := w_iastore dX9_newPatch_79
theorem X9_newPatch_80 : iWp d mX9_newPatch 80 [.ref p, a1, a2, a3, a4] st h Q = iWp d mX9_newPatch 81 [.ref p, a1, a2, a3, a4] (.ref p :: st) h Q := w_aload_n dX9_newPatch_80 rfl
theorem X9_newPatch_81 : iWp d mX9_newPatch 81 [a0, a1, a2, a3, a4] (.ref p :: st) h Q = iOb (iGet h p 9 7) (fun v => iWp d mX9_newPatch 84 [a0, a1, a2, a3, a4] (v :: st) h Q) := w_getf dX9_newPatch_81 fF_9_22
theorem X9_newPatch_84 : iWp d mX9_newPatch 84 [a0, a1, a2, a3, a4] st h Q = iWp d mX9_newPatch 86 [a0, a1, a2, a3, a4] (.int 48 :: st) h Q := w_bipush dX9_newPatch_84 rfl
theorem X9_newPatch_86 : iWp d mX9_newPatch 86 [a0, a1, a2, .int x, a4] st h Q = iWp d mX9_newPatch 87 [a0, a1, a2, .int x, a4] (.int x :: st) h Q := w_iload_n dX9_newPatch_86 rfl
theorem X9_newPatch_87 : iWp d mX9_newPatch 87 [a0, a1, a2, a3, a4] (.int y :: .int x :: st) h Q = iWp d mX9_newPatch 88 [a0, a1, a2, a3, a4] (.int (x + y) :: st) h Q := w_iadd dX9_newPatch_87
theorem X9_newPatch_88 : iWp d mX9_newPatch 88 [a0, a1, .int x, a3, a4] st h Q = iWp d mX9_newPatch 89 [a0, a1, .int x, a3, a4] (.int x :: st) h Q := w_iload_n dX9_newPatch_88 rfl
theorem X9_newPatch_89 : iWp d mX9_newPatch 89 [a0, a1, a2, a3, a4] (.int y :: .int x :: .ref p :: st) h Q = iOb (iStI h p x y) (fun g => iWp d mX9_newPatch 90 [a0, a1, a2, a3, a4] st g Q) := w_iastore dX9_newPatch_89
theorem X9_newPatch_90 : iWp d mX9_newPatch 90 [.ref p, a1, a2, a3, a4] st h Q = iWp d mX9_newPatch 91 [.ref p, a1, a2, a3, a4] (.ref p :: st) h Q := w_aload_n dX9_newPatch_90 rfl
theorem X9_newPatch_91 : iWp d mX9_newPatch 91 [a0, a1, a2, a3, a4] (.ref p :: st) h Q = iOb (iGet h p 9 7) (fun v => iWp d mX9_newPatch 94 [a0, a1, a2, a3, a4] (v :: st) h Q) := w_getf dX9_newPatch_91 fF_9_22
theorem X9_newPatch_94 : iWp d mX9_newPatch 94 [a0, a1, a2, a3, a4] st h Q = iWp d mX9_newPatch 96 [a0, a1, a2, a3, a4] (.int 64 :: st) h Q := w_bipush dX9_newPatch_94 rfl
theorem X9_newPatch_96 : iWp d mX9_newPatch 96 [a0, a1, a2, .int x, a4] st h Q = iWp d mX9_newPatch 97 [a0, a1, a2, .int x, a4] (.int x :: st) h Q := w_iload_n dX9_newPatch_96 rfl
theorem X9_newPatch_97 : iWp d mX9_newPatch 97 [a0, a1, a2, a3, a4] (.int y :: .int x :: st) h Q = iWp d mX9_newPatch 98 [a0, a1, a2, a3, a4] (.int (x + y) :: st) h Q := w_iadd dX9_newPatch_97
theorem X9_newPatch_98 : iWp d mX9_newPatch 98 [a0, .int x, a2, a3, a4] st h Q = iWp d mX9_newPatch 99 [a0, .int x, a2, a3, a4] (.int x :: st) h Q := w_iload_n dX9_newPatch_98 rfl
theorem X9_newPatch_99 : iWp d mX9_newPatch 99 [a0, a1, a2, a3, a4] st h Q = iWp d mX9_newPatch 100 [a0, a1, a2, a3, a4] (.int 3 :: st) h Q := w_iconst dX9_newPatch_99 rfl
theorem X9_newPatch_100 : iWp d mX9_newPatch 100 [a0, a1, a2, a3, a4] (.int y :: .int x :: st) h Q = if x = y then iWp d mX9_newPatch 103 [a0, a1, a2, a3, a4] st h Q else iWp d mX9_newPatch 110 [a0, a1, a2, a3, a4] st h Q := w_icmp_ne dX9_newPatch_100 rfl
theorem X9_newPatch_103 : iWp d mX9_newPatch 103 [.ref p, a1, a2, a3, a4] st h Q = iWp d mX9_newPatch 104 [.ref p, a1, a2, a3, a4] (.ref p :: st) h Q := w_aload_n dX9_newPatch_103 rfl
theorem X9_newPatch_104 : iWp d mX9_newPatch 104 [a0, a1, a2, a3, a4] (.ref p :: st) h Q = iOb (iGet h p 9 27) (fun v => iWp d mX9_newPatch 107 [a0, a1, a2, a3, a4] (v :: st) h Q) := w_getf dX9_newPatch_104 fF_9_242
theorem X9_newPatch_107 : iWp d mX9_newPatch 107 [a0, a1, a2, a3, a4] st h Q = iWp d mX9_newPatch 111 [a0, a1, a2, a3, a4] st h Q := w_goto dX9_newPatch_107 rfl
theorem X9_newPatch_110 : iWp d mX9_newPatch 110 [a0, a1, a2, a3, a4] st h Q = iWp d mX9_newPatch 111 [a0, a1, a2, a3, a4] (.int 0 :: st) h Q := w_iconst dX9_newPatch_110 rfl
theorem X9_newPatch_111 : iWp d mX9_newPatch 111 [a0, a1, a2, a3, a4] (.int y :: .int x :: .ref p :: st) h Q = iOb (iStI h p x y) (fun g => iWp d mX9_newPatch 112 [a0, a1, a2, a3, a4] st g Q) := w_iastore dX9_newPatch_111
theorem X9_newPatch_112 : iWp d mX9_newPatch 112 [a0, a1, a2, a3, a4] st h Q = iWp d mX9_newPatch 113 [a0, a1, a2, a3, a4] (.int 0 :: st) h Q := w_iconst dX9_newPatch_112 rfl
theorem X9_newPatch_113 : iWp d mX9_newPatch 113 [a0, a1, a2, a3, a4] (.int x :: st) h Q = iWp d mX9_newPatch 115 [a0, a1, a2, iClr a3, .int x] st h Q := w_istore dX9_newPatch_113 (Nat.le_of_ble_eq_true rfl) rfl
theorem X9_newPatch_115 : iWp d mX9_newPatch 115 [a0, a1, a2, a3, .int x] st h Q = iWp d mX9_newPatch 117 [a0, a1, a2, a3, .int x] (.int x :: st) h Q := w_iload dX9_newPatch_115 rfl
theorem X9_newPatch_117 : iWp d mX9_newPatch 117 [a0, a1, a2, a3, a4] st h Q = iWp d mX9_newPatch 119 [a0, a1, a2, a3, a4] (.int 7 :: st) h Q := w_bipush dX9_newPatch_117 rfl
theorem X9_newPatch_119 : iWp d mX9_newPatch 119 [.ref p, a1, a2, a3, a4] st h Q = iWp d mX9_newPatch 120 [.ref p, a1, a2, a3, a4] (.ref p :: st) h Q := w_aload_n dX9_newPatch_119 rfl
theorem X9_newPatch_120 : iWp d mX9_newPatch 120 [a0, a1, a2, a3, a4] (.ref p :: st) h Q = iOb (iGet h p 9 25) (fun v => iWp d mX9_newPatch 123 [a0, a1, a2, a3, a4] (v :: st) h Q) := w_getf dX9_newPatch_120 fF_9_200
theorem X9_newPatch_123 : iWp d mX9_newPatch 123 [a0, a1, a2, a3, a4] (.int y :: .int x :: st) h Q = iWp d mX9_newPatch 124 [a0, a1, a2, a3, a4] (.int (x * y) :: st) h Q := w_imul dX9_newPatch_123
theorem X9_newPatch_124 : iWp d mX9_newPatch 124 [a0, a1, a2, a3, a4] (.int y :: .int x :: st) h Q = if y ≤ x then iWp d mX9_newPatch 153 [a0, a1, a2, a3, a4] st h Q else iWp d mX9_newPatch 127 [a0, a1, a2, a3, a4] st h Q := w_icmp_ge dX9_newPatch_124 rfl
theorem X9_newPatch_127 : iWp d mX9_newPatch 127 [.ref p, a1, a2, a3, a4] st h Q = iWp d mX9_newPatch 128 [.ref p, a1, a2, a3, a4] (.ref p :: st) h Q := w_aload_n dX9_newPatch_127 rfl
theorem X9_newPatch_128 : iWp d mX9_newPatch 128 [a0, a1, a2, a3, a4] (.ref p :: st) h Q = iOb (iGet h p 9 8) (fun v => iWp d mX9_newPatch 131 [a0, a1, a2, a3, a4] (v :: st) h Q) := w_getf dX9_newPatch_128 fF_9_25
theorem X9_newPatch_131 : iWp d mX9_newPatch 131 [a0, a1, a2, a3, a4] st h Q = iWp d mX9_newPatch 134 [a0, a1, a2, a3, a4] (.int 840 :: st) h Q := w_sipush dX9_newPatch_131 rfl
theorem X9_newPatch_134 : iWp d mX9_newPatch 134 [a0, a1, a2, .int x, a4] st h Q = iWp d mX9_newPatch 135 [a0, a1, a2, .int x, a4] (.int x :: st) h Q := w_iload_n dX9_newPatch_134 rfl
theorem X9_newPatch_135 : iWp d mX9_newPatch 135 [a0, a1, a2, a3, a4] (.int y :: .int x :: st) h Q = iWp d mX9_newPatch 136 [a0, a1, a2, a3, a4] (.int (x * y) :: st) h Q := w_imul dX9_newPatch_135
theorem X9_newPatch_136 : iWp d mX9_newPatch 136 [a0, a1, a2, a3, .int x] st h Q = iWp d mX9_newPatch 138 [a0, a1, a2, a3, .int x] (.int x :: st) h Q := w_iload dX9_newPatch_136 rfl
theorem X9_newPatch_138 : iWp d mX9_newPatch 138 [a0, a1, a2, a3, a4] (.int y :: .int x :: st) h Q = iWp d mX9_newPatch 139 [a0, a1, a2, a3, a4] (.int (x + y) :: st) h Q := w_iadd dX9_newPatch_138
theorem X9_newPatch_139 : iWp d mX9_newPatch 139 [.ref p, a1, a2, a3, a4] st h Q = iWp d mX9_newPatch 140 [.ref p, a1, a2, a3, a4] (.ref p :: st) h Q := w_aload_n dX9_newPatch_139 rfl
theorem X9_newPatch_140 : iWp d mX9_newPatch 140 [a0, a1, a2, a3, a4] (.ref p :: st) h Q = iOb (iGet h p 9 26) (fun v => iWp d mX9_newPatch 143 [a0, a1, a2, a3, a4] (v :: st) h Q) := w_getf dX9_newPatch_140 fF_9_62
theorem X9_newPatch_143 : iWp d mX9_newPatch 143 [a0, a1, a2, a3, .int x] st h Q = iWp d mX9_newPatch 145 [a0, a1, a2, a3, .int x] (.int x :: st) h Q := w_iload dX9_newPatch_143 rfl
theorem X9_newPatch_145 : iWp d mX9_newPatch 145 [a0, a1, a2, a3, a4] (.int x :: .ref p :: st) h Q = iOb (iLdI h p x) (fun v => iWp d mX9_newPatch 146 [a0, a1, a2, a3, a4] (.int v :: st) h Q) := w_iaload dX9_newPatch_145
theorem X9_newPatch_146 : iWp d mX9_newPatch 146 [a0, a1, a2, a3, a4] (.int y :: .int x :: .ref p :: st) h Q = iOb (iStI h p x y) (fun g => iWp d mX9_newPatch 147 [a0, a1, a2, a3, a4] st g Q) := w_iastore dX9_newPatch_146
theorem X9_newPatch_147 : iWp d mX9_newPatch 147 [a0, a1, a2, a3, .int x] st h Q = iWp d mX9_newPatch 150 [a0, a1, a2, iClr a3, .int (x + 1)] st h Q := w_iinc dX9_newPatch_147 rfl (Nat.le_of_ble_eq_true rfl) rfl
theorem X9_newPatch_150 : iWp d mX9_newPatch 150 [a0, a1, a2, a3, a4] st h Q = iWp d mX9_newPatch 115 [a0, a1, a2, a3, a4] st h Q := w_goto dX9_newPatch_150 rfl
theorem X9_newPatch_153 : iWp d mX9_newPatch 153 [a0, a1, a2, a3, a4] st h Q = iWp d mX9_newPatch 154 [a0, a1, a2, a3, a4] (.int 0 :: st) h Q := w_iconst dX9_newPatch_153 rfl
theorem X9_newPatch_154 : iWp d mX9_newPatch 154 [a0, a1, a2, a3, a4] (.int x :: st) h Q = iWp d mX9_newPatch 156 [a0, a1, a2, iClr a3, .int x] st h Q := w_istore dX9_newPatch_154 (Nat.le_of_ble_eq_true rfl) rfl
theorem X9_newPatch_156 : iWp d mX9_newPatch 156 [a0, a1, a2, a3, .int x] st h Q = iWp d mX9_newPatch 158 [a0, a1, a2, a3, .int x] (.int x :: st) h Q := w_iload dX9_newPatch_156 rfl
theorem X9_newPatch_158 : iWp d mX9_newPatch 158 [a0, a1, a2, a3, a4] st h Q = iWp d mX9_newPatch 159 [a0, a1, a2, a3, a4] (.int 2 :: st) h Q := w_iconst dX9_newPatch_158 rfl
theorem X9_newPatch_159 : iWp d mX9_newPatch 159 [.ref p, a1, a2, a3, a4] st h Q = iWp d mX9_newPatch 160 [.ref p, a1, a2, a3, a4] (.ref p :: st) h Q := w_aload_n dX9_newPatch_159 rfl
theorem X9_newPatch_160 : iWp d mX9_newPatch 160 [a0, a1, a2, a3, a4] st h Q = iWp d mX9_newPatch 161 [a0, a1, a2, a3, a4] (.int 4 :: st) h Q := w_iconst dX9_newPatch_160 rfl
theorem X9_newPatch_161 : iWp d mX9_newPatch 161 [a0, a1, a2, .int x, a4] st h Q = iWp d mX9_newPatch 162 [a0, a1, a2, .int x, a4] (.int x :: st) h Q := w_iload_n dX9_newPatch_161 rfl
theorem X9_newPatch_162 (he : iEv mX9_of [.ref p, .int x0, .int x1] h (some (.int rv)) h2) (ho : iObj h p 9 = true) : iWp 2 mX9_newPatch 162 [a0, a1, a2, a3, a4] [.int x1, .int x0, .ref p, .int r0, .int r1] h Q = iWp 2 mX9_newPatch 165 [a0, a1, a2, a3, a4] [.int rv, .int r0, .int r1] h2 Q := iWp_cV dX9_newPatch_162 fK_9_123 rfl rfl ho (Nat.le_of_ble_eq_true rfl) (Nat.le_of_ble_eq_true rfl) rfl (Nat.le_of_ble_eq_true rfl) he rfl
theorem X9_newPatch_165 : iWp d mX9_newPatch 165 [a0, a1, a2, a3, a4] (.int y :: .int x :: st) h Q = iWp d mX9_newPatch 166 [a0, a1, a2, a3, a4] (.int (x * y) :: st) h Q := w_imul dX9_newPatch_165
theorem X9_newPatch_166 : iWp d mX9_newPatch 166 [a0, a1, a2, a3, a4] (.int y :: .int x :: st) h Q = if y ≤ x then iWp d mX9_newPatch 195 [a0, a1, a2, a3, a4] st h Q else iWp d mX9_newPatch 169 [a0, a1, a2, a3, a4] st h Q := w_icmp_ge dX9_newPatch_166 rfl
theorem X9_newPatch_169 : iWp d mX9_newPatch 169 [.ref p, a1, a2, a3, a4] st h Q = iWp d mX9_newPatch 170 [.ref p, a1, a2, a3, a4] (.ref p :: st) h Q := w_aload_n dX9_newPatch_169 rfl
theorem X9_newPatch_170 : iWp d mX9_newPatch 170 [a0, a1, a2, a3, a4] (.ref p :: st) h Q = iOb (iGet h p 9 9) (fun v => iWp d mX9_newPatch 173 [a0, a1, a2, a3, a4] (v :: st) h Q) := w_getf dX9_newPatch_170 fF_9_28
theorem X9_newPatch_173 : iWp d mX9_newPatch 173 [a0, a1, a2, a3, a4] st h Q = iWp d mX9_newPatch 176 [a0, a1, a2, a3, a4] (.int 240 :: st) h Q := w_sipush dX9_newPatch_173 rfl
theorem X9_newPatch_176 : iWp d mX9_newPatch 176 [a0, a1, a2, .int x, a4] st h Q = iWp d mX9_newPatch 177 [a0, a1, a2, .int x, a4] (.int x :: st) h Q := w_iload_n dX9_newPatch_176 rfl
theorem X9_newPatch_177 : iWp d mX9_newPatch 177 [a0, a1, a2, a3, a4] (.int y :: .int x :: st) h Q = iWp d mX9_newPatch 178 [a0, a1, a2, a3, a4] (.int (x * y) :: st) h Q := w_imul dX9_newPatch_177
theorem X9_newPatch_178 : iWp d mX9_newPatch 178 [a0, a1, a2, a3, .int x] st h Q = iWp d mX9_newPatch 180 [a0, a1, a2, a3, .int x] (.int x :: st) h Q := w_iload dX9_newPatch_178 rfl
theorem X9_newPatch_180 : iWp d mX9_newPatch 180 [a0, a1, a2, a3, a4] (.int y :: .int x :: st) h Q = iWp d mX9_newPatch 181 [a0, a1, a2, a3, a4] (.int (x + y) :: st) h Q := w_iadd dX9_newPatch_180
theorem X9_newPatch_181 : iWp d mX9_newPatch 181 [.ref p, a1, a2, a3, a4] st h Q = iWp d mX9_newPatch 182 [.ref p, a1, a2, a3, a4] (.ref p :: st) h Q := w_aload_n dX9_newPatch_181 rfl
theorem X9_newPatch_182 : iWp d mX9_newPatch 182 [a0, a1, a2, a3, a4] (.ref p :: st) h Q = iOb (iGet h p 9 28) (fun v => iWp d mX9_newPatch 185 [a0, a1, a2, a3, a4] (v :: st) h Q) := w_getf dX9_newPatch_182 fF_9_65
theorem X9_newPatch_185 : iWp d mX9_newPatch 185 [a0, a1, a2, a3, .int x] st h Q = iWp d mX9_newPatch 187 [a0, a1, a2, a3, .int x] (.int x :: st) h Q := w_iload dX9_newPatch_185 rfl
theorem X9_newPatch_187 : iWp d mX9_newPatch 187 [a0, a1, a2, a3, a4] (.int x :: .ref p :: st) h Q = iOb (iLdI h p x) (fun v => iWp d mX9_newPatch 188 [a0, a1, a2, a3, a4] (.int v :: st) h Q) := w_iaload dX9_newPatch_187
theorem X9_newPatch_188 : iWp d mX9_newPatch 188 [a0, a1, a2, a3, a4] (.int y :: .int x :: .ref p :: st) h Q = iOb (iStI h p x y) (fun g => iWp d mX9_newPatch 189 [a0, a1, a2, a3, a4] st g Q) := w_iastore dX9_newPatch_188
theorem X9_newPatch_189 : iWp d mX9_newPatch 189 [a0, a1, a2, a3, .int x] st h Q = iWp d mX9_newPatch 192 [a0, a1, a2, iClr a3, .int (x + 1)] st h Q := w_iinc dX9_newPatch_189 rfl (Nat.le_of_ble_eq_true rfl) rfl
theorem X9_newPatch_192 : iWp d mX9_newPatch 192 [a0, a1, a2, a3, a4] st h Q = iWp d mX9_newPatch 156 [a0, a1, a2, a3, a4] st h Q := w_goto dX9_newPatch_192 rfl
theorem X9_newPatch_195 : iWp d mX9_newPatch 195 [a0, a1, a2, .int x, a4] st h Q = iWp d mX9_newPatch 196 [a0, a1, a2, .int x, a4] (.int x :: st) h Q := w_iload_n dX9_newPatch_195 rfl
theorem X9_newPatch_196 : iWp d mX9_newPatch 196 [a0, a1, a2, a3, a4] [.int x] h Q = Q (some (.int x)) h := w_ireti dX9_newPatch_196 rfl
theorem I9_newPatch {Q : Option Value → iHp → Prop} (hw : iWp 2 mX9_newPatch 0 [.ref p, .int x0, .int x1, iU, iU] [] h Q) : ∃ r h1, iEv mX9_newPatch [.ref p, .int x0, .int x1] h r h1 ∧ Q r h1 := iEv_of (by rfl) rfl hw
theorem J9_newPatch {r : Option Value} {h1 : iHp} (hw : iWp 2 mX9_newPatch 0 [.ref p, .int x0, .int x1, iU, iU] [] h (fun r' h' => r' = r ∧ h' = h1)) : iEv mX9_newPatch [.ref p, .int x0, .int x1] h r h1 := iEv_ev (by rfl) rfl hw
theorem X9_next_0 : iWp d mX9_next 0 [.ref p, a1, a2, a3, a4, a5] st h Q = iWp d mX9_next 1 [.ref p, a1, a2, a3, a4, a5] (.ref p :: st) h Q := w_aload_n dX9_next_0 rfl
theorem X9_next_1 : iWp d mX9_next 1 [a0, a1, a2, a3, a4, a5] (.ref p :: st) h Q = iOb (iGet h p 9 4) (fun v => iWp d mX9_next 4 [a0, a1, a2, a3, a4, a5] (v :: st) h Q) := w_getf dX9_next_1 fF_9_19
theorem X9_next_4 : iWp d mX9_next 4 [a0, a1, a2, a3, a4, a5] st h Q = iWp d mX9_next 6 [a0, a1, a2, a3, a4, a5] (.int 64 :: st) h Q := w_bipush dX9_next_4 rfl
theorem X9_next_6 : iWp d mX9_next 6 [a0, .int x, a2, a3, a4, a5] st h Q = iWp d mX9_next 7 [a0, .int x, a2, a3, a4, a5] (.int x :: st) h Q := w_iload_n dX9_next_6 rfl
theorem X9_next_7 : iWp d mX9_next 7 [a0, a1, a2, a3, a4, a5] (.int y :: .int x :: st) h Q = iWp d mX9_next 8 [a0, a1, a2, a3, a4, a5] (.int (x * y) :: st) h Q := w_imul dX9_next_7
theorem X9_next_8 : iWp d mX9_next 8 [a0, a1, .int x, a3, a4, a5] st h Q = iWp d mX9_next 9 [a0, a1, .int x, a3, a4, a5] (.int x :: st) h Q := w_iload_n dX9_next_8 rfl
theorem X9_next_9 : iWp d mX9_next 9 [a0, a1, a2, a3, a4, a5] (.int y :: .int x :: st) h Q = iWp d mX9_next 10 [a0, a1, a2, a3, a4, a5] (.int (x + y) :: st) h Q := w_iadd dX9_next_9
theorem X9_next_10 : iWp d mX9_next 10 [a0, a1, a2, a3, a4, a5] (.int x :: .ref p :: st) h Q = iOb (iLdI h p x) (fun v => iWp d mX9_next 11 [a0, a1, a2, a3, a4, a5] (.int v :: st) h Q) := w_iaload dX9_next_10
theorem X9_next_11 : iWp d mX9_next 11 [a0, a1, a2, a3, a4, a5] (.int x :: st) h Q = iWp d mX9_next 13 [a0, a1, a2, iClr a3, .int x, a5] st h Q := w_istore dX9_next_11 (Nat.le_of_ble_eq_true rfl) rfl
theorem X9_next_13 : iWp d mX9_next 13 [a0, a1, a2, .int x, a4, a5] st h Q = iWp d mX9_next 14 [a0, a1, a2, .int x, a4, a5] (.int x :: st) h Q := w_iload_n dX9_next_13 rfl
theorem X9_next_14 : iWp d mX9_next 14 [a0, a1, a2, a3, a4, a5] st h Q = iWp d mX9_next 15 [a0, a1, a2, a3, a4, a5] (.int 1 :: st) h Q := w_iconst dX9_next_14 rfl
theorem X9_next_15 : iWp d mX9_next 15 [a0, a1, a2, a3, a4, a5] (.int y :: .int x :: st) h Q = iWp d mX9_next 16 [a0, a1, a2, a3, a4, a5] (.int (x + y) :: st) h Q := w_iadd dX9_next_15
theorem X9_next_16 : iWp d mX9_next 16 [a0, a1, a2, a3, a4, a5] (.int x :: st) h Q = iWp d mX9_next 18 [a0, a1, a2, a3, iClr a4, .int x] st h Q := w_istore dX9_next_16 (Nat.le_of_ble_eq_true rfl) rfl
theorem X9_next_18 : iWp d mX9_next 18 [a0, a1, a2, a3, a4, .int x] st h Q = iWp d mX9_next 20 [a0, a1, a2, a3, a4, .int x] (.int x :: st) h Q := w_iload dX9_next_18 rfl
theorem X9_next_20 : iWp d mX9_next 20 [.ref p, a1, a2, a3, a4, a5] st h Q = iWp d mX9_next 21 [.ref p, a1, a2, a3, a4, a5] (.ref p :: st) h Q := w_aload_n dX9_next_20 rfl
theorem X9_next_21 : iWp d mX9_next 21 [a0, a1, a2, a3, a4, a5] (.ref p :: st) h Q = iOb (iGet h p 9 1) (fun v => iWp d mX9_next 24 [a0, a1, a2, a3, a4, a5] (v :: st) h Q) := w_getf dX9_next_21 fF_9_7
theorem X9_next_24 : iWp d mX9_next 24 [a0, .int x, a2, a3, a4, a5] st h Q = iWp d mX9_next 25 [a0, .int x, a2, a3, a4, a5] (.int x :: st) h Q := w_iload_n dX9_next_24 rfl
theorem X9_next_25 : iWp d mX9_next 25 [a0, a1, a2, a3, a4, a5] (.int x :: .ref p :: st) h Q = iOb (iLdI h p x) (fun v => iWp d mX9_next 26 [a0, a1, a2, a3, a4, a5] (.int v :: st) h Q) := w_iaload dX9_next_25
theorem X9_next_26 : iWp d mX9_next 26 [a0, a1, a2, a3, a4, a5] (.int y :: .int x :: st) h Q = if y ≤ x then iWp d mX9_next 54 [a0, a1, a2, a3, a4, a5] st h Q else iWp d mX9_next 29 [a0, a1, a2, a3, a4, a5] st h Q := w_icmp_ge dX9_next_26 rfl
theorem X9_next_29 : iWp d mX9_next 29 [.ref p, a1, a2, a3, a4, a5] st h Q = iWp d mX9_next 30 [.ref p, a1, a2, a3, a4, a5] (.ref p :: st) h Q := w_aload_n dX9_next_29 rfl
theorem X9_next_30 : iWp d mX9_next 30 [a0, a1, a2, a3, a4, a5] (.ref p :: st) h Q = iOb (iGet h p 9 4) (fun v => iWp d mX9_next 33 [a0, a1, a2, a3, a4, a5] (v :: st) h Q) := w_getf dX9_next_30 fF_9_19
theorem X9_next_33 : iWp d mX9_next 33 [a0, a1, a2, a3, a4, a5] st h Q = iWp d mX9_next 35 [a0, a1, a2, a3, a4, a5] (.int 64 :: st) h Q := w_bipush dX9_next_33 rfl
theorem X9_next_35 : iWp d mX9_next 35 [a0, .int x, a2, a3, a4, a5] st h Q = iWp d mX9_next 36 [a0, .int x, a2, a3, a4, a5] (.int x :: st) h Q := w_iload_n dX9_next_35 rfl
theorem X9_next_36 : iWp d mX9_next 36 [a0, a1, a2, a3, a4, a5] (.int y :: .int x :: st) h Q = iWp d mX9_next 37 [a0, a1, a2, a3, a4, a5] (.int (x * y) :: st) h Q := w_imul dX9_next_36
theorem X9_next_37 : iWp d mX9_next 37 [a0, a1, a2, a3, a4, .int x] st h Q = iWp d mX9_next 39 [a0, a1, a2, a3, a4, .int x] (.int x :: st) h Q := w_iload dX9_next_37 rfl
theorem X9_next_39 : iWp d mX9_next 39 [a0, a1, a2, a3, a4, a5] (.int y :: .int x :: st) h Q = iWp d mX9_next 40 [a0, a1, a2, a3, a4, a5] (.int (x + y) :: st) h Q := w_iadd dX9_next_39
theorem X9_next_40 : iWp d mX9_next 40 [a0, a1, a2, a3, a4, a5] (.int x :: .ref p :: st) h Q = iOb (iLdI h p x) (fun v => iWp d mX9_next 41 [a0, a1, a2, a3, a4, a5] (.int v :: st) h Q) := w_iaload dX9_next_40
theorem X9_next_41 : iWp d mX9_next 41 [a0, a1, a2, a3, .int x, a5] st h Q = iWp d mX9_next 43 [a0, a1, a2, a3, .int x, a5] (.int x :: st) h Q := w_iload dX9_next_41 rfl
theorem X9_next_43 : iWp d mX9_next 43 [a0, a1, a2, a3, a4, a5] st h Q = iWp d mX9_next 44 [a0, a1, a2, a3, a4, a5] (.int 1 :: st) h Q := w_iconst dX9_next_43 rfl
theorem X9_next_44 : iWp d mX9_next 44 [a0, a1, a2, a3, a4, a5] (.int y :: .int x :: st) h Q = iWp d mX9_next 45 [a0, a1, a2, a3, a4, a5] (.int (x + y) :: st) h Q := w_iadd dX9_next_44
theorem X9_next_45 : iWp d mX9_next 45 [a0, a1, a2, a3, a4, a5] (.int y :: .int x :: st) h Q = if x ≤ y then iWp d mX9_next 54 [a0, a1, a2, a3, a4, a5] st h Q else iWp d mX9_next 48 [a0, a1, a2, a3, a4, a5] st h Q := w_icmp_le dX9_next_45 rfl
theorem X9_next_48 : iWp d mX9_next 48 [a0, a1, a2, a3, a4, .int x] st h Q = iWp d mX9_next 51 [a0, a1, a2, a3, iClr a4, .int (x + 1)] st h Q := w_iinc dX9_next_48 rfl (Nat.le_of_ble_eq_true rfl) rfl
theorem X9_next_51 : iWp d mX9_next 51 [a0, a1, a2, a3, a4, a5] st h Q = iWp d mX9_next 18 [a0, a1, a2, a3, a4, a5] st h Q := w_goto dX9_next_51 rfl
theorem X9_next_54 : iWp d mX9_next 54 [a0, a1, a2, a3, a4, .int x] st h Q = iWp d mX9_next 56 [a0, a1, a2, a3, a4, .int x] (.int x :: st) h Q := w_iload dX9_next_54 rfl
theorem X9_next_56 : iWp d mX9_next 56 [.ref p, a1, a2, a3, a4, a5] st h Q = iWp d mX9_next 57 [.ref p, a1, a2, a3, a4, a5] (.ref p :: st) h Q := w_aload_n dX9_next_56 rfl
theorem X9_next_57 : iWp d mX9_next 57 [a0, a1, a2, a3, a4, a5] (.ref p :: st) h Q = iOb (iGet h p 9 1) (fun v => iWp d mX9_next 60 [a0, a1, a2, a3, a4, a5] (v :: st) h Q) := w_getf dX9_next_57 fF_9_7
theorem X9_next_60 : iWp d mX9_next 60 [a0, .int x, a2, a3, a4, a5] st h Q = iWp d mX9_next 61 [a0, .int x, a2, a3, a4, a5] (.int x :: st) h Q := w_iload_n dX9_next_60 rfl
theorem X9_next_61 : iWp d mX9_next 61 [a0, a1, a2, a3, a4, a5] (.int x :: .ref p :: st) h Q = iOb (iLdI h p x) (fun v => iWp d mX9_next 62 [a0, a1, a2, a3, a4, a5] (.int v :: st) h Q) := w_iaload dX9_next_61
theorem X9_next_62 : iWp d mX9_next 62 [a0, a1, a2, a3, a4, a5] (.int y :: .int x :: st) h Q = if y ≤ x then iWp d mX9_next 89 [a0, a1, a2, a3, a4, a5] st h Q else iWp d mX9_next 65 [a0, a1, a2, a3, a4, a5] st h Q := w_icmp_ge dX9_next_62 rfl
theorem X9_next_65 : iWp d mX9_next 65 [.ref p, a1, a2, a3, a4, a5] st h Q = iWp d mX9_next 66 [.ref p, a1, a2, a3, a4, a5] (.ref p :: st) h Q := w_aload_n dX9_next_65 rfl
theorem X9_next_66 : iWp d mX9_next 66 [a0, a1, a2, a3, a4, a5] (.ref p :: st) h Q = iOb (iGet h p 9 4) (fun v => iWp d mX9_next 69 [a0, a1, a2, a3, a4, a5] (v :: st) h Q) := w_getf dX9_next_66 fF_9_19
theorem X9_next_69 : iWp d mX9_next 69 [a0, a1, a2, a3, a4, a5] st h Q = iWp d mX9_next 71 [a0, a1, a2, a3, a4, a5] (.int 64 :: st) h Q := w_bipush dX9_next_69 rfl
theorem X9_next_71 : iWp d mX9_next 71 [a0, .int x, a2, a3, a4, a5] st h Q = iWp d mX9_next 72 [a0, .int x, a2, a3, a4, a5] (.int x :: st) h Q := w_iload_n dX9_next_71 rfl
theorem X9_next_72 : iWp d mX9_next 72 [a0, a1, a2, a3, a4, a5] (.int y :: .int x :: st) h Q = iWp d mX9_next 73 [a0, a1, a2, a3, a4, a5] (.int (x * y) :: st) h Q := w_imul dX9_next_72
theorem X9_next_73 : iWp d mX9_next 73 [a0, a1, a2, a3, a4, .int x] st h Q = iWp d mX9_next 75 [a0, a1, a2, a3, a4, .int x] (.int x :: st) h Q := w_iload dX9_next_73 rfl
theorem X9_next_75 : iWp d mX9_next 75 [a0, a1, a2, a3, a4, a5] (.int y :: .int x :: st) h Q = iWp d mX9_next 76 [a0, a1, a2, a3, a4, a5] (.int (x + y) :: st) h Q := w_iadd dX9_next_75
theorem X9_next_76 : iWp d mX9_next 76 [a0, a1, a2, a3, a4, a5] (.int x :: .ref p :: st) h Q = iOb (iLdI h p x) (fun v => iWp d mX9_next 77 [a0, a1, a2, a3, a4, a5] (.int v :: st) h Q) := w_iaload dX9_next_76
theorem X9_next_77 : iWp d mX9_next 77 [a0, a1, a2, a3, .int x, a5] st h Q = iWp d mX9_next 79 [a0, a1, a2, a3, .int x, a5] (.int x :: st) h Q := w_iload dX9_next_77 rfl
theorem X9_next_79 : iWp d mX9_next 79 [a0, a1, a2, a3, a4, a5] st h Q = iWp d mX9_next 80 [a0, a1, a2, a3, a4, a5] (.int 1 :: st) h Q := w_iconst dX9_next_79 rfl
theorem X9_next_80 : iWp d mX9_next 80 [a0, a1, a2, a3, a4, a5] (.int y :: .int x :: st) h Q = iWp d mX9_next 81 [a0, a1, a2, a3, a4, a5] (.int (x + y) :: st) h Q := w_iadd dX9_next_80
theorem X9_next_81 : iWp d mX9_next 81 [a0, a1, a2, a3, a4, a5] (.int y :: .int x :: st) h Q = if x = y then iWp d mX9_next 84 [a0, a1, a2, a3, a4, a5] st h Q else iWp d mX9_next 89 [a0, a1, a2, a3, a4, a5] st h Q := w_icmp_ne dX9_next_81 rfl
theorem X9_next_84 : iWp d mX9_next 84 [a0, a1, a2, a3, a4, .int x] st h Q = iWp d mX9_next 86 [a0, a1, a2, a3, a4, .int x] (.int x :: st) h Q := w_iload dX9_next_84 rfl
theorem X9_next_86 : iWp d mX9_next 86 [a0, a1, a2, a3, a4, a5] st h Q = iWp d mX9_next 90 [a0, a1, a2, a3, a4, a5] st h Q := w_goto dX9_next_86 rfl
theorem X9_next_89 : iWp d mX9_next 89 [a0, a1, a2, a3, a4, a5] st h Q = iWp d mX9_next 90 [a0, a1, a2, a3, a4, a5] (.int (-1) :: st) h Q := w_iconst dX9_next_89 rfl
theorem X9_next_90 : iWp d mX9_next 90 [a0, a1, a2, a3, a4, a5] [.int x] h Q = Q (some (.int x)) h := w_ireti dX9_next_90 rfl
theorem I9_next {Q : Option Value → iHp → Prop} (hw : iWp 1 mX9_next 0 [.ref p, .int x0, .int x1, .int x2, iU, iU] [] h Q) : ∃ r h1, iEv mX9_next [.ref p, .int x0, .int x1, .int x2] h r h1 ∧ Q r h1 := iEv_of (by rfl) rfl hw
theorem J9_next {r : Option Value} {h1 : iHp} (hw : iWp 1 mX9_next 0 [.ref p, .int x0, .int x1, .int x2, iU, iU] [] h (fun r' h' => r' = r ∧ h' = h1)) : iEv mX9_next [.ref p, .int x0, .int x1, .int x2] h r h1 := iEv_ev (by rfl) rfl hw
theorem X9_no_0 : iWp d mX9_no 0 [.ref p, a1] st h Q = iWp d mX9_no 1 [.ref p, a1] (.ref p :: st) h Q := w_aload_n dX9_no_0 rfl
theorem X9_no_1 : iWp d mX9_no 1 [a0, a1] (.ref p :: st) h Q = iOb (iGet h p 9 17) (fun v => iWp d mX9_no 4 [a0, a1] (v :: st) h Q) := w_getf dX9_no_1 fF_9_41
theorem X9_no_4 : iWp d mX9_no 4 [a0, .int x] st h Q = iWp d mX9_no 5 [a0, .int x] (.int x :: st) h Q := w_iload_n dX9_no_4 rfl
theorem X9_no_5 : iWp d mX9_no 5 [a0, a1] (.int x :: st) h Q = iWp d mX9_no 6 [a0, a1] (.int (-x) :: st) h Q := w_ineg dX9_no_5
theorem X9_no_6 : iWp d mX9_no 6 [a0, a1] (.int x :: .ref q :: st) h Q = iWp d mX9_no 7 [a0, a1] (.int x :: .ref q :: .int x :: .ref q :: st) h Q := w_dup2 dX9_no_6 ⟨rfl, rfl⟩
theorem X9_no_7 : iWp d mX9_no 7 [a0, a1] (.int x :: .ref p :: st) h Q = iOb (iLdI h p x) (fun v => iWp d mX9_no 8 [a0, a1] (.int v :: st) h Q) := w_iaload dX9_no_7
theorem X9_no_8 : iWp d mX9_no 8 [a0, a1] st h Q = iWp d mX9_no 9 [a0, a1] (.int 1 :: st) h Q := w_iconst dX9_no_8 rfl
theorem X9_no_9 : iWp d mX9_no 9 [a0, a1] (.int y :: .int x :: st) h Q = iWp d mX9_no 10 [a0, a1] (.int (x + y) :: st) h Q := w_iadd dX9_no_9
theorem X9_no_10 : iWp d mX9_no 10 [a0, a1] (.int y :: .int x :: .ref p :: st) h Q = iOb (iStI h p x y) (fun g => iWp d mX9_no 11 [a0, a1] st g Q) := w_iastore dX9_no_10
theorem X9_no_11 : iWp d mX9_no 11 [a0, .int x] st h Q = iWp d mX9_no 12 [a0, .int x] (.int x :: st) h Q := w_iload_n dX9_no_11 rfl
theorem X9_no_12 : iWp d mX9_no 12 [a0, a1] [.int x] h Q = Q (some (.int x)) h := w_ireti dX9_no_12 rfl
theorem I9_no {Q : Option Value → iHp → Prop} (hw : iWp 1 mX9_no 0 [.ref p, .int x0] [] h Q) : ∃ r h1, iEv mX9_no [.ref p, .int x0] h r h1 ∧ Q r h1 := iEv_of (by rfl) rfl hw
theorem J9_no {r : Option Value} {h1 : iHp} (hw : iWp 1 mX9_no 0 [.ref p, .int x0] [] h (fun r' h' => r' = r ∧ h' = h1)) : iEv mX9_no [.ref p, .int x0] h r h1 := iEv_ev (by rfl) rfl hw
theorem X9_no10_0 : iWp d mX9_no10 0 [.ref p, a1] st h Q = iWp d mX9_no10 1 [.ref p, a1] (.ref p :: st) h Q := w_aload_n dX9_no10_0 rfl
theorem X9_no10_1 : iWp d mX9_no10 1 [a0, .int x] st h Q = iWp d mX9_no10 2 [a0, .int x] (.int x :: st) h Q := w_iload_n dX9_no10_1 rfl
theorem X9_no10_2 (he : iEv mX9_no [.ref p, .int x0] h (some (.int rv)) h2) (ho : iObj h p 9 = true) : iWp 2 mX9_no10 2 [a0, a1] [.int x0, .ref p] h Q = iWp 2 mX9_no10 5 [a0, a1] [.int rv] h2 Q := iWp_cV dX9_no10_2 fK_9_99 rfl rfl ho (Nat.le_of_ble_eq_true rfl) (Nat.le_of_ble_eq_true rfl) rfl (Nat.le_of_ble_eq_true rfl) he rfl
theorem X9_no10_5 : iWp d mX9_no10 5 [a0, a1] st h Q = iWp d mX9_no10 7 [a0, a1] (.int 10 :: st) h Q := w_bipush dX9_no10_5 rfl
theorem X9_no10_7 : iWp d mX9_no10 7 [a0, a1] (.int y :: .int x :: st) h Q = iWp d mX9_no10 8 [a0, a1] (.int (x - y) :: st) h Q := w_isub dX9_no10_7
theorem X9_no10_8 : iWp d mX9_no10 8 [a0, a1] [.int x] h Q = Q (some (.int x)) h := w_ireti dX9_no10_8 rfl
theorem I9_no10 {Q : Option Value → iHp → Prop} (hw : iWp 2 mX9_no10 0 [.ref p, .int x0] [] h Q) : ∃ r h1, iEv mX9_no10 [.ref p, .int x0] h r h1 ∧ Q r h1 := iEv_of (by rfl) rfl hw
theorem J9_no10 {r : Option Value} {h1 : iHp} (hw : iWp 2 mX9_no10 0 [.ref p, .int x0] [] h (fun r' h' => r' = r ∧ h' = h1)) : iEv mX9_no10 [.ref p, .int x0] h r h1 := iEv_ev (by rfl) rfl hw
theorem X9_noRow_0 : iWp d mX9_noRow 0 [a0, .int x] st h Q = iWp d mX9_noRow 1 [a0, .int x] (.int x :: st) h Q := w_iload_n dX9_noRow_0 rfl
theorem X9_noRow_1 : iWp d mX9_noRow 1 [a0, a1] st h Q = iWp d mX9_noRow 2 [a0, a1] (.int 0 :: st) h Q := w_iconst dX9_noRow_1 rfl
theorem X9_noRow_2 : iWp d mX9_noRow 2 [a0, a1] st h Q = iWp d mX9_noRow 4 [a0, a1] (.int 7 :: st) h Q := w_bipush dX9_noRow_2 rfl
theorem X9_noRow_4 (he : iEv mX9_within [.int x0, .int x1, .int x2] h (some (.int rv)) h2) : iWp 2 mX9_noRow 4 [a0, a1] [.int x2, .int x1, .int x0] h Q = iWp 2 mX9_noRow 7 [a0, a1] [.int rv] h2 Q := iWp_cS dX9_noRow_4 fK_9_106 rfl rfl (Nat.le_of_ble_eq_true rfl) (Nat.le_of_ble_eq_true rfl) rfl (Nat.le_of_ble_eq_true rfl) he rfl
theorem X9_noRow_7 : iWp d mX9_noRow 7 [a0, a1] (.int x :: st) h Q = if x = 0 then iWp d mX9_noRow 10 [a0, a1] st h Q else iWp d mX9_noRow 12 [a0, a1] st h Q := w_ifc_ne dX9_noRow_7 rfl
theorem X9_noRow_10 : iWp d mX9_noRow 10 [a0, a1] st h Q = iWp d mX9_noRow 11 [a0, a1] (.int (-1) :: st) h Q := w_iconst dX9_noRow_10 rfl
theorem X9_noRow_11 : iWp d mX9_noRow 11 [a0, a1] [.int x] h Q = Q (some (.int x)) h := w_ireti dX9_noRow_11 rfl
theorem X9_noRow_12 : iWp d mX9_noRow 12 [.ref p, a1] st h Q = iWp d mX9_noRow 13 [.ref p, a1] (.ref p :: st) h Q := w_aload_n dX9_noRow_12 rfl
theorem X9_noRow_13 : iWp d mX9_noRow 13 [a0, a1] (.ref p :: st) h Q = iOb (iGet h p 9 11) (fun v => iWp d mX9_noRow 16 [a0, a1] (v :: st) h Q) := w_getf dX9_noRow_13 fF_9_31
theorem X9_noRow_16 : iWp d mX9_noRow 16 [a0, .int x] st h Q = iWp d mX9_noRow 17 [a0, .int x] (.int x :: st) h Q := w_iload_n dX9_noRow_16 rfl
theorem X9_noRow_17 : iWp d mX9_noRow 17 [a0, a1] (.int x :: .ref p :: st) h Q = iOb (iLdI h p x) (fun v => iWp d mX9_noRow 18 [a0, a1] (.int v :: st) h Q) := w_iaload dX9_noRow_17
theorem X9_noRow_18 : iWp d mX9_noRow 18 [a0, a1] (.int x :: st) h Q = if x < 0 then iWp d mX9_noRow 32 [a0, a1] st h Q else iWp d mX9_noRow 21 [a0, a1] st h Q := w_ifc_lt dX9_noRow_18 rfl
theorem X9_noRow_21 : iWp d mX9_noRow 21 [.ref p, a1] st h Q = iWp d mX9_noRow 22 [.ref p, a1] (.ref p :: st) h Q := w_aload_n dX9_noRow_21 rfl
theorem X9_noRow_22 : iWp d mX9_noRow 22 [a0, .int x] st h Q = iWp d mX9_noRow 23 [a0, .int x] (.int x :: st) h Q := w_iload_n dX9_noRow_22 rfl
theorem X9_noRow_23 (he : iEv mX9_isRow [.ref p, .int x0] h (some (.int rv)) h2) (ho : iObj h p 9 = true) : iWp 2 mX9_noRow 23 [a0, a1] [.int x0, .ref p] h Q = iWp 2 mX9_noRow 26 [a0, a1] [.int rv] h2 Q := iWp_cV dX9_noRow_23 fK_9_113 rfl rfl ho (Nat.le_of_ble_eq_true rfl) (Nat.le_of_ble_eq_true rfl) rfl (Nat.le_of_ble_eq_true rfl) he rfl
theorem X9_noRow_26 : iWp d mX9_noRow 26 [a0, a1] (.int x :: st) h Q = if x = 0 then iWp d mX9_noRow 29 [a0, a1] st h Q else iWp d mX9_noRow 32 [a0, a1] st h Q := w_ifc_ne dX9_noRow_26 rfl
theorem X9_noRow_29 : iWp d mX9_noRow 29 [a0, a1] st h Q = iWp d mX9_noRow 31 [a0, a1] (.int (-2) :: st) h Q := w_bipush dX9_noRow_29 rfl
theorem X9_noRow_31 : iWp d mX9_noRow 31 [a0, a1] [.int x] h Q = Q (some (.int x)) h := w_ireti dX9_noRow_31 rfl
theorem X9_noRow_32 : iWp d mX9_noRow 32 [.ref p, a1] st h Q = iWp d mX9_noRow 33 [.ref p, a1] (.ref p :: st) h Q := w_aload_n dX9_noRow_32 rfl
theorem X9_noRow_33 : iWp d mX9_noRow 33 [a0, a1] (.ref p :: st) h Q = iOb (iGet h p 9 11) (fun v => iWp d mX9_noRow 36 [a0, a1] (v :: st) h Q) := w_getf dX9_noRow_33 fF_9_31
theorem X9_noRow_36 : iWp d mX9_noRow 36 [a0, .int x] st h Q = iWp d mX9_noRow 37 [a0, .int x] (.int x :: st) h Q := w_iload_n dX9_noRow_36 rfl
theorem X9_noRow_37 : iWp d mX9_noRow 37 [a0, a1] (.int x :: .ref p :: st) h Q = iOb (iLdI h p x) (fun v => iWp d mX9_noRow 38 [a0, a1] (.int v :: st) h Q) := w_iaload dX9_noRow_37
theorem X9_noRow_38 : iWp d mX9_noRow 38 [a0, a1] (.int x :: st) h Q = if 0 ≤ x then iWp d mX9_noRow 46 [a0, a1] st h Q else iWp d mX9_noRow 41 [a0, a1] st h Q := w_ifc_ge dX9_noRow_38 rfl
theorem X9_noRow_41 : iWp d mX9_noRow 41 [a0, a1] st h Q = iWp d mX9_noRow 43 [a0, a1] (.int (-3) :: st) h Q := w_bipush dX9_noRow_41 rfl
theorem X9_noRow_43 : iWp d mX9_noRow 43 [a0, a1] st h Q = iWp d mX9_noRow 47 [a0, a1] st h Q := w_goto dX9_noRow_43 rfl
theorem X9_noRow_46 : iWp d mX9_noRow 46 [a0, a1] st h Q = iWp d mX9_noRow 47 [a0, a1] (.int 0 :: st) h Q := w_iconst dX9_noRow_46 rfl
theorem X9_noRow_47 : iWp d mX9_noRow 47 [a0, a1] [.int x] h Q = Q (some (.int x)) h := w_ireti dX9_noRow_47 rfl
theorem I9_noRow {Q : Option Value → iHp → Prop} (hw : iWp 2 mX9_noRow 0 [.ref p, .int x0] [] h Q) : ∃ r h1, iEv mX9_noRow [.ref p, .int x0] h r h1 ∧ Q r h1 := iEv_of (by rfl) rfl hw
theorem J9_noRow {r : Option Value} {h1 : iHp} (hw : iWp 2 mX9_noRow 0 [.ref p, .int x0] [] h (fun r' h' => r' = r ∧ h' = h1)) : iEv mX9_noRow [.ref p, .int x0] h r h1 := iEv_ev (by rfl) rfl hw
theorem X9_node_0 : iWp d mX9_node 0 [.ref p, a1, a2, a3, a4, a5] st h Q = iWp d mX9_node 1 [.ref p, a1, a2, a3, a4, a5] (.ref p :: st) h Q := w_aload_n dX9_node_0 rfl
theorem X9_node_1 (he : iEv mX9_sign [.ref p] h (some (.int rv)) h2) (ho : iObj h p 9 = true) (hr : iRank mX9_sign [.ref p] < d) : iWp d mX9_node 1 [a0, a1, a2, a3, a4, a5] [.ref p] h Q = iWp d mX9_node 4 [a0, a1, a2, a3, a4, a5] [.int rv] h2 Q := iWp_cV dX9_node_1 fK_9_145 rfl rfl ho (Nat.le_of_ble_eq_true rfl) hr rfl (Nat.le_of_ble_eq_true rfl) he rfl
theorem X9_node_4 : iWp d mX9_node 4 [a0, a1, a2, a3, a4, a5] st h Q = iWp d mX9_node 6 [a0, a1, a2, a3, a4, a5] (.int 97 :: st) h Q := w_bipush dX9_node_4 rfl
theorem X9_node_6 : iWp d mX9_node 6 [a0, a1, a2, a3, a4, a5] st h Q = iWp d mX9_node 8 [a0, a1, a2, a3, a4, a5] (.int 122 :: st) h Q := w_bipush dX9_node_6 rfl
theorem X9_node_8 (he : iEv mX9_within [.int x0, .int x1, .int x2] h (some (.int rv)) h2) (hr : iRank mX9_within [.int x0, .int x1, .int x2] < d) : iWp d mX9_node 8 [a0, a1, a2, a3, a4, a5] [.int x2, .int x1, .int x0] h Q = iWp d mX9_node 11 [a0, a1, a2, a3, a4, a5] [.int rv] h2 Q := iWp_cS dX9_node_8 fK_9_106 rfl rfl (Nat.le_of_ble_eq_true rfl) hr rfl (Nat.le_of_ble_eq_true rfl) he rfl
theorem X9_node_11 : iWp d mX9_node 11 [a0, a1, a2, a3, a4, a5] (.int x :: st) h Q = if x = 0 then iWp d mX9_node 23 [a0, a1, a2, a3, a4, a5] st h Q else iWp d mX9_node 14 [a0, a1, a2, a3, a4, a5] st h Q := w_ifc_eq dX9_node_11 rfl
theorem X9_node_14 : iWp d mX9_node 14 [.ref p, a1, a2, a3, a4, a5] st h Q = iWp d mX9_node 15 [.ref p, a1, a2, a3, a4, a5] (.ref p :: st) h Q := w_aload_n dX9_node_14 rfl
theorem X9_node_15 : iWp d mX9_node 15 [a0, a1, a2, a3, a4, a5] (.ref p :: st) h Q = iOb (iGet h p 9 18) (fun v => iWp d mX9_node 18 [a0, a1, a2, a3, a4, a5] (v :: st) h Q) := w_getf dX9_node_15 fF_9_127
theorem X9_node_18 : iWp d mX9_node 18 [a0, a1, a2, a3, a4, a5] st h Q = iWp d mX9_node 20 [a0, a1, a2, a3, a4, a5] (.int 40 :: st) h Q := w_bipush dX9_node_18 rfl
theorem X9_node_20 : iWp d mX9_node 20 [a0, a1, a2, a3, a4, a5] (.int y :: .int x :: st) h Q = if x = y then iWp d mX9_node 23 [a0, a1, a2, a3, a4, a5] st h Q else iWp d mX9_node 25 [a0, a1, a2, a3, a4, a5] st h Q := w_icmp_ne dX9_node_20 rfl
theorem X9_node_23 : iWp d mX9_node 23 [a0, a1, a2, a3, a4, a5] st h Q = iWp d mX9_node 24 [a0, a1, a2, a3, a4, a5] (.int 0 :: st) h Q := w_iconst dX9_node_23 rfl
theorem X9_node_24 : iWp d mX9_node 24 [a0, a1, a2, a3, a4, a5] [.int (iB b)] h Q = Q (some (.int (iB b))) h := w_iretb dX9_node_24 rfl
theorem X9_node_24z : iWp d mX9_node 24 [a0, a1, a2, a3, a4, a5] [.int 0] h Q = Q (some (.int (iB false))) h := w_iretb (bb := false) dX9_node_24 rfl
theorem X9_node_24o : iWp d mX9_node 24 [a0, a1, a2, a3, a4, a5] [.int 1] h Q = Q (some (.int (iB true))) h := w_iretb (bb := true) dX9_node_24 rfl
theorem X9_node_25 : iWp d mX9_node 25 [.ref p, a1, a2, a3, a4, a5] st h Q = iWp d mX9_node 26 [.ref p, a1, a2, a3, a4, a5] (.ref p :: st) h Q := w_aload_n dX9_node_25 rfl
theorem X9_node_26 (he : iEv mX9_sign [.ref p] h (some (.int rv)) h2) (ho : iObj h p 9 = true) (hr : iRank mX9_sign [.ref p] < d) : iWp d mX9_node 26 [a0, a1, a2, a3, a4, a5] [.ref p] h Q = iWp d mX9_node 29 [a0, a1, a2, a3, a4, a5] [.int rv] h2 Q := iWp_cV dX9_node_26 fK_9_145 rfl rfl ho (Nat.le_of_ble_eq_true rfl) hr rfl (Nat.le_of_ble_eq_true rfl) he rfl
theorem X9_node_29 : iWp d mX9_node 29 [a0, a1, a2, a3, a4, a5] (.int x :: st) h Q = iWp d mX9_node 30 [a0, iClr a1, .int x, a3, a4, a5] st h Q := w_istore_n dX9_node_29 (Nat.le_of_ble_eq_true rfl) rfl
theorem X9_node_30 : iWp d mX9_node 30 [.ref p, a1, a2, a3, a4, a5] st h Q = iWp d mX9_node 31 [.ref p, a1, a2, a3, a4, a5] (.ref p :: st) h Q := w_aload_n dX9_node_30 rfl
theorem X9_node_31 : iWp d mX9_node 31 [a0, a1, a2, a3, a4, a5] (.ref p :: st) h Q = iWp d mX9_node 32 [a0, a1, a2, a3, a4, a5] (.ref p :: .ref p :: st) h Q := w_dup dX9_node_31 rfl
theorem X9_node_32 : iWp d mX9_node 32 [a0, a1, a2, a3, a4, a5] (.ref p :: st) h Q = iOb (iGet h p 9 16) (fun v => iWp d mX9_node 35 [a0, a1, a2, a3, a4, a5] (v :: st) h Q) := w_getf dX9_node_32 fF_9_139
theorem X9_node_35 : iWp d mX9_node 35 [a0, a1, a2, a3, a4, a5] st h Q = iWp d mX9_node 36 [a0, a1, a2, a3, a4, a5] (.int 1 :: st) h Q := w_iconst dX9_node_35 rfl
theorem X9_node_36 : iWp d mX9_node 36 [a0, a1, a2, a3, a4, a5] (.int y :: .int x :: st) h Q = iWp d mX9_node 37 [a0, a1, a2, a3, a4, a5] (.int (x + y) :: st) h Q := w_iadd dX9_node_36
theorem X9_node_37 : iWp d mX9_node 37 [a0, a1, a2, a3, a4, a5] (.int x :: .ref p :: st) h Q = iOb (iPut h p 9 16 (.int x)) (fun g => iWp d mX9_node 40 [a0, a1, a2, a3, a4, a5] st g Q) := w_putf dX9_node_37 fF_9_139 ⟨rfl, (Or.inl rfl)⟩
theorem X9_node_40 : iWp d mX9_node 40 [.ref p, a1, a2, a3, a4, a5] st h Q = iWp d mX9_node 41 [.ref p, a1, a2, a3, a4, a5] (.ref p :: st) h Q := w_aload_n dX9_node_40 rfl
theorem X9_node_41 : iWp d mX9_node 41 [a0, a1, a2, a3, a4, a5] (.ref p :: st) h Q = iOb (iGet h p 9 16) (fun v => iWp d mX9_node 44 [a0, a1, a2, a3, a4, a5] (v :: st) h Q) := w_getf dX9_node_41 fF_9_139
theorem X9_node_44 : iWp d mX9_node 44 [a0, a1, a2, a3, a4, a5] (.int x :: st) h Q = iWp d mX9_node 45 [a0, a1, iClr a2, .int x, a4, a5] st h Q := w_istore_n dX9_node_44 (Nat.le_of_ble_eq_true rfl) rfl
theorem X9_node_45 : iWp d mX9_node 45 [a0, a1, a2, a3, a4, a5] st h Q = iWp d mX9_node 46 [a0, a1, a2, a3, a4, a5] (.int 0 :: st) h Q := w_iconst dX9_node_45 rfl
theorem X9_node_46 : iWp d mX9_node 46 [a0, a1, a2, a3, a4, a5] (.int x :: st) h Q = iWp d mX9_node 48 [a0, a1, a2, iClr a3, .int x, a5] st h Q := w_istore dX9_node_46 (Nat.le_of_ble_eq_true rfl) rfl
theorem X9_node_48 : iWp d mX9_node 48 [.ref p, a1, a2, a3, a4, a5] st h Q = iWp d mX9_node 49 [.ref p, a1, a2, a3, a4, a5] (.ref p :: st) h Q := w_aload_n dX9_node_48 rfl
theorem X9_node_49 : iWp d mX9_node 49 [a0, a1, a2, a3, a4, a5] (.ref p :: st) h Q = iOb (iGet h p 9 16) (fun v => iWp d mX9_node 52 [a0, a1, a2, a3, a4, a5] (v :: st) h Q) := w_getf dX9_node_49 fF_9_139
theorem X9_node_52 : iWp d mX9_node 52 [a0, a1, a2, .int x, a4, a5] st h Q = iWp d mX9_node 53 [a0, a1, a2, .int x, a4, a5] (.int x :: st) h Q := w_iload_n dX9_node_52 rfl
theorem X9_node_53 : iWp d mX9_node 53 [a0, a1, a2, a3, a4, a5] (.int y :: .int x :: st) h Q = iWp d mX9_node 54 [a0, a1, a2, a3, a4, a5] (.int (x - y) :: st) h Q := w_isub dX9_node_53
theorem X9_node_54 : iWp d mX9_node 54 [a0, a1, a2, a3, a4, a5] st h Q = iWp d mX9_node 55 [a0, a1, a2, a3, a4, a5] (.int 2 :: st) h Q := w_iconst dX9_node_54 rfl
theorem X9_node_55 : iWp d mX9_node 55 [a0, a1, a2, a3, a4, a5] (.int y :: .int x :: st) h Q = if y ≤ x then iWp d mX9_node 93 [a0, a1, a2, a3, a4, a5] st h Q else iWp d mX9_node 58 [a0, a1, a2, a3, a4, a5] st h Q := w_icmp_ge dX9_node_55 rfl
theorem X9_node_58 : iWp d mX9_node 58 [.ref p, a1, a2, a3, a4, a5] st h Q = iWp d mX9_node 59 [.ref p, a1, a2, a3, a4, a5] (.ref p :: st) h Q := w_aload_n dX9_node_58 rfl
theorem X9_node_59 (he : iEv mX9_isDigit [.ref p] h (some (.int rv)) h2) (ho : iObj h p 9 = true) (hr : iRank mX9_isDigit [.ref p] < d) : iWp d mX9_node 59 [a0, a1, a2, a3, a4, a5] [.ref p] h Q = iWp d mX9_node 62 [a0, a1, a2, a3, a4, a5] [.int rv] h2 Q := iWp_cV dX9_node_59 fK_9_149 rfl rfl ho (Nat.le_of_ble_eq_true rfl) hr rfl (Nat.le_of_ble_eq_true rfl) he rfl
theorem X9_node_62 : iWp d mX9_node 62 [a0, a1, a2, a3, a4, a5] (.int x :: st) h Q = if x = 0 then iWp d mX9_node 93 [a0, a1, a2, a3, a4, a5] st h Q else iWp d mX9_node 65 [a0, a1, a2, a3, a4, a5] st h Q := w_ifc_eq dX9_node_62 rfl
theorem X9_node_65 : iWp d mX9_node 65 [a0, a1, a2, a3, a4, a5] st h Q = iWp d mX9_node 67 [a0, a1, a2, a3, a4, a5] (.int 10 :: st) h Q := w_bipush dX9_node_65 rfl
theorem X9_node_67 : iWp d mX9_node 67 [a0, a1, a2, a3, .int x, a5] st h Q = iWp d mX9_node 69 [a0, a1, a2, a3, .int x, a5] (.int x :: st) h Q := w_iload dX9_node_67 rfl
theorem X9_node_69 : iWp d mX9_node 69 [a0, a1, a2, a3, a4, a5] (.int y :: .int x :: st) h Q = iWp d mX9_node 70 [a0, a1, a2, a3, a4, a5] (.int (x * y) :: st) h Q := w_imul dX9_node_69
theorem X9_node_70 : iWp d mX9_node 70 [.ref p, a1, a2, a3, a4, a5] st h Q = iWp d mX9_node 71 [.ref p, a1, a2, a3, a4, a5] (.ref p :: st) h Q := w_aload_n dX9_node_70 rfl
theorem X9_node_71 (he : iEv mX9_sign [.ref p] h (some (.int rv)) h2) (ho : iObj h p 9 = true) (hr : iRank mX9_sign [.ref p] < d) : iWp d mX9_node 71 [a0, a1, a2, a3, a4, a5] [.ref p, .int r0] h Q = iWp d mX9_node 74 [a0, a1, a2, a3, a4, a5] [.int rv, .int r0] h2 Q := iWp_cV dX9_node_71 fK_9_145 rfl rfl ho (Nat.le_of_ble_eq_true rfl) hr rfl (Nat.le_of_ble_eq_true rfl) he rfl
theorem X9_node_74 : iWp d mX9_node 74 [a0, a1, a2, a3, a4, a5] (.int y :: .int x :: st) h Q = iWp d mX9_node 75 [a0, a1, a2, a3, a4, a5] (.int (x + y) :: st) h Q := w_iadd dX9_node_74
theorem X9_node_75 : iWp d mX9_node 75 [a0, a1, a2, a3, a4, a5] st h Q = iWp d mX9_node 77 [a0, a1, a2, a3, a4, a5] (.int 48 :: st) h Q := w_bipush dX9_node_75 rfl
theorem X9_node_77 : iWp d mX9_node 77 [a0, a1, a2, a3, a4, a5] (.int y :: .int x :: st) h Q = iWp d mX9_node 78 [a0, a1, a2, a3, a4, a5] (.int (x - y) :: st) h Q := w_isub dX9_node_77
theorem X9_node_78 : iWp d mX9_node 78 [a0, a1, a2, a3, a4, a5] (.int x :: st) h Q = iWp d mX9_node 80 [a0, a1, a2, iClr a3, .int x, a5] st h Q := w_istore dX9_node_78 (Nat.le_of_ble_eq_true rfl) rfl
theorem X9_node_80 : iWp d mX9_node 80 [.ref p, a1, a2, a3, a4, a5] st h Q = iWp d mX9_node 81 [.ref p, a1, a2, a3, a4, a5] (.ref p :: st) h Q := w_aload_n dX9_node_80 rfl
theorem X9_node_81 : iWp d mX9_node 81 [a0, a1, a2, a3, a4, a5] (.ref p :: st) h Q = iWp d mX9_node 82 [a0, a1, a2, a3, a4, a5] (.ref p :: .ref p :: st) h Q := w_dup dX9_node_81 rfl
theorem X9_node_82 : iWp d mX9_node 82 [a0, a1, a2, a3, a4, a5] (.ref p :: st) h Q = iOb (iGet h p 9 16) (fun v => iWp d mX9_node 85 [a0, a1, a2, a3, a4, a5] (v :: st) h Q) := w_getf dX9_node_82 fF_9_139
theorem X9_node_85 : iWp d mX9_node 85 [a0, a1, a2, a3, a4, a5] st h Q = iWp d mX9_node 86 [a0, a1, a2, a3, a4, a5] (.int 1 :: st) h Q := w_iconst dX9_node_85 rfl
theorem X9_node_86 : iWp d mX9_node 86 [a0, a1, a2, a3, a4, a5] (.int y :: .int x :: st) h Q = iWp d mX9_node 87 [a0, a1, a2, a3, a4, a5] (.int (x + y) :: st) h Q := w_iadd dX9_node_86
theorem X9_node_87 : iWp d mX9_node 87 [a0, a1, a2, a3, a4, a5] (.int x :: .ref p :: st) h Q = iOb (iPut h p 9 16 (.int x)) (fun g => iWp d mX9_node 90 [a0, a1, a2, a3, a4, a5] st g Q) := w_putf dX9_node_87 fF_9_139 ⟨rfl, (Or.inl rfl)⟩
theorem X9_node_90 : iWp d mX9_node 90 [a0, a1, a2, a3, a4, a5] st h Q = iWp d mX9_node 48 [a0, a1, a2, a3, a4, a5] st h Q := w_goto dX9_node_90 rfl
theorem X9_node_93 : iWp d mX9_node 93 [.ref p, a1, a2, a3, a4, a5] st h Q = iWp d mX9_node 94 [.ref p, a1, a2, a3, a4, a5] (.ref p :: st) h Q := w_aload_n dX9_node_93 rfl
theorem X9_node_94 : iWp d mX9_node 94 [a0, a1, a2, a3, a4, a5] (.ref p :: st) h Q = iOb (iGet h p 9 16) (fun v => iWp d mX9_node 97 [a0, a1, a2, a3, a4, a5] (v :: st) h Q) := w_getf dX9_node_94 fF_9_139
theorem X9_node_97 : iWp d mX9_node 97 [a0, a1, a2, .int x, a4, a5] st h Q = iWp d mX9_node 98 [a0, a1, a2, .int x, a4, a5] (.int x :: st) h Q := w_iload_n dX9_node_97 rfl
theorem X9_node_98 : iWp d mX9_node 98 [a0, a1, a2, a3, a4, a5] (.int y :: .int x :: st) h Q = if x = y then iWp d mX9_node 101 [a0, a1, a2, a3, a4, a5] st h Q else iWp d mX9_node 103 [a0, a1, a2, a3, a4, a5] st h Q := w_icmp_ne dX9_node_98 rfl
theorem X9_node_101 : iWp d mX9_node 101 [a0, a1, a2, a3, a4, a5] st h Q = iWp d mX9_node 102 [a0, a1, a2, a3, a4, a5] (.int 0 :: st) h Q := w_iconst dX9_node_101 rfl
theorem X9_node_102 : iWp d mX9_node 102 [a0, a1, a2, a3, a4, a5] [.int (iB b)] h Q = Q (some (.int (iB b))) h := w_iretb dX9_node_102 rfl
theorem X9_node_102z : iWp d mX9_node 102 [a0, a1, a2, a3, a4, a5] [.int 0] h Q = Q (some (.int (iB false))) h := w_iretb (bb := false) dX9_node_102 rfl
theorem X9_node_102o : iWp d mX9_node 102 [a0, a1, a2, a3, a4, a5] [.int 1] h Q = Q (some (.int (iB true))) h := w_iretb (bb := true) dX9_node_102 rfl
theorem X9_node_103 : iWp d mX9_node 103 [a0, a1, a2, a3, .int x, a5] st h Q = iWp d mX9_node 105 [a0, a1, a2, a3, .int x, a5] (.int x :: st) h Q := w_iload dX9_node_103 rfl
theorem X9_node_105 : iWp d mX9_node 105 [a0, a1, a2, a3, a4, a5] st h Q = iWp d mX9_node 106 [a0, a1, a2, a3, a4, a5] (.int 1 :: st) h Q := w_iconst dX9_node_105 rfl
theorem X9_node_106 : iWp d mX9_node 106 [a0, a1, a2, a3, a4, a5] st h Q = iWp d mX9_node 108 [a0, a1, a2, a3, a4, a5] (.int 60 :: st) h Q := w_bipush dX9_node_106 rfl
theorem X9_node_108 (he : iEv mX9_within [.int x0, .int x1, .int x2] h (some (.int rv)) h2) (hr : iRank mX9_within [.int x0, .int x1, .int x2] < d) : iWp d mX9_node 108 [a0, a1, a2, a3, a4, a5] [.int x2, .int x1, .int x0] h Q = iWp d mX9_node 111 [a0, a1, a2, a3, a4, a5] [.int rv] h2 Q := iWp_cS dX9_node_108 fK_9_106 rfl rfl (Nat.le_of_ble_eq_true rfl) hr rfl (Nat.le_of_ble_eq_true rfl) he rfl
theorem X9_node_111 : iWp d mX9_node 111 [a0, a1, a2, a3, a4, a5] (.int x :: st) h Q = if x = 0 then iWp d mX9_node 124 [a0, a1, a2, a3, a4, a5] st h Q else iWp d mX9_node 114 [a0, a1, a2, a3, a4, a5] st h Q := w_ifc_eq dX9_node_111 rfl
theorem X9_node_114 : iWp d mX9_node 114 [.ref p, a1, a2, a3, a4, a5] st h Q = iWp d mX9_node 115 [.ref p, a1, a2, a3, a4, a5] (.ref p :: st) h Q := w_aload_n dX9_node_114 rfl
theorem X9_node_115 : iWp d mX9_node 115 [a0, a1, a2, a3, .int x, a5] st h Q = iWp d mX9_node 117 [a0, a1, a2, a3, .int x, a5] (.int x :: st) h Q := w_iload dX9_node_115 rfl
theorem X9_node_117 (he : iEv mX9_find [.ref p, .int x0] h (some (.int rv)) h2) (ho : iObj h p 9 = true) (hr : iRank mX9_find [.ref p, .int x0] < d) : iWp d mX9_node 117 [a0, a1, a2, a3, a4, a5] [.int x0, .ref p] h Q = iWp d mX9_node 120 [a0, a1, a2, a3, a4, a5] [.int rv] h2 Q := iWp_cV dX9_node_117 fK_9_153 rfl rfl ho (Nat.le_of_ble_eq_true rfl) hr rfl (Nat.le_of_ble_eq_true rfl) he rfl
theorem X9_node_120 : iWp d mX9_node 120 [a0, a1, a2, a3, a4, a5] st h Q = iWp d mX9_node 121 [a0, a1, a2, a3, a4, a5] (.int (-1) :: st) h Q := w_iconst dX9_node_120 rfl
theorem X9_node_121 : iWp d mX9_node 121 [a0, a1, a2, a3, a4, a5] (.int y :: .int x :: st) h Q = if x = y then iWp d mX9_node 131 [a0, a1, a2, a3, a4, a5] st h Q else iWp d mX9_node 124 [a0, a1, a2, a3, a4, a5] st h Q := w_icmp_eq dX9_node_121 rfl
theorem X9_node_124 : iWp d mX9_node 124 [.ref p, a1, a2, a3, a4, a5] st h Q = iWp d mX9_node 125 [.ref p, a1, a2, a3, a4, a5] (.ref p :: st) h Q := w_aload_n dX9_node_124 rfl
theorem X9_node_125 : iWp d mX9_node 125 [a0, a1, a2, .int x, a4, a5] st h Q = iWp d mX9_node 126 [a0, a1, a2, .int x, a4, a5] (.int x :: st) h Q := w_iload_n dX9_node_125 rfl
theorem X9_node_126 : iWp d mX9_node 126 [a0, a1, a2, a3, a4, a5] (.int x :: .ref p :: st) h Q = iOb (iPut h p 9 16 (.int x)) (fun g => iWp d mX9_node 129 [a0, a1, a2, a3, a4, a5] st g Q) := w_putf dX9_node_126 fF_9_139 ⟨rfl, (Or.inl rfl)⟩
theorem X9_node_129 : iWp d mX9_node 129 [a0, a1, a2, a3, a4, a5] st h Q = iWp d mX9_node 130 [a0, a1, a2, a3, a4, a5] (.int 0 :: st) h Q := w_iconst dX9_node_129 rfl
theorem X9_node_130 : iWp d mX9_node 130 [a0, a1, a2, a3, a4, a5] [.int (iB b)] h Q = Q (some (.int (iB b))) h := w_iretb dX9_node_130 rfl
theorem X9_node_130z : iWp d mX9_node 130 [a0, a1, a2, a3, a4, a5] [.int 0] h Q = Q (some (.int (iB false))) h := w_iretb (bb := false) dX9_node_130 rfl
theorem X9_node_130o : iWp d mX9_node 130 [a0, a1, a2, a3, a4, a5] [.int 1] h Q = Q (some (.int (iB true))) h := w_iretb (bb := true) dX9_node_130 rfl
theorem X9_node_131 : iWp d mX9_node 131 [.ref p, a1, a2, a3, a4, a5] st h Q = iWp d mX9_node 132 [.ref p, a1, a2, a3, a4, a5] (.ref p :: st) h Q := w_aload_n dX9_node_131 rfl
theorem X9_node_132 : iWp d mX9_node 132 [a0, a1, a2, a3, a4, a5] (.ref p :: st) h Q = iOb (iGet h p 9 19) (fun v => iWp d mX9_node 135 [a0, a1, a2, a3, a4, a5] (v :: st) h Q) := w_getf dX9_node_132 fF_9_44
theorem X9_node_135 : iWp d mX9_node 135 [.ref p, a1, a2, a3, a4, a5] st h Q = iWp d mX9_node 136 [.ref p, a1, a2, a3, a4, a5] (.ref p :: st) h Q := w_aload_n dX9_node_135 rfl
theorem X9_node_136 : iWp d mX9_node 136 [a0, a1, a2, a3, a4, a5] (.ref p :: st) h Q = iOb (iGet h p 9 18) (fun v => iWp d mX9_node 139 [a0, a1, a2, a3, a4, a5] (v :: st) h Q) := w_getf dX9_node_136 fF_9_127
theorem X9_node_139 : iWp d mX9_node 139 [a0, a1, a2, a3, .int x, a5] st h Q = iWp d mX9_node 141 [a0, a1, a2, a3, .int x, a5] (.int x :: st) h Q := w_iload dX9_node_139 rfl
theorem X9_node_141 : iWp d mX9_node 141 [a0, a1, a2, a3, a4, a5] (.int y :: .int x :: .ref p :: st) h Q = iOb (iStI h p x y) (fun g => iWp d mX9_node 142 [a0, a1, a2, a3, a4, a5] st g Q) := w_iastore dX9_node_141
theorem X9_node_142 : iWp d mX9_node 142 [.ref p, a1, a2, a3, a4, a5] st h Q = iWp d mX9_node 143 [.ref p, a1, a2, a3, a4, a5] (.ref p :: st) h Q := w_aload_n dX9_node_142 rfl
theorem X9_node_143 : iWp d mX9_node 143 [a0, a1, a2, a3, a4, a5] (.ref p :: st) h Q = iOb (iGet h p 9 20) (fun v => iWp d mX9_node 146 [a0, a1, a2, a3, a4, a5] (v :: st) h Q) := w_getf dX9_node_143 fF_9_47
theorem X9_node_146 : iWp d mX9_node 146 [.ref p, a1, a2, a3, a4, a5] st h Q = iWp d mX9_node 147 [.ref p, a1, a2, a3, a4, a5] (.ref p :: st) h Q := w_aload_n dX9_node_146 rfl
theorem X9_node_147 : iWp d mX9_node 147 [a0, a1, a2, a3, a4, a5] (.ref p :: st) h Q = iOb (iGet h p 9 18) (fun v => iWp d mX9_node 150 [a0, a1, a2, a3, a4, a5] (v :: st) h Q) := w_getf dX9_node_147 fF_9_127
theorem X9_node_150 : iWp d mX9_node 150 [a0, a1, .int x, a3, a4, a5] st h Q = iWp d mX9_node 151 [a0, a1, .int x, a3, a4, a5] (.int x :: st) h Q := w_iload_n dX9_node_150 rfl
theorem X9_node_151 : iWp d mX9_node 151 [a0, a1, a2, a3, a4, a5] (.int y :: .int x :: .ref p :: st) h Q = iOb (iStI h p x y) (fun g => iWp d mX9_node 152 [a0, a1, a2, a3, a4, a5] st g Q) := w_iastore dX9_node_151
theorem X9_node_152 : iWp d mX9_node 152 [.ref p, a1, a2, a3, a4, a5] st h Q = iWp d mX9_node 153 [.ref p, a1, a2, a3, a4, a5] (.ref p :: st) h Q := w_aload_n dX9_node_152 rfl
theorem X9_node_153 : iWp d mX9_node 153 [a0, a1, a2, a3, a4, a5] (.ref p :: st) h Q = iOb (iGet h p 9 21) (fun v => iWp d mX9_node 156 [a0, a1, a2, a3, a4, a5] (v :: st) h Q) := w_getf dX9_node_153 fF_9_50
theorem X9_node_156 : iWp d mX9_node 156 [.ref p, a1, a2, a3, a4, a5] st h Q = iWp d mX9_node 157 [.ref p, a1, a2, a3, a4, a5] (.ref p :: st) h Q := w_aload_n dX9_node_156 rfl
theorem X9_node_157 : iWp d mX9_node 157 [a0, a1, a2, a3, a4, a5] (.ref p :: st) h Q = iOb (iGet h p 9 18) (fun v => iWp d mX9_node 160 [a0, a1, a2, a3, a4, a5] (v :: st) h Q) := w_getf dX9_node_157 fF_9_127
theorem X9_node_160 : iWp d mX9_node 160 [a0, .int x, a2, a3, a4, a5] st h Q = iWp d mX9_node 161 [a0, .int x, a2, a3, a4, a5] (.int x :: st) h Q := w_iload_n dX9_node_160 rfl
theorem X9_node_161 : iWp d mX9_node 161 [a0, a1, a2, a3, a4, a5] (.int y :: .int x :: .ref p :: st) h Q = iOb (iStI h p x y) (fun g => iWp d mX9_node 162 [a0, a1, a2, a3, a4, a5] st g Q) := w_iastore dX9_node_161
theorem X9_node_162 : iWp d mX9_node 162 [.ref p, a1, a2, a3, a4, a5] st h Q = iWp d mX9_node 163 [.ref p, a1, a2, a3, a4, a5] (.ref p :: st) h Q := w_aload_n dX9_node_162 rfl
theorem X9_node_163 : iWp d mX9_node 163 [a0, a1, a2, a3, a4, a5] (.ref p :: st) h Q = iWp d mX9_node 164 [a0, a1, a2, a3, a4, a5] (.ref p :: .ref p :: st) h Q := w_dup dX9_node_163 rfl
theorem X9_node_164 : iWp d mX9_node 164 [a0, a1, a2, a3, a4, a5] (.ref p :: st) h Q = iOb (iGet h p 9 18) (fun v => iWp d mX9_node 167 [a0, a1, a2, a3, a4, a5] (v :: st) h Q) := w_getf dX9_node_164 fF_9_127
theorem X9_node_167 : iWp d mX9_node 167 [a0, a1, a2, a3, a4, a5] st h Q = iWp d mX9_node 168 [a0, a1, a2, a3, a4, a5] (.int 1 :: st) h Q := w_iconst dX9_node_167 rfl
theorem X9_node_168 : iWp d mX9_node 168 [a0, a1, a2, a3, a4, a5] (.int y :: .int x :: st) h Q = iWp d mX9_node 169 [a0, a1, a2, a3, a4, a5] (.int (x + y) :: st) h Q := w_iadd dX9_node_168
theorem X9_node_169 : iWp d mX9_node 169 [a0, a1, a2, a3, a4, a5] (.int x :: .ref p :: st) h Q = iOb (iPut h p 9 18 (.int x)) (fun g => iWp d mX9_node 172 [a0, a1, a2, a3, a4, a5] st g Q) := w_putf dX9_node_169 fF_9_127 ⟨rfl, (Or.inl rfl)⟩
theorem X9_node_172 : iWp d mX9_node 172 [.ref p, a1, a2, a3, a4, a5] st h Q = iWp d mX9_node 173 [.ref p, a1, a2, a3, a4, a5] (.ref p :: st) h Q := w_aload_n dX9_node_172 rfl
theorem X9_node_173 : iWp d mX9_node 173 [a0, a1, a2, a3, a4, a5] st h Q = iWp d mX9_node 175 [a0, a1, a2, a3, a4, a5] (.int 40 :: st) h Q := w_bipush dX9_node_173 rfl
theorem X9_node_175 (he : iEv mX9_is [.ref p, .int x0] h (some (.int rv)) h2) (ho : iObj h p 9 = true) (hr : iRank mX9_is [.ref p, .int x0] < d) : iWp d mX9_node 175 [a0, a1, a2, a3, a4, a5] [.int x0, .ref p] h Q = iWp d mX9_node 178 [a0, a1, a2, a3, a4, a5] [.int rv] h2 Q := iWp_cV dX9_node_175 fK_9_156 rfl rfl ho (Nat.le_of_ble_eq_true rfl) hr rfl (Nat.le_of_ble_eq_true rfl) he rfl
theorem X9_node_178 : iWp d mX9_node 178 [a0, a1, a2, a3, a4, a5] (.int x :: st) h Q = if x = 0 then iWp d mX9_node 181 [a0, a1, a2, a3, a4, a5] st h Q else iWp d mX9_node 183 [a0, a1, a2, a3, a4, a5] st h Q := w_ifc_ne dX9_node_178 rfl
theorem X9_node_181 : iWp d mX9_node 181 [a0, a1, a2, a3, a4, a5] st h Q = iWp d mX9_node 182 [a0, a1, a2, a3, a4, a5] (.int 1 :: st) h Q := w_iconst dX9_node_181 rfl
theorem X9_node_182 : iWp d mX9_node 182 [a0, a1, a2, a3, a4, a5] [.int (iB b)] h Q = Q (some (.int (iB b))) h := w_iretb dX9_node_182 rfl
theorem X9_node_182z : iWp d mX9_node 182 [a0, a1, a2, a3, a4, a5] [.int 0] h Q = Q (some (.int (iB false))) h := w_iretb (bb := false) dX9_node_182 rfl
theorem X9_node_182o : iWp d mX9_node 182 [a0, a1, a2, a3, a4, a5] [.int 1] h Q = Q (some (.int (iB true))) h := w_iretb (bb := true) dX9_node_182 rfl
theorem X9_node_183 : iWp d mX9_node 183 [.ref p, a1, a2, a3, a4, a5] st h Q = iWp d mX9_node 184 [.ref p, a1, a2, a3, a4, a5] (.ref p :: st) h Q := w_aload_n dX9_node_183 rfl
theorem X9_node_184 : iWp d mX9_node 184 [a0, .int x, a2, a3, a4, a5] st h Q = iWp d mX9_node 185 [a0, .int x, a2, a3, a4, a5] (.int x :: st) h Q := w_iload_n dX9_node_184 rfl
theorem X9_node_185 : iWp d mX9_node 185 [a0, a1, a2, a3, a4, a5] st h Q = iWp d mX9_node 186 [a0, a1, a2, a3, a4, a5] (.int 1 :: st) h Q := w_iconst dX9_node_185 rfl
theorem X9_node_186 : iWp d mX9_node 186 [a0, a1, a2, a3, a4, a5] (.int y :: .int x :: st) h Q = iWp d mX9_node 187 [a0, a1, a2, a3, a4, a5] (.int (x + y) :: st) h Q := w_iadd dX9_node_186
theorem X9_node_187 (he : iEv mX9_node [.ref p, .int x0] h (some (.int rv)) h2) (ho : iObj h p 9 = true) (hr : iRank mX9_node [.ref p, .int x0] < d) : iWp d mX9_node 187 [a0, a1, a2, a3, a4, a5] [.int x0, .ref p] h Q = iWp d mX9_node 190 [a0, a1, a2, a3, a4, a5] [.int rv] h2 Q := iWp_cV dX9_node_187 fK_9_159 rfl rfl ho (Nat.le_of_ble_eq_true rfl) hr rfl (Nat.le_of_ble_eq_true rfl) he rfl
theorem X9_node_190 : iWp d mX9_node 190 [a0, a1, a2, a3, a4, a5] (.int x :: st) h Q = iWp d mX9_node 192 [a0, a1, a2, a3, iClr a4, .int x] st h Q := w_istore dX9_node_190 (Nat.le_of_ble_eq_true rfl) rfl
theorem X9_node_192 : iWp d mX9_node 192 [a0, a1, a2, a3, a4, .int x] st h Q = iWp d mX9_node 194 [a0, a1, a2, a3, a4, .int x] (.int x :: st) h Q := w_iload dX9_node_192 rfl
theorem X9_node_194 : iWp d mX9_node 194 [a0, a1, a2, a3, a4, a5] (.int x :: st) h Q = if x = 0 then iWp d mX9_node 218 [a0, a1, a2, a3, a4, a5] st h Q else iWp d mX9_node 197 [a0, a1, a2, a3, a4, a5] st h Q := w_ifc_eq dX9_node_194 rfl
theorem X9_node_197 : iWp d mX9_node 197 [.ref p, a1, a2, a3, a4, a5] st h Q = iWp d mX9_node 198 [.ref p, a1, a2, a3, a4, a5] (.ref p :: st) h Q := w_aload_n dX9_node_197 rfl
theorem X9_node_198 : iWp d mX9_node 198 [a0, a1, a2, a3, a4, a5] st h Q = iWp d mX9_node 200 [a0, a1, a2, a3, a4, a5] (.int 44 :: st) h Q := w_bipush dX9_node_198 rfl
theorem X9_node_200 (he : iEv mX9_is [.ref p, .int x0] h (some (.int rv)) h2) (ho : iObj h p 9 = true) (hr : iRank mX9_is [.ref p, .int x0] < d) : iWp d mX9_node 200 [a0, a1, a2, a3, a4, a5] [.int x0, .ref p] h Q = iWp d mX9_node 203 [a0, a1, a2, a3, a4, a5] [.int rv] h2 Q := iWp_cV dX9_node_200 fK_9_156 rfl rfl ho (Nat.le_of_ble_eq_true rfl) hr rfl (Nat.le_of_ble_eq_true rfl) he rfl
theorem X9_node_203 : iWp d mX9_node 203 [a0, a1, a2, a3, a4, a5] (.int x :: st) h Q = if x = 0 then iWp d mX9_node 218 [a0, a1, a2, a3, a4, a5] st h Q else iWp d mX9_node 206 [a0, a1, a2, a3, a4, a5] st h Q := w_ifc_eq dX9_node_203 rfl
theorem X9_node_206 : iWp d mX9_node 206 [.ref p, a1, a2, a3, a4, a5] st h Q = iWp d mX9_node 207 [.ref p, a1, a2, a3, a4, a5] (.ref p :: st) h Q := w_aload_n dX9_node_206 rfl
theorem X9_node_207 : iWp d mX9_node 207 [a0, .int x, a2, a3, a4, a5] st h Q = iWp d mX9_node 208 [a0, .int x, a2, a3, a4, a5] (.int x :: st) h Q := w_iload_n dX9_node_207 rfl
theorem X9_node_208 : iWp d mX9_node 208 [a0, a1, a2, a3, a4, a5] st h Q = iWp d mX9_node 209 [a0, a1, a2, a3, a4, a5] (.int 1 :: st) h Q := w_iconst dX9_node_208 rfl
theorem X9_node_209 : iWp d mX9_node 209 [a0, a1, a2, a3, a4, a5] (.int y :: .int x :: st) h Q = iWp d mX9_node 210 [a0, a1, a2, a3, a4, a5] (.int (x + y) :: st) h Q := w_iadd dX9_node_209
theorem X9_node_210 (he : iEv mX9_node [.ref p, .int x0] h (some (.int rv)) h2) (ho : iObj h p 9 = true) (hr : iRank mX9_node [.ref p, .int x0] < d) : iWp d mX9_node 210 [a0, a1, a2, a3, a4, a5] [.int x0, .ref p] h Q = iWp d mX9_node 213 [a0, a1, a2, a3, a4, a5] [.int rv] h2 Q := iWp_cV dX9_node_210 fK_9_159 rfl rfl ho (Nat.le_of_ble_eq_true rfl) hr rfl (Nat.le_of_ble_eq_true rfl) he rfl
theorem X9_node_213 : iWp d mX9_node 213 [a0, a1, a2, a3, a4, a5] (.int x :: st) h Q = iWp d mX9_node 215 [a0, a1, a2, a3, iClr a4, .int x] st h Q := w_istore dX9_node_213 (Nat.le_of_ble_eq_true rfl) rfl
theorem X9_node_215 : iWp d mX9_node 215 [a0, a1, a2, a3, a4, a5] st h Q = iWp d mX9_node 192 [a0, a1, a2, a3, a4, a5] st h Q := w_goto dX9_node_215 rfl
theorem X9_node_218 : iWp d mX9_node 218 [a0, a1, a2, a3, a4, .int x] st h Q = iWp d mX9_node 220 [a0, a1, a2, a3, a4, .int x] (.int x :: st) h Q := w_iload dX9_node_218 rfl
theorem X9_node_220 : iWp d mX9_node 220 [a0, a1, a2, a3, a4, a5] (.int x :: st) h Q = if x = 0 then iWp d mX9_node 236 [a0, a1, a2, a3, a4, a5] st h Q else iWp d mX9_node 223 [a0, a1, a2, a3, a4, a5] st h Q := w_ifc_eq dX9_node_220 rfl
theorem X9_node_223 : iWp d mX9_node 223 [.ref p, a1, a2, a3, a4, a5] st h Q = iWp d mX9_node 224 [.ref p, a1, a2, a3, a4, a5] (.ref p :: st) h Q := w_aload_n dX9_node_223 rfl
theorem X9_node_224 : iWp d mX9_node 224 [a0, a1, a2, a3, a4, a5] st h Q = iWp d mX9_node 226 [a0, a1, a2, a3, a4, a5] (.int 41 :: st) h Q := w_bipush dX9_node_224 rfl
theorem X9_node_226 (he : iEv mX9_is [.ref p, .int x0] h (some (.int rv)) h2) (ho : iObj h p 9 = true) (hr : iRank mX9_is [.ref p, .int x0] < d) : iWp d mX9_node 226 [a0, a1, a2, a3, a4, a5] [.int x0, .ref p] h Q = iWp d mX9_node 229 [a0, a1, a2, a3, a4, a5] [.int rv] h2 Q := iWp_cV dX9_node_226 fK_9_156 rfl rfl ho (Nat.le_of_ble_eq_true rfl) hr rfl (Nat.le_of_ble_eq_true rfl) he rfl
theorem X9_node_229 : iWp d mX9_node 229 [a0, a1, a2, a3, a4, a5] (.int x :: st) h Q = if x = 0 then iWp d mX9_node 236 [a0, a1, a2, a3, a4, a5] st h Q else iWp d mX9_node 232 [a0, a1, a2, a3, a4, a5] st h Q := w_ifc_eq dX9_node_229 rfl
theorem X9_node_232 : iWp d mX9_node 232 [a0, a1, a2, a3, a4, a5] st h Q = iWp d mX9_node 233 [a0, a1, a2, a3, a4, a5] (.int 1 :: st) h Q := w_iconst dX9_node_232 rfl
theorem X9_node_233 : iWp d mX9_node 233 [a0, a1, a2, a3, a4, a5] st h Q = iWp d mX9_node 237 [a0, a1, a2, a3, a4, a5] st h Q := w_goto dX9_node_233 rfl
theorem X9_node_236 : iWp d mX9_node 236 [a0, a1, a2, a3, a4, a5] st h Q = iWp d mX9_node 237 [a0, a1, a2, a3, a4, a5] (.int 0 :: st) h Q := w_iconst dX9_node_236 rfl
theorem X9_node_237 : iWp d mX9_node 237 [a0, a1, a2, a3, a4, a5] [.int (iB b)] h Q = Q (some (.int (iB b))) h := w_iretb dX9_node_237 rfl
theorem X9_node_237z : iWp d mX9_node 237 [a0, a1, a2, a3, a4, a5] [.int 0] h Q = Q (some (.int (iB false))) h := w_iretb (bb := false) dX9_node_237 rfl
theorem X9_node_237o : iWp d mX9_node 237 [a0, a1, a2, a3, a4, a5] [.int 1] h Q = Q (some (.int (iB true))) h := w_iretb (bb := true) dX9_node_237 rfl
theorem I9_node {Q : Option Value → iHp → Prop} (hw : iWp (iRank mX9_node [.ref p, .int x0]) mX9_node 0 [.ref p, .int x0, iU, iU, iU, iU] [] h Q) : ∃ r h1, iEv mX9_node [.ref p, .int x0] h r h1 ∧ Q r h1 := iEv_of (by rfl) rfl hw
theorem J9_node {r : Option Value} {h1 : iHp} (hw : iWp (iRank mX9_node [.ref p, .int x0]) mX9_node 0 [.ref p, .int x0, iU, iU, iU, iU] [] h (fun r' h' => r' = r ∧ h' = h1)) : iEv mX9_node [.ref p, .int x0] h r h1 := iEv_ev (by rfl) rfl hw
theorem X9_node__0 : iWp d mX9_node_ 0 [.ref p, a1, a2, a3] st h Q = iWp d mX9_node_ 1 [.ref p, a1, a2, a3] (.ref p :: st) h Q := w_aload_n dX9_node__0 rfl
theorem X9_node__1 : iWp d mX9_node_ 1 [a0, .int x, a2, a3] st h Q = iWp d mX9_node_ 2 [a0, .int x, a2, a3] (.int x :: st) h Q := w_iload_n dX9_node__1 rfl
theorem X9_node__2 (he : iEv mX9_isTree [.ref p, .int x0] h (some (.int rv)) h2) (ho : iObj h p 9 = true) : iWp 3 mX9_node_ 2 [a0, a1, a2, a3] [.int x0, .ref p] h Q = iWp 3 mX9_node_ 5 [a0, a1, a2, a3] [.int rv] h2 Q := iWp_cV dX9_node__2 fK_9_166 rfl rfl ho (Nat.le_of_ble_eq_true rfl) (Nat.le_of_ble_eq_true rfl) rfl (Nat.le_of_ble_eq_true rfl) he rfl
theorem X9_node__5 : iWp d mX9_node_ 5 [a0, a1, a2, a3] (.int x :: st) h Q = if x = 0 then iWp d mX9_node_ 8 [a0, a1, a2, a3] st h Q else iWp d mX9_node_ 14 [a0, a1, a2, a3] st h Q := w_ifc_ne dX9_node__5 rfl
theorem X9_node__8 : iWp d mX9_node_ 8 [.ref p, a1, a2, a3] st h Q = iWp d mX9_node_ 9 [.ref p, a1, a2, a3] (.ref p :: st) h Q := w_aload_n dX9_node__8 rfl
theorem X9_node__9 : iWp d mX9_node_ 9 [a0, a1, a2, a3] st h Q = iWp d mX9_node_ 10 [a0, a1, a2, a3] (.int (-1) :: st) h Q := w_iconst dX9_node__9 rfl
theorem X9_node__10 (he : iEv mX9_no [.ref p, .int x0] h (some (.int rv)) h2) (ho : iObj h p 9 = true) : iWp 3 mX9_node_ 10 [a0, a1, a2, a3] [.int x0, .ref p] h Q = iWp 3 mX9_node_ 13 [a0, a1, a2, a3] [.int rv] h2 Q := iWp_cV dX9_node__10 fK_9_99 rfl rfl ho (Nat.le_of_ble_eq_true rfl) (Nat.le_of_ble_eq_true rfl) rfl (Nat.le_of_ble_eq_true rfl) he rfl
theorem X9_node__13 : iWp d mX9_node_ 13 [a0, a1, a2, a3] [.int x] h Q = Q (some (.int x)) h := w_ireti dX9_node__13 rfl
theorem X9_node__14 : iWp d mX9_node_ 14 [a0, a1, .int x, a3] st h Q = iWp d mX9_node_ 15 [a0, a1, .int x, a3] (.int x :: st) h Q := w_iload_n dX9_node__14 rfl
theorem X9_node__15 : iWp d mX9_node_ 15 [a0, a1, a2, a3] st h Q = iWp d mX9_node_ 16 [a0, a1, a2, a3] (.int 0 :: st) h Q := w_iconst dX9_node__15 rfl
theorem X9_node__16 : iWp d mX9_node_ 16 [.ref p, a1, a2, a3] st h Q = iWp d mX9_node_ 17 [.ref p, a1, a2, a3] (.ref p :: st) h Q := w_aload_n dX9_node__16 rfl
theorem X9_node__17 : iWp d mX9_node_ 17 [a0, a1, a2, a3] (.ref p :: st) h Q = iOb (iGet h p 9 1) (fun v => iWp d mX9_node_ 20 [a0, a1, a2, a3] (v :: st) h Q) := w_getf dX9_node__17 fF_9_7
theorem X9_node__20 : iWp d mX9_node_ 20 [a0, .int x, a2, a3] st h Q = iWp d mX9_node_ 21 [a0, .int x, a2, a3] (.int x :: st) h Q := w_iload_n dX9_node__20 rfl
theorem X9_node__21 : iWp d mX9_node_ 21 [a0, a1, a2, a3] (.int x :: .ref p :: st) h Q = iOb (iLdI h p x) (fun v => iWp d mX9_node_ 22 [a0, a1, a2, a3] (.int v :: st) h Q) := w_iaload dX9_node__21
theorem X9_node__22 : iWp d mX9_node_ 22 [a0, a1, a2, a3] st h Q = iWp d mX9_node_ 23 [a0, a1, a2, a3] (.int 1 :: st) h Q := w_iconst dX9_node__22 rfl
theorem X9_node__23 : iWp d mX9_node_ 23 [a0, a1, a2, a3] (.int y :: .int x :: st) h Q = iWp d mX9_node_ 24 [a0, a1, a2, a3] (.int (x - y) :: st) h Q := w_isub dX9_node__23
theorem X9_node__24 (he : iEv mX9_within [.int x0, .int x1, .int x2] h (some (.int rv)) h2) : iWp 3 mX9_node_ 24 [a0, a1, a2, a3] [.int x2, .int x1, .int x0] h Q = iWp 3 mX9_node_ 27 [a0, a1, a2, a3] [.int rv] h2 Q := iWp_cS dX9_node__24 fK_9_106 rfl rfl (Nat.le_of_ble_eq_true rfl) (Nat.le_of_ble_eq_true rfl) rfl (Nat.le_of_ble_eq_true rfl) he rfl
theorem X9_node__27 : iWp d mX9_node_ 27 [a0, a1, a2, a3] (.int x :: st) h Q = if x = 0 then iWp d mX9_node_ 30 [a0, a1, a2, a3] st h Q else iWp d mX9_node_ 37 [a0, a1, a2, a3] st h Q := w_ifc_ne dX9_node__27 rfl
theorem X9_node__30 : iWp d mX9_node_ 30 [.ref p, a1, a2, a3] st h Q = iWp d mX9_node_ 31 [.ref p, a1, a2, a3] (.ref p :: st) h Q := w_aload_n dX9_node__30 rfl
theorem X9_node__31 : iWp d mX9_node_ 31 [a0, a1, a2, a3] st h Q = iWp d mX9_node_ 33 [a0, a1, a2, a3] (.int (-5) :: st) h Q := w_bipush dX9_node__31 rfl
theorem X9_node__33 (he : iEv mX9_no [.ref p, .int x0] h (some (.int rv)) h2) (ho : iObj h p 9 = true) : iWp 3 mX9_node_ 33 [a0, a1, a2, a3] [.int x0, .ref p] h Q = iWp 3 mX9_node_ 36 [a0, a1, a2, a3] [.int rv] h2 Q := iWp_cV dX9_node__33 fK_9_99 rfl rfl ho (Nat.le_of_ble_eq_true rfl) (Nat.le_of_ble_eq_true rfl) rfl (Nat.le_of_ble_eq_true rfl) he rfl
theorem X9_node__36 : iWp d mX9_node_ 36 [a0, a1, a2, a3] [.int x] h Q = Q (some (.int x)) h := w_ireti dX9_node__36 rfl
theorem X9_node__37 : iWp d mX9_node_ 37 [.ref p, a1, a2, a3] st h Q = iWp d mX9_node_ 38 [.ref p, a1, a2, a3] (.ref p :: st) h Q := w_aload_n dX9_node__37 rfl
theorem X9_node__38 : iWp d mX9_node_ 38 [a0, .int x, a2, a3] st h Q = iWp d mX9_node_ 39 [a0, .int x, a2, a3] (.int x :: st) h Q := w_iload_n dX9_node__38 rfl
theorem X9_node__39 (he : iEv mX9_loads [.ref p, .int x0] h none h2) (ho : iObj h p 9 = true) : iWp 3 mX9_node_ 39 [a0, a1, a2, a3] [.int x0, .ref p] h Q = iWp 3 mX9_node_ 42 [a0, a1, a2, a3] [] h2 Q := iWp_cV dX9_node__39 fK_9_169 rfl rfl ho (Nat.le_of_ble_eq_true rfl) (Nat.le_of_ble_eq_true rfl) rfl (Nat.le_of_ble_eq_true rfl) he rfl
theorem X9_node__42 : iWp d mX9_node_ 42 [a0, a1, a2, .int x] st h Q = iWp d mX9_node_ 43 [a0, a1, a2, .int x] (.int x :: st) h Q := w_iload_n dX9_node__42 rfl
theorem X9_node__43_0 : iWp d mX9_node_ 43 [a0, a1, a2, a3] (.int 0 :: st) h Q = iWp d mX9_node_ 84 [a0, a1, a2, a3] st h Q := w_switch dX9_node__43 rfl rfl rfl
theorem X9_node__43_1 : iWp d mX9_node_ 43 [a0, a1, a2, a3] (.int 1 :: st) h Q = iWp d mX9_node_ 91 [a0, a1, a2, a3] st h Q := w_switch dX9_node__43 rfl rfl rfl
theorem X9_node__43_2 : iWp d mX9_node_ 43 [a0, a1, a2, a3] (.int 2 :: st) h Q = iWp d mX9_node_ 98 [a0, a1, a2, a3] st h Q := w_switch dX9_node__43 rfl rfl rfl
theorem X9_node__43_3 : iWp d mX9_node_ 43 [a0, a1, a2, a3] (.int 3 :: st) h Q = iWp d mX9_node_ 104 [a0, a1, a2, a3] st h Q := w_switch dX9_node__43 rfl rfl rfl
theorem X9_node__43_4 : iWp d mX9_node_ 43 [a0, a1, a2, a3] (.int 4 :: st) h Q = iWp d mX9_node_ 110 [a0, a1, a2, a3] st h Q := w_switch dX9_node__43 rfl rfl rfl
theorem X9_node__43_5 : iWp d mX9_node_ 43 [a0, a1, a2, a3] (.int 5 :: st) h Q = iWp d mX9_node_ 116 [a0, a1, a2, a3] st h Q := w_switch dX9_node__43 rfl rfl rfl
theorem X9_node__43_6 : iWp d mX9_node_ 43 [a0, a1, a2, a3] (.int 6 :: st) h Q = iWp d mX9_node_ 123 [a0, a1, a2, a3] st h Q := w_switch dX9_node__43 rfl rfl rfl
theorem X9_node__43_d (hx : x.toInt < 0 ∨ 6 < x.toInt) : iWp d mX9_node_ 43 [a0, a1, a2, a3] (.int x :: st) h Q = iWp d mX9_node_ 131 [a0, a1, a2, a3] st h Q := w_switchD dX9_node__43 hx rfl
theorem X9_node__84 : iWp d mX9_node_ 84 [.ref p, a1, a2, a3] st h Q = iWp d mX9_node_ 85 [.ref p, a1, a2, a3] (.ref p :: st) h Q := w_aload_n dX9_node__84 rfl
theorem X9_node__85 : iWp d mX9_node_ 85 [a0, a1, a2, a3] (.ref p :: st) h Q = iOb (iGet h p 9 19) (fun v => iWp d mX9_node_ 88 [a0, a1, a2, a3] (v :: st) h Q) := w_getf dX9_node__85 fF_9_44
theorem X9_node__88 : iWp d mX9_node_ 88 [a0, a1, .int x, a3] st h Q = iWp d mX9_node_ 89 [a0, a1, .int x, a3] (.int x :: st) h Q := w_iload_n dX9_node__88 rfl
theorem X9_node__89 : iWp d mX9_node_ 89 [a0, a1, a2, a3] (.int x :: .ref p :: st) h Q = iOb (iLdI h p x) (fun v => iWp d mX9_node_ 90 [a0, a1, a2, a3] (.int v :: st) h Q) := w_iaload dX9_node__89
theorem X9_node__90 : iWp d mX9_node_ 90 [a0, a1, a2, a3] [.int x] h Q = Q (some (.int x)) h := w_ireti dX9_node__90 rfl
theorem X9_node__91 : iWp d mX9_node_ 91 [.ref p, a1, a2, a3] st h Q = iWp d mX9_node_ 92 [.ref p, a1, a2, a3] (.ref p :: st) h Q := w_aload_n dX9_node__91 rfl
theorem X9_node__92 : iWp d mX9_node_ 92 [a0, a1, a2, a3] (.ref p :: st) h Q = iOb (iGet h p 9 20) (fun v => iWp d mX9_node_ 95 [a0, a1, a2, a3] (v :: st) h Q) := w_getf dX9_node__92 fF_9_47
theorem X9_node__95 : iWp d mX9_node_ 95 [a0, a1, .int x, a3] st h Q = iWp d mX9_node_ 96 [a0, a1, .int x, a3] (.int x :: st) h Q := w_iload_n dX9_node__95 rfl
theorem X9_node__96 : iWp d mX9_node_ 96 [a0, a1, a2, a3] (.int x :: .ref p :: st) h Q = iOb (iLdI h p x) (fun v => iWp d mX9_node_ 97 [a0, a1, a2, a3] (.int v :: st) h Q) := w_iaload dX9_node__96
theorem X9_node__97 : iWp d mX9_node_ 97 [a0, a1, a2, a3] [.int x] h Q = Q (some (.int x)) h := w_ireti dX9_node__97 rfl
theorem X9_node__98 : iWp d mX9_node_ 98 [.ref p, a1, a2, a3] st h Q = iWp d mX9_node_ 99 [.ref p, a1, a2, a3] (.ref p :: st) h Q := w_aload_n dX9_node__98 rfl
theorem X9_node__99 : iWp d mX9_node_ 99 [a0, a1, .int x, a3] st h Q = iWp d mX9_node_ 100 [a0, a1, .int x, a3] (.int x :: st) h Q := w_iload_n dX9_node__99 rfl
theorem X9_node__100 (he : iEv mX9_parentKey [.ref p, .int x0] h (some (.int rv)) h2) (ho : iObj h p 9 = true) : iWp 3 mX9_node_ 100 [a0, a1, a2, a3] [.int x0, .ref p] h Q = iWp 3 mX9_node_ 103 [a0, a1, a2, a3] [.int rv] h2 Q := iWp_cV dX9_node__100 fK_9_172 rfl rfl ho (Nat.le_of_ble_eq_true rfl) (Nat.le_of_ble_eq_true rfl) rfl (Nat.le_of_ble_eq_true rfl) he rfl
theorem X9_node__103 : iWp d mX9_node_ 103 [a0, a1, a2, a3] [.int x] h Q = Q (some (.int x)) h := w_ireti dX9_node__103 rfl
theorem X9_node__104 : iWp d mX9_node_ 104 [.ref p, a1, a2, a3] st h Q = iWp d mX9_node_ 105 [.ref p, a1, a2, a3] (.ref p :: st) h Q := w_aload_n dX9_node__104 rfl
theorem X9_node__105 : iWp d mX9_node_ 105 [a0, a1, .int x, a3] st h Q = iWp d mX9_node_ 106 [a0, a1, .int x, a3] (.int x :: st) h Q := w_iload_n dX9_node__105 rfl
theorem X9_node__106 (he : iEv mX9_place [.ref p, .int x0] h (some (.int rv)) h2) (ho : iObj h p 9 = true) : iWp 3 mX9_node_ 106 [a0, a1, a2, a3] [.int x0, .ref p] h Q = iWp 3 mX9_node_ 109 [a0, a1, a2, a3] [.int rv] h2 Q := iWp_cV dX9_node__106 fK_9_175 rfl rfl ho (Nat.le_of_ble_eq_true rfl) (Nat.le_of_ble_eq_true rfl) rfl (Nat.le_of_ble_eq_true rfl) he rfl
theorem X9_node__109 : iWp d mX9_node_ 109 [a0, a1, a2, a3] [.int x] h Q = Q (some (.int x)) h := w_ireti dX9_node__109 rfl
theorem X9_node__110 : iWp d mX9_node_ 110 [.ref p, a1, a2, a3] st h Q = iWp d mX9_node_ 111 [.ref p, a1, a2, a3] (.ref p :: st) h Q := w_aload_n dX9_node__110 rfl
theorem X9_node__111 : iWp d mX9_node_ 111 [a0, a1, .int x, a3] st h Q = iWp d mX9_node_ 112 [a0, a1, .int x, a3] (.int x :: st) h Q := w_iload_n dX9_node__111 rfl
theorem X9_node__112 (he : iEv mX9_children [.ref p, .int x0] h (some (.int rv)) h2) (ho : iObj h p 9 = true) : iWp 3 mX9_node_ 112 [a0, a1, a2, a3] [.int x0, .ref p] h Q = iWp 3 mX9_node_ 115 [a0, a1, a2, a3] [.int rv] h2 Q := iWp_cV dX9_node__112 fK_9_178 rfl rfl ho (Nat.le_of_ble_eq_true rfl) (Nat.le_of_ble_eq_true rfl) rfl (Nat.le_of_ble_eq_true rfl) he rfl
theorem X9_node__115 : iWp d mX9_node_ 115 [a0, a1, a2, a3] [.int x] h Q = Q (some (.int x)) h := w_ireti dX9_node__115 rfl
theorem X9_node__116 : iWp d mX9_node_ 116 [.ref p, a1, a2, a3] st h Q = iWp d mX9_node_ 117 [.ref p, a1, a2, a3] (.ref p :: st) h Q := w_aload_n dX9_node__116 rfl
theorem X9_node__117 : iWp d mX9_node_ 117 [a0, a1, a2, a3] (.ref p :: st) h Q = iOb (iGet h p 9 21) (fun v => iWp d mX9_node_ 120 [a0, a1, a2, a3] (v :: st) h Q) := w_getf dX9_node__117 fF_9_50
theorem X9_node__120 : iWp d mX9_node_ 120 [a0, a1, .int x, a3] st h Q = iWp d mX9_node_ 121 [a0, a1, .int x, a3] (.int x :: st) h Q := w_iload_n dX9_node__120 rfl
theorem X9_node__121 : iWp d mX9_node_ 121 [a0, a1, a2, a3] (.int x :: .ref p :: st) h Q = iOb (iLdI h p x) (fun v => iWp d mX9_node_ 122 [a0, a1, a2, a3] (.int v :: st) h Q) := w_iaload dX9_node__121
theorem X9_node__122 : iWp d mX9_node_ 122 [a0, a1, a2, a3] [.int x] h Q = Q (some (.int x)) h := w_ireti dX9_node__122 rfl
theorem X9_node__123 : iWp d mX9_node_ 123 [.ref p, a1, a2, a3] st h Q = iWp d mX9_node_ 124 [.ref p, a1, a2, a3] (.ref p :: st) h Q := w_aload_n dX9_node__123 rfl
theorem X9_node__124 : iWp d mX9_node_ 124 [a0, a1, .int x, a3] st h Q = iWp d mX9_node_ 125 [a0, a1, .int x, a3] (.int x :: st) h Q := w_iload_n dX9_node__124 rfl
theorem X9_node__125 (he : iEv mX9_end [.ref p, .int x0] h (some (.int rv)) h2) (ho : iObj h p 9 = true) : iWp 3 mX9_node_ 125 [a0, a1, a2, a3] [.int x0, .ref p] h Q = iWp 3 mX9_node_ 128 [a0, a1, a2, a3] [.int rv] h2 Q := iWp_cV dX9_node__125 fK_9_133 rfl rfl ho (Nat.le_of_ble_eq_true rfl) (Nat.le_of_ble_eq_true rfl) rfl (Nat.le_of_ble_eq_true rfl) he rfl
theorem X9_node__128 : iWp d mX9_node_ 128 [a0, a1, .int x, a3] st h Q = iWp d mX9_node_ 129 [a0, a1, .int x, a3] (.int x :: st) h Q := w_iload_n dX9_node__128 rfl
theorem X9_node__129 : iWp d mX9_node_ 129 [a0, a1, a2, a3] (.int y :: .int x :: st) h Q = iWp d mX9_node_ 130 [a0, a1, a2, a3] (.int (x - y) :: st) h Q := w_isub dX9_node__129
theorem X9_node__130 : iWp d mX9_node_ 130 [a0, a1, a2, a3] [.int x] h Q = Q (some (.int x)) h := w_ireti dX9_node__130 rfl
theorem X9_node__131 : iWp d mX9_node_ 131 [.ref p, a1, a2, a3] st h Q = iWp d mX9_node_ 132 [.ref p, a1, a2, a3] (.ref p :: st) h Q := w_aload_n dX9_node__131 rfl
theorem X9_node__132 : iWp d mX9_node_ 132 [a0, a1, a2, a3] st h Q = iWp d mX9_node_ 134 [a0, a1, a2, a3] (.int (-5) :: st) h Q := w_bipush dX9_node__132 rfl
theorem X9_node__134 (he : iEv mX9_no [.ref p, .int x0] h (some (.int rv)) h2) (ho : iObj h p 9 = true) : iWp 3 mX9_node_ 134 [a0, a1, a2, a3] [.int x0, .ref p] h Q = iWp 3 mX9_node_ 137 [a0, a1, a2, a3] [.int rv] h2 Q := iWp_cV dX9_node__134 fK_9_99 rfl rfl ho (Nat.le_of_ble_eq_true rfl) (Nat.le_of_ble_eq_true rfl) rfl (Nat.le_of_ble_eq_true rfl) he rfl
theorem X9_node__137 : iWp d mX9_node_ 137 [a0, a1, a2, a3] [.int x] h Q = Q (some (.int x)) h := w_ireti dX9_node__137 rfl
theorem I9_node_ {Q : Option Value → iHp → Prop} (hw : iWp 3 mX9_node_ 0 [.ref p, .int x0, .int x1, .int x2] [] h Q) : ∃ r h1, iEv mX9_node_ [.ref p, .int x0, .int x1, .int x2] h r h1 ∧ Q r h1 := iEv_of (by rfl) rfl hw
theorem J9_node_ {r : Option Value} {h1 : iHp} (hw : iWp 3 mX9_node_ 0 [.ref p, .int x0, .int x1, .int x2] [] h (fun r' h' => r' = r ∧ h' = h1)) : iEv mX9_node_ [.ref p, .int x0, .int x1, .int x2] h r h1 := iEv_ev (by rfl) rfl hw
theorem X9_nodes_0 : iWp d mX9_nodes 0 [.ref p, a1] st h Q = iWp d mX9_nodes 1 [.ref p, a1] (.ref p :: st) h Q := w_aload_n dX9_nodes_0 rfl
theorem X9_nodes_1 : iWp d mX9_nodes 1 [a0, .int x] st h Q = iWp d mX9_nodes 2 [a0, .int x] (.int x :: st) h Q := w_iload_n dX9_nodes_1 rfl
theorem X9_nodes_2 (he : iEv mX9_isTree [.ref p, .int x0] h (some (.int rv)) h2) (ho : iObj h p 9 = true) : iWp 3 mX9_nodes 2 [a0, a1] [.int x0, .ref p] h Q = iWp 3 mX9_nodes 5 [a0, a1] [.int rv] h2 Q := iWp_cV dX9_nodes_2 fK_9_166 rfl rfl ho (Nat.le_of_ble_eq_true rfl) (Nat.le_of_ble_eq_true rfl) rfl (Nat.le_of_ble_eq_true rfl) he rfl
theorem X9_nodes_5 : iWp d mX9_nodes 5 [a0, a1] (.int x :: st) h Q = if x = 0 then iWp d mX9_nodes 17 [a0, a1] st h Q else iWp d mX9_nodes 8 [a0, a1] st h Q := w_ifc_eq dX9_nodes_5 rfl
theorem X9_nodes_8 : iWp d mX9_nodes 8 [.ref p, a1] st h Q = iWp d mX9_nodes 9 [.ref p, a1] (.ref p :: st) h Q := w_aload_n dX9_nodes_8 rfl
theorem X9_nodes_9 : iWp d mX9_nodes 9 [a0, a1] (.ref p :: st) h Q = iOb (iGet h p 9 1) (fun v => iWp d mX9_nodes 12 [a0, a1] (v :: st) h Q) := w_getf dX9_nodes_9 fF_9_7
theorem X9_nodes_12 : iWp d mX9_nodes 12 [a0, .int x] st h Q = iWp d mX9_nodes 13 [a0, .int x] (.int x :: st) h Q := w_iload_n dX9_nodes_12 rfl
theorem X9_nodes_13 : iWp d mX9_nodes 13 [a0, a1] (.int x :: .ref p :: st) h Q = iOb (iLdI h p x) (fun v => iWp d mX9_nodes 14 [a0, a1] (.int v :: st) h Q) := w_iaload dX9_nodes_13
theorem X9_nodes_14 : iWp d mX9_nodes 14 [a0, a1] st h Q = iWp d mX9_nodes 22 [a0, a1] st h Q := w_goto dX9_nodes_14 rfl
theorem X9_nodes_17 : iWp d mX9_nodes 17 [.ref p, a1] st h Q = iWp d mX9_nodes 18 [.ref p, a1] (.ref p :: st) h Q := w_aload_n dX9_nodes_17 rfl
theorem X9_nodes_18 : iWp d mX9_nodes 18 [a0, a1] st h Q = iWp d mX9_nodes 19 [a0, a1] (.int (-1) :: st) h Q := w_iconst dX9_nodes_18 rfl
theorem X9_nodes_19 (he : iEv mX9_no [.ref p, .int x0] h (some (.int rv)) h2) (ho : iObj h p 9 = true) : iWp 3 mX9_nodes 19 [a0, a1] [.int x0, .ref p] h Q = iWp 3 mX9_nodes 22 [a0, a1] [.int rv] h2 Q := iWp_cV dX9_nodes_19 fK_9_99 rfl rfl ho (Nat.le_of_ble_eq_true rfl) (Nat.le_of_ble_eq_true rfl) rfl (Nat.le_of_ble_eq_true rfl) he rfl
theorem X9_nodes_22 : iWp d mX9_nodes 22 [a0, a1] [.int x] h Q = Q (some (.int x)) h := w_ireti dX9_nodes_22 rfl
theorem I9_nodes {Q : Option Value → iHp → Prop} (hw : iWp 3 mX9_nodes 0 [.ref p, .int x0] [] h Q) : ∃ r h1, iEv mX9_nodes [.ref p, .int x0] h r h1 ∧ Q r h1 := iEv_of (by rfl) rfl hw
theorem J9_nodes {r : Option Value} {h1 : iHp} (hw : iWp 3 mX9_nodes 0 [.ref p, .int x0] [] h (fun r' h' => r' = r ∧ h' = h1)) : iEv mX9_nodes [.ref p, .int x0] h r h1 := iEv_ev (by rfl) rfl hw
theorem X9_of_0 : iWp d mX9_of 0 [.ref p, a1, a2] st h Q = iWp d mX9_of 1 [.ref p, a1, a2] (.ref p :: st) h Q := w_aload_n dX9_of_0 rfl
theorem X9_of_1 : iWp d mX9_of 1 [a0, a1, a2] (.ref p :: st) h Q = iOb (iGet h p 9 7) (fun v => iWp d mX9_of 4 [a0, a1, a2] (v :: st) h Q) := w_getf dX9_of_1 fF_9_22
theorem X9_of_4 : iWp d mX9_of 4 [a0, a1, a2] st h Q = iWp d mX9_of 6 [a0, a1, a2] (.int 16 :: st) h Q := w_bipush dX9_of_4 rfl
theorem X9_of_6 : iWp d mX9_of 6 [a0, .int x, a2] st h Q = iWp d mX9_of 7 [a0, .int x, a2] (.int x :: st) h Q := w_iload_n dX9_of_6 rfl
theorem X9_of_7 : iWp d mX9_of 7 [a0, a1, a2] (.int y :: .int x :: st) h Q = iWp d mX9_of 8 [a0, a1, a2] (.int (x * y) :: st) h Q := w_imul dX9_of_7
theorem X9_of_8 : iWp d mX9_of 8 [a0, a1, .int x] st h Q = iWp d mX9_of 9 [a0, a1, .int x] (.int x :: st) h Q := w_iload_n dX9_of_8 rfl
theorem X9_of_9 : iWp d mX9_of 9 [a0, a1, a2] (.int y :: .int x :: st) h Q = iWp d mX9_of 10 [a0, a1, a2] (.int (x + y) :: st) h Q := w_iadd dX9_of_9
theorem X9_of_10 : iWp d mX9_of 10 [a0, a1, a2] (.int x :: .ref p :: st) h Q = iOb (iLdI h p x) (fun v => iWp d mX9_of 11 [a0, a1, a2] (.int v :: st) h Q) := w_iaload dX9_of_10
theorem X9_of_11 : iWp d mX9_of 11 [a0, a1, a2] [.int x] h Q = Q (some (.int x)) h := w_ireti dX9_of_11 rfl
theorem I9_of {Q : Option Value → iHp → Prop} (hw : iWp 1 mX9_of 0 [.ref p, .int x0, .int x1] [] h Q) : ∃ r h1, iEv mX9_of [.ref p, .int x0, .int x1] h r h1 ∧ Q r h1 := iEv_of (by rfl) rfl hw
theorem J9_of {r : Option Value} {h1 : iHp} (hw : iWp 1 mX9_of 0 [.ref p, .int x0, .int x1] [] h (fun r' h' => r' = r ∧ h' = h1)) : iEv mX9_of [.ref p, .int x0, .int x1] h r h1 := iEv_ev (by rfl) rfl hw
theorem X9_ordered_0 : iWp d mX9_ordered 0 [.ref p, a1, a2, a3, a4, a5, a6, a7, a8, a9, a10, a11, a12, a13] st h Q = iWp d mX9_ordered 1 [.ref p, a1, a2, a3, a4, a5, a6, a7, a8, a9, a10, a11, a12, a13] (.ref p :: st) h Q := w_aload_n dX9_ordered_0 rfl
theorem X9_ordered_1 : iWp d mX9_ordered 1 [a0, a1, .int x, a3, a4, a5, a6, a7, a8, a9, a10, a11, a12, a13] st h Q = iWp d mX9_ordered 2 [a0, a1, .int x, a3, a4, a5, a6, a7, a8, a9, a10, a11, a12, a13] (.int x :: st) h Q := w_iload_n dX9_ordered_1 rfl
theorem X9_ordered_2 : iWp d mX9_ordered 2 [a0, a1, a2, .int x, a4, a5, a6, a7, a8, a9, a10, a11, a12, a13] st h Q = iWp d mX9_ordered 3 [a0, a1, a2, .int x, a4, a5, a6, a7, a8, a9, a10, a11, a12, a13] (.int x :: st) h Q := w_iload_n dX9_ordered_2 rfl
theorem X9_ordered_3 (he : iEv mX9_staying [.ref p, .int x0, .int x1] h (some (.long rl)) h2) (ho : iObj h p 9 = true) : iWp 7 mX9_ordered 3 [a0, a1, a2, a3, a4, a5, a6, a7, a8, a9, a10, a11, a12, a13] [.int x1, .int x0, .ref p] h Q = iWp 7 mX9_ordered 6 [a0, a1, a2, a3, a4, a5, a6, a7, a8, a9, a10, a11, a12, a13] [.long rl] h2 Q := iWp_cV dX9_ordered_3 fK_9_226 rfl rfl ho (Nat.le_of_ble_eq_true rfl) (Nat.le_of_ble_eq_true rfl) rfl (Nat.le_of_ble_eq_true rfl) he rfl
theorem X9_ordered_6 : iWp d mX9_ordered 6 [a0, a1, a2, a3, a4, a5, a6, a7, a8, a9, a10, a11, a12, a13] (.long u :: st) h Q = iWp d mX9_ordered 8 [a0, a1, a2, iClr a3, .long u, iU, a6, a7, a8, a9, a10, a11, a12, a13] st h Q := w_lstore dX9_ordered_6 (Nat.le_of_ble_eq_true rfl) rfl
theorem X9_ordered_8 : iWp d mX9_ordered 8 [.ref p, a1, a2, a3, a4, a5, a6, a7, a8, a9, a10, a11, a12, a13] st h Q = iWp d mX9_ordered 9 [.ref p, a1, a2, a3, a4, a5, a6, a7, a8, a9, a10, a11, a12, a13] (.ref p :: st) h Q := w_aload_n dX9_ordered_8 rfl
theorem X9_ordered_9 : iWp d mX9_ordered 9 [a0, a1, .int x, a3, a4, a5, a6, a7, a8, a9, a10, a11, a12, a13] st h Q = iWp d mX9_ordered 10 [a0, a1, .int x, a3, a4, a5, a6, a7, a8, a9, a10, a11, a12, a13] (.int x :: st) h Q := w_iload_n dX9_ordered_9 rfl
theorem X9_ordered_10 : iWp d mX9_ordered 10 [a0, a1, a2, .int x, a4, a5, a6, a7, a8, a9, a10, a11, a12, a13] st h Q = iWp d mX9_ordered 11 [a0, a1, a2, .int x, a4, a5, a6, a7, a8, a9, a10, a11, a12, a13] (.int x :: st) h Q := w_iload_n dX9_ordered_10 rfl
theorem X9_ordered_11 (he : iEv mX9_keyOf [.ref p, .int x0, .int x1] h (some (.int rv)) h2) (ho : iObj h p 9 = true) : iWp 7 mX9_ordered 11 [a0, a1, a2, a3, a4, a5, a6, a7, a8, a9, a10, a11, a12, a13] [.int x1, .int x0, .ref p] h Q = iWp 7 mX9_ordered 14 [a0, a1, a2, a3, a4, a5, a6, a7, a8, a9, a10, a11, a12, a13] [.int rv] h2 Q := iWp_cV dX9_ordered_11 fK_9_211 rfl rfl ho (Nat.le_of_ble_eq_true rfl) (Nat.le_of_ble_eq_true rfl) rfl (Nat.le_of_ble_eq_true rfl) he rfl
theorem X9_ordered_14 : iWp d mX9_ordered 14 [a0, a1, a2, a3, a4, a5, a6, a7, a8, a9, a10, a11, a12, a13] (.int x :: st) h Q = iWp d mX9_ordered 16 [a0, a1, a2, a3, a4, iClr a5, .int x, a7, a8, a9, a10, a11, a12, a13] st h Q := w_istore dX9_ordered_14 (Nat.le_of_ble_eq_true rfl) rfl
theorem X9_ordered_16 : iWp d mX9_ordered 16 [a0, a1, a2, a3, a4, a5, a6, a7, a8, a9, a10, a11, a12, a13] st h Q = iWp d mX9_ordered 17 [a0, a1, a2, a3, a4, a5, a6, a7, a8, a9, a10, a11, a12, a13] (.int 0 :: st) h Q := w_iconst dX9_ordered_16 rfl
theorem X9_ordered_17 : iWp d mX9_ordered 17 [a0, a1, a2, a3, a4, a5, a6, a7, a8, a9, a10, a11, a12, a13] (.int x :: st) h Q = iWp d mX9_ordered 19 [a0, a1, a2, a3, a4, a5, iClr a6, .int x, a8, a9, a10, a11, a12, a13] st h Q := w_istore dX9_ordered_17 (Nat.le_of_ble_eq_true rfl) rfl
theorem X9_ordered_19 : iWp d mX9_ordered 19 [a0, a1, a2, a3, a4, a5, a6, a7, a8, a9, a10, a11, a12, a13] st h Q = iWp d mX9_ordered 20 [a0, a1, a2, a3, a4, a5, a6, a7, a8, a9, a10, a11, a12, a13] (.int (-1) :: st) h Q := w_iconst dX9_ordered_19 rfl
theorem X9_ordered_20 : iWp d mX9_ordered 20 [a0, a1, a2, a3, a4, a5, a6, a7, a8, a9, a10, a11, a12, a13] (.int x :: st) h Q = iWp d mX9_ordered 22 [a0, a1, a2, a3, a4, a5, a6, iClr a7, .int x, a9, a10, a11, a12, a13] st h Q := w_istore dX9_ordered_20 (Nat.le_of_ble_eq_true rfl) rfl
theorem X9_ordered_22 : iWp d mX9_ordered 22 [.ref p, a1, a2, a3, a4, a5, a6, a7, a8, a9, a10, a11, a12, a13] st h Q = iWp d mX9_ordered 23 [.ref p, a1, a2, a3, a4, a5, a6, a7, a8, a9, a10, a11, a12, a13] (.ref p :: st) h Q := w_aload_n dX9_ordered_22 rfl
theorem X9_ordered_23 : iWp d mX9_ordered 23 [a0, a1, .int x, a3, a4, a5, a6, a7, a8, a9, a10, a11, a12, a13] st h Q = iWp d mX9_ordered 24 [a0, a1, .int x, a3, a4, a5, a6, a7, a8, a9, a10, a11, a12, a13] (.int x :: st) h Q := w_iload_n dX9_ordered_23 rfl
theorem X9_ordered_24 : iWp d mX9_ordered 24 [a0, a1, a2, .int x, a4, a5, a6, a7, a8, a9, a10, a11, a12, a13] st h Q = iWp d mX9_ordered 25 [a0, a1, a2, .int x, a4, a5, a6, a7, a8, a9, a10, a11, a12, a13] (.int x :: st) h Q := w_iload_n dX9_ordered_24 rfl
theorem X9_ordered_25 : iWp d mX9_ordered 25 [a0, a1, a2, .int x, a4, a5, a6, a7, a8, a9, a10, a11, a12, a13] st h Q = iWp d mX9_ordered 26 [a0, a1, a2, .int x, a4, a5, a6, a7, a8, a9, a10, a11, a12, a13] (.int x :: st) h Q := w_iload_n dX9_ordered_25 rfl
theorem X9_ordered_26 (he : iEv mX9_next [.ref p, .int x0, .int x1, .int x2] h (some (.int rv)) h2) (ho : iObj h p 9 = true) : iWp 7 mX9_ordered 26 [a0, a1, a2, a3, a4, a5, a6, a7, a8, a9, a10, a11, a12, a13] [.int x2, .int x1, .int x0, .ref p] h Q = iWp 7 mX9_ordered 29 [a0, a1, a2, a3, a4, a5, a6, a7, a8, a9, a10, a11, a12, a13] [.int rv] h2 Q := iWp_cV dX9_ordered_26 fK_9_214 rfl rfl ho (Nat.le_of_ble_eq_true rfl) (Nat.le_of_ble_eq_true rfl) rfl (Nat.le_of_ble_eq_true rfl) he rfl
theorem X9_ordered_29 : iWp d mX9_ordered 29 [a0, a1, a2, a3, a4, a5, a6, a7, a8, a9, a10, a11, a12, a13] (.int x :: st) h Q = iWp d mX9_ordered 31 [a0, a1, a2, a3, a4, a5, a6, a7, iClr a8, .int x, a10, a11, a12, a13] st h Q := w_istore dX9_ordered_29 (Nat.le_of_ble_eq_true rfl) rfl
theorem X9_ordered_31 : iWp d mX9_ordered 31 [a0, a1, a2, a3, a4, a5, a6, a7, a8, .int x, a10, a11, a12, a13] st h Q = iWp d mX9_ordered 33 [a0, a1, a2, a3, a4, a5, a6, a7, a8, .int x, a10, a11, a12, a13] (.int x :: st) h Q := w_iload dX9_ordered_31 rfl
theorem X9_ordered_33 : iWp d mX9_ordered 33 [a0, a1, a2, a3, a4, a5, a6, a7, a8, a9, a10, a11, a12, a13] st h Q = iWp d mX9_ordered 34 [a0, a1, a2, a3, a4, a5, a6, a7, a8, a9, a10, a11, a12, a13] (.int (-1) :: st) h Q := w_iconst dX9_ordered_33 rfl
theorem X9_ordered_34 : iWp d mX9_ordered 34 [a0, a1, a2, a3, a4, a5, a6, a7, a8, a9, a10, a11, a12, a13] (.int y :: .int x :: st) h Q = if x = y then iWp d mX9_ordered 226 [a0, a1, a2, a3, a4, a5, a6, a7, a8, a9, a10, a11, a12, a13] st h Q else iWp d mX9_ordered 37 [a0, a1, a2, a3, a4, a5, a6, a7, a8, a9, a10, a11, a12, a13] st h Q := w_icmp_eq dX9_ordered_34 rfl
theorem X9_ordered_37 : iWp d mX9_ordered 37 [.ref p, a1, a2, a3, a4, a5, a6, a7, a8, a9, a10, a11, a12, a13] st h Q = iWp d mX9_ordered 38 [.ref p, a1, a2, a3, a4, a5, a6, a7, a8, a9, a10, a11, a12, a13] (.ref p :: st) h Q := w_aload_n dX9_ordered_37 rfl
theorem X9_ordered_38 : iWp d mX9_ordered 38 [a0, a1, .int x, a3, a4, a5, a6, a7, a8, a9, a10, a11, a12, a13] st h Q = iWp d mX9_ordered 39 [a0, a1, .int x, a3, a4, a5, a6, a7, a8, a9, a10, a11, a12, a13] (.int x :: st) h Q := w_iload_n dX9_ordered_38 rfl
theorem X9_ordered_39 : iWp d mX9_ordered 39 [a0, a1, a2, a3, a4, a5, a6, a7, a8, .int x, a10, a11, a12, a13] st h Q = iWp d mX9_ordered 41 [a0, a1, a2, a3, a4, a5, a6, a7, a8, .int x, a10, a11, a12, a13] (.int x :: st) h Q := w_iload dX9_ordered_39 rfl
theorem X9_ordered_41 (he : iEv mX9_keyOf [.ref p, .int x0, .int x1] h (some (.int rv)) h2) (ho : iObj h p 9 = true) : iWp 7 mX9_ordered 41 [a0, a1, a2, a3, a4, a5, a6, a7, a8, a9, a10, a11, a12, a13] [.int x1, .int x0, .ref p] h Q = iWp 7 mX9_ordered 44 [a0, a1, a2, a3, a4, a5, a6, a7, a8, a9, a10, a11, a12, a13] [.int rv] h2 Q := iWp_cV dX9_ordered_41 fK_9_211 rfl rfl ho (Nat.le_of_ble_eq_true rfl) (Nat.le_of_ble_eq_true rfl) rfl (Nat.le_of_ble_eq_true rfl) he rfl
theorem X9_ordered_44 : iWp d mX9_ordered 44 [a0, a1, a2, a3, a4, a5, a6, a7, a8, a9, a10, a11, a12, a13] (.int x :: st) h Q = iWp d mX9_ordered 46 [a0, a1, a2, a3, a4, a5, a6, a7, a8, iClr a9, .int x, a11, a12, a13] st h Q := w_istore dX9_ordered_44 (Nat.le_of_ble_eq_true rfl) rfl
theorem X9_ordered_46 : iWp d mX9_ordered 46 [a0, a1, a2, a3, .long u, a5, a6, a7, a8, a9, a10, a11, a12, a13] st h Q = iWp d mX9_ordered 48 [a0, a1, a2, a3, .long u, a5, a6, a7, a8, a9, a10, a11, a12, a13] (.long u :: st) h Q := w_lload dX9_ordered_46 rfl
theorem X9_ordered_48 : iWp d mX9_ordered 48 [a0, a1, a2, a3, a4, a5, a6, .int x, a8, a9, a10, a11, a12, a13] st h Q = iWp d mX9_ordered 50 [a0, a1, a2, a3, a4, a5, a6, .int x, a8, a9, a10, a11, a12, a13] (.int x :: st) h Q := w_iload dX9_ordered_48 rfl
theorem X9_ordered_50 : iWp d mX9_ordered 50 [a0, a1, a2, a3, a4, a5, a6, a7, a8, a9, a10, a11, a12, a13] (.int y :: .long u :: st) h Q = iWp d mX9_ordered 51 [a0, a1, a2, a3, a4, a5, a6, a7, a8, a9, a10, a11, a12, a13] (.long (u >>> (y.toInt64 &&& 63)) :: st) h Q := w_lshr dX9_ordered_50
theorem X9_ordered_51 : iWp d mX9_ordered 51 [a0, a1, a2, a3, a4, a5, a6, a7, a8, a9, a10, a11, a12, a13] st h Q = iWp d mX9_ordered 52 [a0, a1, a2, a3, a4, a5, a6, a7, a8, a9, a10, a11, a12, a13] (.long 1 :: st) h Q := w_lconst dX9_ordered_51 rfl
theorem X9_ordered_52 : iWp d mX9_ordered 52 [a0, a1, a2, a3, a4, a5, a6, a7, a8, a9, a10, a11, a12, a13] (.long v :: .long u :: st) h Q = iWp d mX9_ordered 53 [a0, a1, a2, a3, a4, a5, a6, a7, a8, a9, a10, a11, a12, a13] (.long (u &&& v) :: st) h Q := w_land dX9_ordered_52
theorem X9_ordered_53 : iWp d mX9_ordered 53 [a0, a1, a2, a3, a4, a5, a6, a7, a8, a9, a10, a11, a12, a13] st h Q = iWp d mX9_ordered 54 [a0, a1, a2, a3, a4, a5, a6, a7, a8, a9, a10, a11, a12, a13] (.long 0 :: st) h Q := w_lconst dX9_ordered_53 rfl
theorem X9_ordered_54 : iWp d mX9_ordered 54 [a0, a1, a2, a3, a4, a5, a6, a7, a8, a9, a10, a11, a12, a13] (.long v :: .long u :: st) h Q = iWp d mX9_ordered 55 [a0, a1, a2, a3, a4, a5, a6, a7, a8, a9, a10, a11, a12, a13] (.int (lg_cmp u v) :: st) h Q := w_lcmp dX9_ordered_54
theorem X9_ordered_55 : iWp d mX9_ordered 55 [a0, a1, a2, a3, a4, a5, a6, a7, a8, a9, a10, a11, a12, a13] (.int x :: st) h Q = if x = 0 then iWp d mX9_ordered 58 [a0, a1, a2, a3, a4, a5, a6, a7, a8, a9, a10, a11, a12, a13] st h Q else iWp d mX9_ordered 206 [a0, a1, a2, a3, a4, a5, a6, a7, a8, a9, a10, a11, a12, a13] st h Q := w_ifc_ne dX9_ordered_55 rfl
theorem X9_ordered_58 : iWp d mX9_ordered 58 [.ref p, a1, a2, a3, a4, a5, a6, a7, a8, a9, a10, a11, a12, a13] st h Q = iWp d mX9_ordered 59 [.ref p, a1, a2, a3, a4, a5, a6, a7, a8, a9, a10, a11, a12, a13] (.ref p :: st) h Q := w_aload_n dX9_ordered_58 rfl
theorem X9_ordered_59 : iWp d mX9_ordered 59 [a0, a1, a2, a3, a4, a5, a6, a7, a8, a9, .int x, a11, a12, a13] st h Q = iWp d mX9_ordered 61 [a0, a1, a2, a3, a4, a5, a6, a7, a8, a9, .int x, a11, a12, a13] (.int x :: st) h Q := w_iload dX9_ordered_59 rfl
theorem X9_ordered_61 (he : iEv mX9_find [.ref p, .int x0] h (some (.int rv)) h2) (ho : iObj h p 9 = true) : iWp 7 mX9_ordered 61 [a0, a1, a2, a3, a4, a5, a6, a7, a8, a9, a10, a11, a12, a13] [.int x0, .ref p] h Q = iWp 7 mX9_ordered 64 [a0, a1, a2, a3, a4, a5, a6, a7, a8, a9, a10, a11, a12, a13] [.int rv] h2 Q := iWp_cV dX9_ordered_61 fK_9_153 rfl rfl ho (Nat.le_of_ble_eq_true rfl) (Nat.le_of_ble_eq_true rfl) rfl (Nat.le_of_ble_eq_true rfl) he rfl
theorem X9_ordered_64 : iWp d mX9_ordered 64 [a0, a1, a2, a3, a4, a5, a6, a7, a8, a9, a10, a11, a12, a13] (.int x :: st) h Q = iWp d mX9_ordered 66 [a0, a1, a2, a3, a4, a5, a6, a7, a8, a9, iClr a10, .int x, a12, a13] st h Q := w_istore dX9_ordered_64 (Nat.le_of_ble_eq_true rfl) rfl
theorem X9_ordered_66 : iWp d mX9_ordered 66 [a0, a1, a2, a3, a4, a5, a6, a7, a8, a9, a10, .int x, a12, a13] st h Q = iWp d mX9_ordered 68 [a0, a1, a2, a3, a4, a5, a6, a7, a8, a9, a10, .int x, a12, a13] (.int x :: st) h Q := w_iload dX9_ordered_66 rfl
theorem X9_ordered_68 : iWp d mX9_ordered 68 [a0, a1, a2, a3, a4, a5, a6, a7, a8, a9, a10, a11, a12, a13] (.int x :: st) h Q = if x ≤ 0 then iWp d mX9_ordered 86 [a0, a1, a2, a3, a4, a5, a6, a7, a8, a9, a10, a11, a12, a13] st h Q else iWp d mX9_ordered 71 [a0, a1, a2, a3, a4, a5, a6, a7, a8, a9, a10, a11, a12, a13] st h Q := w_ifc_le dX9_ordered_68 rfl
theorem X9_ordered_71 : iWp d mX9_ordered 71 [.ref p, a1, a2, a3, a4, a5, a6, a7, a8, a9, a10, a11, a12, a13] st h Q = iWp d mX9_ordered 72 [.ref p, a1, a2, a3, a4, a5, a6, a7, a8, a9, a10, a11, a12, a13] (.ref p :: st) h Q := w_aload_n dX9_ordered_71 rfl
theorem X9_ordered_72 : iWp d mX9_ordered 72 [a0, a1, a2, a3, a4, a5, a6, a7, a8, a9, a10, .int x, a12, a13] st h Q = iWp d mX9_ordered 74 [a0, a1, a2, a3, a4, a5, a6, a7, a8, a9, a10, .int x, a12, a13] (.int x :: st) h Q := w_iload dX9_ordered_72 rfl
theorem X9_ordered_74 (he : iEv mX9_parentKey [.ref p, .int x0] h (some (.int rv)) h2) (ho : iObj h p 9 = true) : iWp 7 mX9_ordered 74 [a0, a1, a2, a3, a4, a5, a6, a7, a8, a9, a10, a11, a12, a13] [.int x0, .ref p] h Q = iWp 7 mX9_ordered 77 [a0, a1, a2, a3, a4, a5, a6, a7, a8, a9, a10, a11, a12, a13] [.int rv] h2 Q := iWp_cV dX9_ordered_74 fK_9_172 rfl rfl ho (Nat.le_of_ble_eq_true rfl) (Nat.le_of_ble_eq_true rfl) rfl (Nat.le_of_ble_eq_true rfl) he rfl
theorem X9_ordered_77 : iWp d mX9_ordered 77 [a0, a1, a2, a3, a4, a5, .int x, a7, a8, a9, a10, a11, a12, a13] st h Q = iWp d mX9_ordered 79 [a0, a1, a2, a3, a4, a5, .int x, a7, a8, a9, a10, a11, a12, a13] (.int x :: st) h Q := w_iload dX9_ordered_77 rfl
theorem X9_ordered_79 : iWp d mX9_ordered 79 [a0, a1, a2, a3, a4, a5, a6, a7, a8, a9, a10, a11, a12, a13] (.int y :: .int x :: st) h Q = if x = y then iWp d mX9_ordered 82 [a0, a1, a2, a3, a4, a5, a6, a7, a8, a9, a10, a11, a12, a13] st h Q else iWp d mX9_ordered 86 [a0, a1, a2, a3, a4, a5, a6, a7, a8, a9, a10, a11, a12, a13] st h Q := w_icmp_ne dX9_ordered_79 rfl
theorem X9_ordered_82 : iWp d mX9_ordered 82 [a0, a1, a2, a3, a4, a5, a6, a7, a8, a9, a10, a11, a12, a13] st h Q = iWp d mX9_ordered 83 [a0, a1, a2, a3, a4, a5, a6, a7, a8, a9, a10, a11, a12, a13] (.int 1 :: st) h Q := w_iconst dX9_ordered_82 rfl
theorem X9_ordered_83 : iWp d mX9_ordered 83 [a0, a1, a2, a3, a4, a5, a6, a7, a8, a9, a10, a11, a12, a13] st h Q = iWp d mX9_ordered 87 [a0, a1, a2, a3, a4, a5, a6, a7, a8, a9, a10, a11, a12, a13] st h Q := w_goto dX9_ordered_83 rfl
theorem X9_ordered_86 : iWp d mX9_ordered 86 [a0, a1, a2, a3, a4, a5, a6, a7, a8, a9, a10, a11, a12, a13] st h Q = iWp d mX9_ordered 87 [a0, a1, a2, a3, a4, a5, a6, a7, a8, a9, a10, a11, a12, a13] (.int 0 :: st) h Q := w_iconst dX9_ordered_86 rfl
theorem X9_ordered_87 : iWp d mX9_ordered 87 [a0, a1, a2, a3, a4, a5, a6, a7, a8, a9, a10, a11, a12, a13] (.int x :: st) h Q = iWp d mX9_ordered 89 [a0, a1, a2, a3, a4, a5, a6, a7, a8, a9, a10, iClr a11, .int x, a13] st h Q := w_istore dX9_ordered_87 (Nat.le_of_ble_eq_true rfl) rfl
theorem X9_ordered_89 : iWp d mX9_ordered 89 [a0, a1, a2, a3, a4, a5, a6, a7, .int x, a9, a10, a11, a12, a13] st h Q = iWp d mX9_ordered 91 [a0, a1, a2, a3, a4, a5, a6, a7, .int x, a9, a10, a11, a12, a13] (.int x :: st) h Q := w_iload dX9_ordered_89 rfl
theorem X9_ordered_91 : iWp d mX9_ordered 91 [a0, a1, a2, a3, a4, a5, a6, a7, a8, a9, a10, a11, a12, a13] st h Q = iWp d mX9_ordered 92 [a0, a1, a2, a3, a4, a5, a6, a7, a8, a9, a10, a11, a12, a13] (.int (-1) :: st) h Q := w_iconst dX9_ordered_91 rfl
theorem X9_ordered_92 : iWp d mX9_ordered 92 [a0, a1, a2, a3, a4, a5, a6, a7, a8, a9, a10, a11, a12, a13] (.int y :: .int x :: st) h Q = if x = y then iWp d mX9_ordered 95 [a0, a1, a2, a3, a4, a5, a6, a7, a8, a9, a10, a11, a12, a13] st h Q else iWp d mX9_ordered 99 [a0, a1, a2, a3, a4, a5, a6, a7, a8, a9, a10, a11, a12, a13] st h Q := w_icmp_ne dX9_ordered_92 rfl
theorem X9_ordered_95 : iWp d mX9_ordered 95 [a0, a1, a2, a3, a4, a5, a6, a7, a8, a9, a10, a11, a12, a13] st h Q = iWp d mX9_ordered 96 [a0, a1, a2, a3, a4, a5, a6, a7, a8, a9, a10, a11, a12, a13] (.int 0 :: st) h Q := w_iconst dX9_ordered_95 rfl
theorem X9_ordered_96 : iWp d mX9_ordered 96 [a0, a1, a2, a3, a4, a5, a6, a7, a8, a9, a10, a11, a12, a13] st h Q = iWp d mX9_ordered 141 [a0, a1, a2, a3, a4, a5, a6, a7, a8, a9, a10, a11, a12, a13] st h Q := w_goto dX9_ordered_96 rfl
theorem X9_ordered_99 : iWp d mX9_ordered 99 [.ref p, a1, a2, a3, a4, a5, a6, a7, a8, a9, a10, a11, a12, a13] st h Q = iWp d mX9_ordered 100 [.ref p, a1, a2, a3, a4, a5, a6, a7, a8, a9, a10, a11, a12, a13] (.ref p :: st) h Q := w_aload_n dX9_ordered_99 rfl
theorem X9_ordered_100 : iWp d mX9_ordered 100 [.ref p, a1, a2, a3, a4, a5, a6, a7, a8, a9, a10, a11, a12, a13] st h Q = iWp d mX9_ordered 101 [.ref p, a1, a2, a3, a4, a5, a6, a7, a8, a9, a10, a11, a12, a13] (.ref p :: st) h Q := w_aload_n dX9_ordered_100 rfl
theorem X9_ordered_101 : iWp d mX9_ordered 101 [a0, a1, a2, a3, a4, a5, a6, a7, .int x, a9, a10, a11, a12, a13] st h Q = iWp d mX9_ordered 103 [a0, a1, a2, a3, a4, a5, a6, a7, .int x, a9, a10, a11, a12, a13] (.int x :: st) h Q := w_iload dX9_ordered_101 rfl
theorem X9_ordered_103 (he : iEv mX9_find [.ref p, .int x0] h (some (.int rv)) h2) (ho : iObj h p 9 = true) : iWp 7 mX9_ordered 103 [a0, a1, a2, a3, a4, a5, a6, a7, a8, a9, a10, a11, a12, a13] [.int x0, .ref p, .ref t0] h Q = iWp 7 mX9_ordered 106 [a0, a1, a2, a3, a4, a5, a6, a7, a8, a9, a10, a11, a12, a13] [.int rv, .ref t0] h2 Q := iWp_cV dX9_ordered_103 fK_9_153 rfl rfl ho (Nat.le_of_ble_eq_true rfl) (Nat.le_of_ble_eq_true rfl) rfl (Nat.le_of_ble_eq_true rfl) he rfl
theorem X9_ordered_106 (he : iEv mX9_place [.ref p, .int x0] h (some (.int rv)) h2) (ho : iObj h p 9 = true) : iWp 7 mX9_ordered 106 [a0, a1, a2, a3, a4, a5, a6, a7, a8, a9, a10, a11, a12, a13] [.int x0, .ref p] h Q = iWp 7 mX9_ordered 109 [a0, a1, a2, a3, a4, a5, a6, a7, a8, a9, a10, a11, a12, a13] [.int rv] h2 Q := iWp_cV dX9_ordered_106 fK_9_175 rfl rfl ho (Nat.le_of_ble_eq_true rfl) (Nat.le_of_ble_eq_true rfl) rfl (Nat.le_of_ble_eq_true rfl) he rfl
theorem X9_ordered_109 : iWp d mX9_ordered 109 [a0, a1, a2, a3, a4, a5, a6, a7, a8, a9, a10, a11, a12, a13] st h Q = iWp d mX9_ordered 110 [a0, a1, a2, a3, a4, a5, a6, a7, a8, a9, a10, a11, a12, a13] (.int 1 :: st) h Q := w_iconst dX9_ordered_109 rfl
theorem X9_ordered_110 : iWp d mX9_ordered 110 [a0, a1, a2, a3, a4, a5, a6, a7, a8, a9, a10, a11, a12, a13] (.int y :: .int x :: st) h Q = iWp d mX9_ordered 111 [a0, a1, a2, a3, a4, a5, a6, a7, a8, a9, a10, a11, a12, a13] (.int (x + y) :: st) h Q := w_iadd dX9_ordered_110
theorem X9_ordered_111 : iWp d mX9_ordered 111 [a0, a1, a2, a3, a4, a5, a6, a7, a8, a9, a10, a11, .int x, a13] st h Q = iWp d mX9_ordered 113 [a0, a1, a2, a3, a4, a5, a6, a7, a8, a9, a10, a11, .int x, a13] (.int x :: st) h Q := w_iload dX9_ordered_111 rfl
theorem X9_ordered_113 : iWp d mX9_ordered 113 [a0, a1, a2, a3, a4, a5, a6, a7, a8, a9, a10, a11, a12, a13] (.int x :: st) h Q = if x = 0 then iWp d mX9_ordered 139 [a0, a1, a2, a3, a4, a5, a6, a7, a8, a9, a10, a11, a12, a13] st h Q else iWp d mX9_ordered 116 [a0, a1, a2, a3, a4, a5, a6, a7, a8, a9, a10, a11, a12, a13] st h Q := w_ifc_eq dX9_ordered_113 rfl
theorem X9_ordered_116 : iWp d mX9_ordered 116 [.ref p, a1, a2, a3, a4, a5, a6, a7, a8, a9, a10, a11, a12, a13] st h Q = iWp d mX9_ordered 117 [.ref p, a1, a2, a3, a4, a5, a6, a7, a8, a9, a10, a11, a12, a13] (.ref p :: st) h Q := w_aload_n dX9_ordered_116 rfl
theorem X9_ordered_117 : iWp d mX9_ordered 117 [a0, a1, a2, a3, a4, a5, a6, a7, a8, a9, a10, .int x, a12, a13] st h Q = iWp d mX9_ordered 119 [a0, a1, a2, a3, a4, a5, a6, a7, a8, a9, a10, .int x, a12, a13] (.int x :: st) h Q := w_iload dX9_ordered_117 rfl
theorem X9_ordered_119 (he : iEv mX9_place [.ref p, .int x0] h (some (.int rv)) h2) (ho : iObj h p 9 = true) : iWp 7 mX9_ordered 119 [a0, a1, a2, a3, a4, a5, a6, a7, a8, a9, a10, a11, a12, a13] [.int x0, .ref p, .int r0] h Q = iWp 7 mX9_ordered 122 [a0, a1, a2, a3, a4, a5, a6, a7, a8, a9, a10, a11, a12, a13] [.int rv, .int r0] h2 Q := iWp_cV dX9_ordered_119 fK_9_175 rfl rfl ho (Nat.le_of_ble_eq_true rfl) (Nat.le_of_ble_eq_true rfl) rfl (Nat.le_of_ble_eq_true rfl) he rfl
theorem X9_ordered_122 : iWp d mX9_ordered 122 [.ref p, a1, a2, a3, a4, a5, a6, a7, a8, a9, a10, a11, a12, a13] st h Q = iWp d mX9_ordered 123 [.ref p, a1, a2, a3, a4, a5, a6, a7, a8, a9, a10, a11, a12, a13] (.ref p :: st) h Q := w_aload_n dX9_ordered_122 rfl
theorem X9_ordered_123 : iWp d mX9_ordered 123 [.ref p, a1, a2, a3, a4, a5, a6, a7, a8, a9, a10, a11, a12, a13] st h Q = iWp d mX9_ordered 124 [.ref p, a1, a2, a3, a4, a5, a6, a7, a8, a9, a10, a11, a12, a13] (.ref p :: st) h Q := w_aload_n dX9_ordered_123 rfl
theorem X9_ordered_124 : iWp d mX9_ordered 124 [a0, a1, a2, a3, a4, a5, a6, a7, .int x, a9, a10, a11, a12, a13] st h Q = iWp d mX9_ordered 126 [a0, a1, a2, a3, a4, a5, a6, a7, .int x, a9, a10, a11, a12, a13] (.int x :: st) h Q := w_iload dX9_ordered_124 rfl
theorem X9_ordered_126 (he : iEv mX9_find [.ref p, .int x0] h (some (.int rv)) h2) (ho : iObj h p 9 = true) : iWp 7 mX9_ordered 126 [a0, a1, a2, a3, a4, a5, a6, a7, a8, a9, a10, a11, a12, a13] [.int x0, .ref p, .ref t0, .int r1, .int r2] h Q = iWp 7 mX9_ordered 129 [a0, a1, a2, a3, a4, a5, a6, a7, a8, a9, a10, a11, a12, a13] [.int rv, .ref t0, .int r1, .int r2] h2 Q := iWp_cV dX9_ordered_126 fK_9_153 rfl rfl ho (Nat.le_of_ble_eq_true rfl) (Nat.le_of_ble_eq_true rfl) rfl (Nat.le_of_ble_eq_true rfl) he rfl
theorem X9_ordered_129 (he : iEv mX9_place [.ref p, .int x0] h (some (.int rv)) h2) (ho : iObj h p 9 = true) : iWp 7 mX9_ordered 129 [a0, a1, a2, a3, a4, a5, a6, a7, a8, a9, a10, a11, a12, a13] [.int x0, .ref p, .int r0, .int r1] h Q = iWp 7 mX9_ordered 132 [a0, a1, a2, a3, a4, a5, a6, a7, a8, a9, a10, a11, a12, a13] [.int rv, .int r0, .int r1] h2 Q := iWp_cV dX9_ordered_129 fK_9_175 rfl rfl ho (Nat.le_of_ble_eq_true rfl) (Nat.le_of_ble_eq_true rfl) rfl (Nat.le_of_ble_eq_true rfl) he rfl
theorem X9_ordered_132 : iWp d mX9_ordered 132 [a0, a1, a2, a3, a4, a5, a6, a7, a8, a9, a10, a11, a12, a13] (.int y :: .int x :: st) h Q = if y ≤ x then iWp d mX9_ordered 139 [a0, a1, a2, a3, a4, a5, a6, a7, a8, a9, a10, a11, a12, a13] st h Q else iWp d mX9_ordered 135 [a0, a1, a2, a3, a4, a5, a6, a7, a8, a9, a10, a11, a12, a13] st h Q := w_icmp_ge dX9_ordered_132 rfl
theorem X9_ordered_135 : iWp d mX9_ordered 135 [a0, a1, a2, a3, a4, a5, a6, a7, a8, a9, a10, a11, a12, a13] st h Q = iWp d mX9_ordered 136 [a0, a1, a2, a3, a4, a5, a6, a7, a8, a9, a10, a11, a12, a13] (.int 1 :: st) h Q := w_iconst dX9_ordered_135 rfl
theorem X9_ordered_136 : iWp d mX9_ordered 136 [a0, a1, a2, a3, a4, a5, a6, a7, a8, a9, a10, a11, a12, a13] st h Q = iWp d mX9_ordered 140 [a0, a1, a2, a3, a4, a5, a6, a7, a8, a9, a10, a11, a12, a13] st h Q := w_goto dX9_ordered_136 rfl
theorem X9_ordered_139 : iWp d mX9_ordered 139 [a0, a1, a2, a3, a4, a5, a6, a7, a8, a9, a10, a11, a12, a13] st h Q = iWp d mX9_ordered 140 [a0, a1, a2, a3, a4, a5, a6, a7, a8, a9, a10, a11, a12, a13] (.int 0 :: st) h Q := w_iconst dX9_ordered_139 rfl
theorem X9_ordered_140 : iWp d mX9_ordered 140 [a0, a1, a2, a3, a4, a5, a6, a7, a8, a9, a10, a11, a12, a13] (.int y :: .int x :: st) h Q = iWp d mX9_ordered 141 [a0, a1, a2, a3, a4, a5, a6, a7, a8, a9, a10, a11, a12, a13] (.int (x - y) :: st) h Q := w_isub dX9_ordered_140
theorem X9_ordered_141 : iWp d mX9_ordered 141 [a0, a1, a2, a3, a4, a5, a6, a7, a8, a9, a10, a11, a12, a13] (.int x :: st) h Q = iWp d mX9_ordered 143 [a0, a1, a2, a3, a4, a5, a6, a7, a8, a9, a10, a11, iClr a12, .int x] st h Q := w_istore dX9_ordered_141 (Nat.le_of_ble_eq_true rfl) rfl
theorem X9_ordered_143 : iWp d mX9_ordered 143 [.ref p, a1, a2, a3, a4, a5, a6, a7, a8, a9, a10, a11, a12, a13] st h Q = iWp d mX9_ordered 144 [.ref p, a1, a2, a3, a4, a5, a6, a7, a8, a9, a10, a11, a12, a13] (.ref p :: st) h Q := w_aload_n dX9_ordered_143 rfl
theorem X9_ordered_144 : iWp d mX9_ordered 144 [a0, .int x, a2, a3, a4, a5, a6, a7, a8, a9, a10, a11, a12, a13] st h Q = iWp d mX9_ordered 145 [a0, .int x, a2, a3, a4, a5, a6, a7, a8, a9, a10, a11, a12, a13] (.int x :: st) h Q := w_iload_n dX9_ordered_144 rfl
theorem X9_ordered_145 : iWp d mX9_ordered 145 [a0, a1, a2, a3, a4, a5, a6, a7, a8, a9, .int x, a11, a12, a13] st h Q = iWp d mX9_ordered 147 [a0, a1, a2, a3, a4, a5, a6, a7, a8, a9, .int x, a11, a12, a13] (.int x :: st) h Q := w_iload dX9_ordered_145 rfl
theorem X9_ordered_147 (he : iEv mX9_indexOf [.ref p, .int x0, .int x1] h (some (.int rv)) h2) (ho : iObj h p 9 = true) : iWp 7 mX9_ordered 147 [a0, a1, a2, a3, a4, a5, a6, a7, a8, a9, a10, a11, a12, a13] [.int x1, .int x0, .ref p] h Q = iWp 7 mX9_ordered 150 [a0, a1, a2, a3, a4, a5, a6, a7, a8, a9, a10, a11, a12, a13] [.int rv] h2 Q := iWp_cV dX9_ordered_147 fK_9_230 rfl rfl ho (Nat.le_of_ble_eq_true rfl) (Nat.le_of_ble_eq_true rfl) rfl (Nat.le_of_ble_eq_true rfl) he rfl
theorem X9_ordered_150 : iWp d mX9_ordered 150 [a0, a1, a2, a3, a4, a5, a6, a7, a8, a9, a10, a11, a12, a13] st h Q = iWp d mX9_ordered 151 [a0, a1, a2, a3, a4, a5, a6, a7, a8, a9, a10, a11, a12, a13] (.int (-1) :: st) h Q := w_iconst dX9_ordered_150 rfl
theorem X9_ordered_151 : iWp d mX9_ordered 151 [a0, a1, a2, a3, a4, a5, a6, a7, a8, a9, a10, a11, a12, a13] (.int y :: .int x :: st) h Q = if x = y then iWp d mX9_ordered 154 [a0, a1, a2, a3, a4, a5, a6, a7, a8, a9, a10, a11, a12, a13] st h Q else iWp d mX9_ordered 182 [a0, a1, a2, a3, a4, a5, a6, a7, a8, a9, a10, a11, a12, a13] st h Q := w_icmp_ne dX9_ordered_151 rfl
theorem X9_ordered_154 : iWp d mX9_ordered 154 [.ref p, a1, a2, a3, a4, a5, a6, a7, a8, a9, a10, a11, a12, a13] st h Q = iWp d mX9_ordered 155 [.ref p, a1, a2, a3, a4, a5, a6, a7, a8, a9, a10, a11, a12, a13] (.ref p :: st) h Q := w_aload_n dX9_ordered_154 rfl
theorem X9_ordered_155 : iWp d mX9_ordered 155 [a0, a1, a2, a3, a4, a5, a6, a7, a8, a9, a10, a11, a12, a13] st h Q = iWp d mX9_ordered 156 [a0, a1, a2, a3, a4, a5, a6, a7, a8, a9, a10, a11, a12, a13] (.int 2 :: st) h Q := w_iconst dX9_ordered_155 rfl
theorem X9_ordered_156 : iWp d mX9_ordered 156 [a0, a1, a2, a3, a4, a5, a6, a7, a8, a9, .int x, a11, a12, a13] st h Q = iWp d mX9_ordered 158 [a0, a1, a2, a3, a4, a5, a6, a7, a8, a9, .int x, a11, a12, a13] (.int x :: st) h Q := w_iload dX9_ordered_156 rfl
theorem X9_ordered_158 : iWp d mX9_ordered 158 [.ref p, a1, a2, a3, a4, a5, a6, a7, a8, a9, a10, a11, a12, a13] st h Q = iWp d mX9_ordered 159 [.ref p, a1, a2, a3, a4, a5, a6, a7, a8, a9, a10, a11, a12, a13] (.ref p :: st) h Q := w_aload_n dX9_ordered_158 rfl
theorem X9_ordered_159 : iWp d mX9_ordered 159 [a0, a1, a2, a3, a4, a5, a6, a7, a8, a9, a10, a11, a12, a13] (.ref p :: st) h Q = iOb (iGet h p 9 3) (fun v => iWp d mX9_ordered 162 [a0, a1, a2, a3, a4, a5, a6, a7, a8, a9, a10, a11, a12, a13] (v :: st) h Q) := w_getf dX9_ordered_159 fF_9_16
theorem X9_ordered_162 : iWp d mX9_ordered 162 [a0, a1, a2, a3, a4, a5, a6, a7, a8, a9, a10, a11, a12, a13] st h Q = iWp d mX9_ordered 164 [a0, a1, a2, a3, a4, a5, a6, a7, a8, a9, a10, a11, a12, a13] (.int 64 :: st) h Q := w_bipush dX9_ordered_162 rfl
theorem X9_ordered_164 : iWp d mX9_ordered 164 [a0, a1, .int x, a3, a4, a5, a6, a7, a8, a9, a10, a11, a12, a13] st h Q = iWp d mX9_ordered 165 [a0, a1, .int x, a3, a4, a5, a6, a7, a8, a9, a10, a11, a12, a13] (.int x :: st) h Q := w_iload_n dX9_ordered_164 rfl
theorem X9_ordered_165 : iWp d mX9_ordered 165 [a0, a1, a2, a3, a4, a5, a6, a7, a8, a9, a10, a11, a12, a13] (.int y :: .int x :: st) h Q = iWp d mX9_ordered 166 [a0, a1, a2, a3, a4, a5, a6, a7, a8, a9, a10, a11, a12, a13] (.int (x * y) :: st) h Q := w_imul dX9_ordered_165
theorem X9_ordered_166 : iWp d mX9_ordered 166 [a0, a1, a2, a3, a4, a5, a6, a7, a8, .int x, a10, a11, a12, a13] st h Q = iWp d mX9_ordered 168 [a0, a1, a2, a3, a4, a5, a6, a7, a8, .int x, a10, a11, a12, a13] (.int x :: st) h Q := w_iload dX9_ordered_166 rfl
theorem X9_ordered_168 : iWp d mX9_ordered 168 [a0, a1, a2, a3, a4, a5, a6, a7, a8, a9, a10, a11, a12, a13] (.int y :: .int x :: st) h Q = iWp d mX9_ordered 169 [a0, a1, a2, a3, a4, a5, a6, a7, a8, a9, a10, a11, a12, a13] (.int (x + y) :: st) h Q := w_iadd dX9_ordered_168
theorem X9_ordered_169 : iWp d mX9_ordered 169 [a0, a1, a2, a3, a4, a5, a6, a7, a8, a9, a10, a11, a12, a13] (.int x :: .ref p :: st) h Q = iOb (iLdI h p x) (fun v => iWp d mX9_ordered 170 [a0, a1, a2, a3, a4, a5, a6, a7, a8, a9, a10, a11, a12, a13] (.int v :: st) h Q) := w_iaload dX9_ordered_169
theorem X9_ordered_170 : iWp d mX9_ordered 170 [a0, a1, a2, a3, a4, a5, .int x, a7, a8, a9, a10, a11, a12, a13] st h Q = iWp d mX9_ordered 172 [a0, a1, a2, a3, a4, a5, .int x, a7, a8, a9, a10, a11, a12, a13] (.int x :: st) h Q := w_iload dX9_ordered_170 rfl
theorem X9_ordered_172 : iWp d mX9_ordered 172 [a0, a1, a2, a3, a4, a5, a6, a7, a8, a9, a10, a11, a12, .int x] st h Q = iWp d mX9_ordered 174 [a0, a1, a2, a3, a4, a5, a6, a7, a8, a9, a10, a11, a12, .int x] (.int x :: st) h Q := w_iload dX9_ordered_172 rfl
theorem X9_ordered_174 : iWp d mX9_ordered 174 [a0, a1, a2, a3, a4, a5, a6, a7, a8, a9, a10, a11, a12, a13] st h Q = iWp d mX9_ordered 175 [a0, a1, a2, a3, a4, a5, a6, a7, a8, a9, a10, a11, a12, a13] (.int 0 :: st) h Q := w_iconst dX9_ordered_174 rfl
theorem X9_ordered_175 : iWp d mX9_ordered 175 [a0, a1, a2, a3, a4, a5, a6, a7, a8, a9, a10, a11, a12, a13] st h Q = iWp d mX9_ordered 176 [a0, a1, a2, a3, a4, a5, a6, a7, a8, a9, a10, a11, a12, a13] (.int 0 :: st) h Q := w_iconst dX9_ordered_175 rfl
theorem X9_ordered_176 (he : iEv mX9_goes [.ref p, .int x0, .int x1, .int x2, .int x3, .int x4, .int x5, .int x6] h none h2) (ho : iObj h p 9 = true) : iWp 7 mX9_ordered 176 [a0, a1, a2, a3, a4, a5, a6, a7, a8, a9, a10, a11, a12, a13] [.int x6, .int x5, .int x4, .int x3, .int x2, .int x1, .int x0, .ref p] h Q = iWp 7 mX9_ordered 179 [a0, a1, a2, a3, a4, a5, a6, a7, a8, a9, a10, a11, a12, a13] [] h2 Q := iWp_cV dX9_ordered_176 fK_9_233 rfl rfl ho (Nat.le_of_ble_eq_true rfl) (Nat.le_of_ble_eq_true rfl) rfl (Nat.le_of_ble_eq_true rfl) he rfl
theorem X9_ordered_179 : iWp d mX9_ordered 179 [a0, a1, a2, a3, a4, a5, a6, a7, a8, a9, a10, a11, a12, a13] st h Q = iWp d mX9_ordered 206 [a0, a1, a2, a3, a4, a5, a6, a7, a8, a9, a10, a11, a12, a13] st h Q := w_goto dX9_ordered_179 rfl
theorem X9_ordered_182 : iWp d mX9_ordered 182 [.ref p, a1, a2, a3, a4, a5, a6, a7, a8, a9, a10, a11, a12, a13] st h Q = iWp d mX9_ordered 183 [.ref p, a1, a2, a3, a4, a5, a6, a7, a8, a9, a10, a11, a12, a13] (.ref p :: st) h Q := w_aload_n dX9_ordered_182 rfl
theorem X9_ordered_183 : iWp d mX9_ordered 183 [a0, a1, a2, a3, a4, a5, a6, a7, a8, a9, a10, a11, a12, a13] st h Q = iWp d mX9_ordered 184 [a0, a1, a2, a3, a4, a5, a6, a7, a8, a9, a10, a11, a12, a13] (.int 3 :: st) h Q := w_iconst dX9_ordered_183 rfl
theorem X9_ordered_184 : iWp d mX9_ordered 184 [a0, a1, a2, a3, a4, a5, a6, a7, a8, a9, .int x, a11, a12, a13] st h Q = iWp d mX9_ordered 186 [a0, a1, a2, a3, a4, a5, a6, a7, a8, a9, .int x, a11, a12, a13] (.int x :: st) h Q := w_iload dX9_ordered_184 rfl
theorem X9_ordered_186 : iWp d mX9_ordered 186 [a0, a1, a2, a3, a4, a5, a6, a7, a8, a9, a10, a11, a12, a13] st h Q = iWp d mX9_ordered 187 [a0, a1, a2, a3, a4, a5, a6, a7, a8, a9, a10, a11, a12, a13] (.int 0 :: st) h Q := w_iconst dX9_ordered_186 rfl
theorem X9_ordered_187 : iWp d mX9_ordered 187 [.ref p, a1, a2, a3, a4, a5, a6, a7, a8, a9, a10, a11, a12, a13] st h Q = iWp d mX9_ordered 188 [.ref p, a1, a2, a3, a4, a5, a6, a7, a8, a9, a10, a11, a12, a13] (.ref p :: st) h Q := w_aload_n dX9_ordered_187 rfl
theorem X9_ordered_188 : iWp d mX9_ordered 188 [a0, a1, a2, a3, a4, a5, a6, a7, a8, a9, a10, .int x, a12, a13] st h Q = iWp d mX9_ordered 190 [a0, a1, a2, a3, a4, a5, a6, a7, a8, a9, a10, .int x, a12, a13] (.int x :: st) h Q := w_iload dX9_ordered_188 rfl
theorem X9_ordered_190 (he : iEv mX9_parentKey [.ref p, .int x0] h (some (.int rv)) h2) (ho : iObj h p 9 = true) : iWp 7 mX9_ordered 190 [a0, a1, a2, a3, a4, a5, a6, a7, a8, a9, a10, a11, a12, a13] [.int x0, .ref p, .int r0, .int r1, .int r2, .ref t3] h Q = iWp 7 mX9_ordered 193 [a0, a1, a2, a3, a4, a5, a6, a7, a8, a9, a10, a11, a12, a13] [.int rv, .int r0, .int r1, .int r2, .ref t3] h2 Q := iWp_cV dX9_ordered_190 fK_9_172 rfl rfl ho (Nat.le_of_ble_eq_true rfl) (Nat.le_of_ble_eq_true rfl) rfl (Nat.le_of_ble_eq_true rfl) he rfl
theorem X9_ordered_193 : iWp d mX9_ordered 193 [.ref p, a1, a2, a3, a4, a5, a6, a7, a8, a9, a10, a11, a12, a13] st h Q = iWp d mX9_ordered 194 [.ref p, a1, a2, a3, a4, a5, a6, a7, a8, a9, a10, a11, a12, a13] (.ref p :: st) h Q := w_aload_n dX9_ordered_193 rfl
theorem X9_ordered_194 : iWp d mX9_ordered 194 [a0, a1, a2, a3, a4, a5, a6, a7, a8, a9, a10, .int x, a12, a13] st h Q = iWp d mX9_ordered 196 [a0, a1, a2, a3, a4, a5, a6, a7, a8, a9, a10, .int x, a12, a13] (.int x :: st) h Q := w_iload dX9_ordered_194 rfl
theorem X9_ordered_196 (he : iEv mX9_place [.ref p, .int x0] h (some (.int rv)) h2) (ho : iObj h p 9 = true) : iWp 7 mX9_ordered 196 [a0, a1, a2, a3, a4, a5, a6, a7, a8, a9, a10, a11, a12, a13] [.int x0, .ref p, .int r0, .int r1, .int r2, .int r3, .ref t4] h Q = iWp 7 mX9_ordered 199 [a0, a1, a2, a3, a4, a5, a6, a7, a8, a9, a10, a11, a12, a13] [.int rv, .int r0, .int r1, .int r2, .int r3, .ref t4] h2 Q := iWp_cV dX9_ordered_196 fK_9_175 rfl rfl ho (Nat.le_of_ble_eq_true rfl) (Nat.le_of_ble_eq_true rfl) rfl (Nat.le_of_ble_eq_true rfl) he rfl
theorem X9_ordered_199 : iWp d mX9_ordered 199 [a0, a1, a2, a3, a4, a5, .int x, a7, a8, a9, a10, a11, a12, a13] st h Q = iWp d mX9_ordered 201 [a0, a1, a2, a3, a4, a5, .int x, a7, a8, a9, a10, a11, a12, a13] (.int x :: st) h Q := w_iload dX9_ordered_199 rfl
theorem X9_ordered_201 : iWp d mX9_ordered 201 [a0, a1, a2, a3, a4, a5, a6, a7, a8, a9, a10, a11, a12, .int x] st h Q = iWp d mX9_ordered 203 [a0, a1, a2, a3, a4, a5, a6, a7, a8, a9, a10, a11, a12, .int x] (.int x :: st) h Q := w_iload dX9_ordered_201 rfl
theorem X9_ordered_203 (he : iEv mX9_goes [.ref p, .int x0, .int x1, .int x2, .int x3, .int x4, .int x5, .int x6] h none h2) (ho : iObj h p 9 = true) : iWp 7 mX9_ordered 203 [a0, a1, a2, a3, a4, a5, a6, a7, a8, a9, a10, a11, a12, a13] [.int x6, .int x5, .int x4, .int x3, .int x2, .int x1, .int x0, .ref p] h Q = iWp 7 mX9_ordered 206 [a0, a1, a2, a3, a4, a5, a6, a7, a8, a9, a10, a11, a12, a13] [] h2 Q := iWp_cV dX9_ordered_203 fK_9_233 rfl rfl ho (Nat.le_of_ble_eq_true rfl) (Nat.le_of_ble_eq_true rfl) rfl (Nat.le_of_ble_eq_true rfl) he rfl
theorem X9_ordered_206 : iWp d mX9_ordered 206 [a0, a1, a2, a3, a4, a5, a6, a7, a8, a9, .int x, a11, a12, a13] st h Q = iWp d mX9_ordered 208 [a0, a1, a2, a3, a4, a5, a6, a7, a8, a9, .int x, a11, a12, a13] (.int x :: st) h Q := w_iload dX9_ordered_206 rfl
theorem X9_ordered_208 : iWp d mX9_ordered 208 [a0, a1, a2, a3, a4, a5, a6, a7, a8, a9, a10, a11, a12, a13] (.int x :: st) h Q = iWp d mX9_ordered 210 [a0, a1, a2, a3, a4, a5, a6, iClr a7, .int x, a9, a10, a11, a12, a13] st h Q := w_istore dX9_ordered_208 (Nat.le_of_ble_eq_true rfl) rfl
theorem X9_ordered_210 : iWp d mX9_ordered 210 [a0, a1, a2, a3, a4, a5, a6, .int x, a8, a9, a10, a11, a12, a13] st h Q = iWp d mX9_ordered 213 [a0, a1, a2, a3, a4, a5, iClr a6, .int (x + 1), a8, a9, a10, a11, a12, a13] st h Q := w_iinc dX9_ordered_210 rfl (Nat.le_of_ble_eq_true rfl) rfl
theorem X9_ordered_213 : iWp d mX9_ordered 213 [.ref p, a1, a2, a3, a4, a5, a6, a7, a8, a9, a10, a11, a12, a13] st h Q = iWp d mX9_ordered 214 [.ref p, a1, a2, a3, a4, a5, a6, a7, a8, a9, a10, a11, a12, a13] (.ref p :: st) h Q := w_aload_n dX9_ordered_213 rfl
theorem X9_ordered_214 : iWp d mX9_ordered 214 [a0, a1, .int x, a3, a4, a5, a6, a7, a8, a9, a10, a11, a12, a13] st h Q = iWp d mX9_ordered 215 [a0, a1, .int x, a3, a4, a5, a6, a7, a8, a9, a10, a11, a12, a13] (.int x :: st) h Q := w_iload_n dX9_ordered_214 rfl
theorem X9_ordered_215 : iWp d mX9_ordered 215 [a0, a1, a2, .int x, a4, a5, a6, a7, a8, a9, a10, a11, a12, a13] st h Q = iWp d mX9_ordered 216 [a0, a1, a2, .int x, a4, a5, a6, a7, a8, a9, a10, a11, a12, a13] (.int x :: st) h Q := w_iload_n dX9_ordered_215 rfl
theorem X9_ordered_216 : iWp d mX9_ordered 216 [a0, a1, a2, a3, a4, a5, a6, a7, a8, .int x, a10, a11, a12, a13] st h Q = iWp d mX9_ordered 218 [a0, a1, a2, a3, a4, a5, a6, a7, a8, .int x, a10, a11, a12, a13] (.int x :: st) h Q := w_iload dX9_ordered_216 rfl
theorem X9_ordered_218 (he : iEv mX9_next [.ref p, .int x0, .int x1, .int x2] h (some (.int rv)) h2) (ho : iObj h p 9 = true) : iWp 7 mX9_ordered 218 [a0, a1, a2, a3, a4, a5, a6, a7, a8, a9, a10, a11, a12, a13] [.int x2, .int x1, .int x0, .ref p] h Q = iWp 7 mX9_ordered 221 [a0, a1, a2, a3, a4, a5, a6, a7, a8, a9, a10, a11, a12, a13] [.int rv] h2 Q := iWp_cV dX9_ordered_218 fK_9_214 rfl rfl ho (Nat.le_of_ble_eq_true rfl) (Nat.le_of_ble_eq_true rfl) rfl (Nat.le_of_ble_eq_true rfl) he rfl
theorem X9_ordered_221 : iWp d mX9_ordered 221 [a0, a1, a2, a3, a4, a5, a6, a7, a8, a9, a10, a11, a12, a13] (.int x :: st) h Q = iWp d mX9_ordered 223 [a0, a1, a2, a3, a4, a5, a6, a7, iClr a8, .int x, a10, a11, a12, a13] st h Q := w_istore dX9_ordered_221 (Nat.le_of_ble_eq_true rfl) rfl
theorem X9_ordered_223 : iWp d mX9_ordered 223 [a0, a1, a2, a3, a4, a5, a6, a7, a8, a9, a10, a11, a12, a13] st h Q = iWp d mX9_ordered 31 [a0, a1, a2, a3, a4, a5, a6, a7, a8, a9, a10, a11, a12, a13] st h Q := w_goto dX9_ordered_223 rfl
theorem X9_ordered_226 : iWp d mX9_ordered 226 [a0, a1, a2, a3, a4, a5, a6, a7, a8, a9, a10, a11, a12, a13] [] h Q = Q none h := w_ret dX9_ordered_226 rfl
theorem I9_ordered {Q : Option Value → iHp → Prop} (hw : iWp 7 mX9_ordered 0 [.ref p, .int x0, .int x1, .int x2, iU, iU, iU, iU, iU, iU, iU, iU, iU, iU] [] h Q) : ∃ r h1, iEv mX9_ordered [.ref p, .int x0, .int x1, .int x2] h r h1 ∧ Q r h1 := iEv_of (by rfl) rfl hw
theorem J9_ordered {r : Option Value} {h1 : iHp} (hw : iWp 7 mX9_ordered 0 [.ref p, .int x0, .int x1, .int x2, iU, iU, iU, iU, iU, iU, iU, iU, iU, iU] [] h (fun r' h' => r' = r ∧ h' = h1)) : iEv mX9_ordered [.ref p, .int x0, .int x1, .int x2] h r h1 := iEv_ev (by rfl) rfl hw
theorem X9_parent_0 : iWp d mX9_parent 0 [a0, .int x, a2] st h Q = iWp d mX9_parent 1 [a0, .int x, a2] (.int x :: st) h Q := w_iload_n dX9_parent_0 rfl
theorem X9_parent_1 : iWp d mX9_parent 1 [a0, a1, a2] st h Q = iWp d mX9_parent 2 [a0, a1, a2] (.int 1 :: st) h Q := w_iconst dX9_parent_1 rfl
theorem X9_parent_2 : iWp d mX9_parent 2 [a0, a1, a2] (.int y :: .int x :: st) h Q = iWp d mX9_parent 3 [a0, a1, a2] (.int (x - y) :: st) h Q := w_isub dX9_parent_2
theorem X9_parent_3 : iWp d mX9_parent 3 [a0, a1, a2] (.int x :: st) h Q = iWp d mX9_parent 4 [a0, iClr a1, .int x] st h Q := w_istore_n dX9_parent_3 (Nat.le_of_ble_eq_true rfl) rfl
theorem X9_parent_4 : iWp d mX9_parent 4 [a0, a1, .int x] st h Q = iWp d mX9_parent 5 [a0, a1, .int x] (.int x :: st) h Q := w_iload_n dX9_parent_4 rfl
theorem X9_parent_5 : iWp d mX9_parent 5 [a0, a1, a2] (.int x :: st) h Q = if x < 0 then iWp d mX9_parent 29 [a0, a1, a2] st h Q else iWp d mX9_parent 8 [a0, a1, a2] st h Q := w_ifc_lt dX9_parent_5 rfl
theorem X9_parent_8 : iWp d mX9_parent 8 [.ref p, a1, a2] st h Q = iWp d mX9_parent 9 [.ref p, a1, a2] (.ref p :: st) h Q := w_aload_n dX9_parent_8 rfl
theorem X9_parent_9 : iWp d mX9_parent 9 [a0, a1, a2] (.ref p :: st) h Q = iOb (iGet h p 9 21) (fun v => iWp d mX9_parent 12 [a0, a1, a2] (v :: st) h Q) := w_getf dX9_parent_9 fF_9_50
theorem X9_parent_12 : iWp d mX9_parent 12 [a0, a1, .int x] st h Q = iWp d mX9_parent 13 [a0, a1, .int x] (.int x :: st) h Q := w_iload_n dX9_parent_12 rfl
theorem X9_parent_13 : iWp d mX9_parent 13 [a0, a1, a2] (.int x :: .ref p :: st) h Q = iOb (iLdI h p x) (fun v => iWp d mX9_parent 14 [a0, a1, a2] (.int v :: st) h Q) := w_iaload dX9_parent_13
theorem X9_parent_14 : iWp d mX9_parent 14 [.ref p, a1, a2] st h Q = iWp d mX9_parent 15 [.ref p, a1, a2] (.ref p :: st) h Q := w_aload_n dX9_parent_14 rfl
theorem X9_parent_15 : iWp d mX9_parent 15 [a0, a1, a2] (.ref p :: st) h Q = iOb (iGet h p 9 21) (fun v => iWp d mX9_parent 18 [a0, a1, a2] (v :: st) h Q) := w_getf dX9_parent_15 fF_9_50
theorem X9_parent_18 : iWp d mX9_parent 18 [a0, .int x, a2] st h Q = iWp d mX9_parent 19 [a0, .int x, a2] (.int x :: st) h Q := w_iload_n dX9_parent_18 rfl
theorem X9_parent_19 : iWp d mX9_parent 19 [a0, a1, a2] (.int x :: .ref p :: st) h Q = iOb (iLdI h p x) (fun v => iWp d mX9_parent 20 [a0, a1, a2] (.int v :: st) h Q) := w_iaload dX9_parent_19
theorem X9_parent_20 : iWp d mX9_parent 20 [a0, a1, a2] (.int y :: .int x :: st) h Q = if x < y then iWp d mX9_parent 29 [a0, a1, a2] st h Q else iWp d mX9_parent 23 [a0, a1, a2] st h Q := w_icmp_lt dX9_parent_20 rfl
theorem X9_parent_23 : iWp d mX9_parent 23 [a0, a1, .int x] st h Q = iWp d mX9_parent 26 [a0, iClr a1, .int (x + (-1))] st h Q := w_iinc dX9_parent_23 rfl (Nat.le_of_ble_eq_true rfl) rfl
theorem X9_parent_26 : iWp d mX9_parent 26 [a0, a1, a2] st h Q = iWp d mX9_parent 4 [a0, a1, a2] st h Q := w_goto dX9_parent_26 rfl
theorem X9_parent_29 : iWp d mX9_parent 29 [a0, a1, .int x] st h Q = iWp d mX9_parent 30 [a0, a1, .int x] (.int x :: st) h Q := w_iload_n dX9_parent_29 rfl
theorem X9_parent_30 : iWp d mX9_parent 30 [a0, a1, a2] [.int x] h Q = Q (some (.int x)) h := w_ireti dX9_parent_30 rfl
theorem I9_parent {Q : Option Value → iHp → Prop} (hw : iWp 1 mX9_parent 0 [.ref p, .int x0, iU] [] h Q) : ∃ r h1, iEv mX9_parent [.ref p, .int x0] h r h1 ∧ Q r h1 := iEv_of (by rfl) rfl hw
theorem J9_parent {r : Option Value} {h1 : iHp} (hw : iWp 1 mX9_parent 0 [.ref p, .int x0, iU] [] h (fun r' h' => r' = r ∧ h' = h1)) : iEv mX9_parent [.ref p, .int x0] h r h1 := iEv_ev (by rfl) rfl hw
theorem X9_parentKey_0 : iWp d mX9_parentKey 0 [a0, .int x] st h Q = iWp d mX9_parentKey 1 [a0, .int x] (.int x :: st) h Q := w_iload_n dX9_parentKey_0 rfl
theorem X9_parentKey_1 : iWp d mX9_parentKey 1 [a0, a1] (.int x :: st) h Q = if 0 < x then iWp d mX9_parentKey 8 [a0, a1] st h Q else iWp d mX9_parentKey 4 [a0, a1] st h Q := w_ifc_gt dX9_parentKey_1 rfl
theorem X9_parentKey_4 : iWp d mX9_parentKey 4 [a0, a1] st h Q = iWp d mX9_parentKey 5 [a0, a1] (.int 0 :: st) h Q := w_iconst dX9_parentKey_4 rfl
theorem X9_parentKey_5 : iWp d mX9_parentKey 5 [a0, a1] st h Q = iWp d mX9_parentKey 18 [a0, a1] st h Q := w_goto dX9_parentKey_5 rfl
theorem X9_parentKey_8 : iWp d mX9_parentKey 8 [.ref p, a1] st h Q = iWp d mX9_parentKey 9 [.ref p, a1] (.ref p :: st) h Q := w_aload_n dX9_parentKey_8 rfl
theorem X9_parentKey_9 : iWp d mX9_parentKey 9 [a0, a1] (.ref p :: st) h Q = iOb (iGet h p 9 19) (fun v => iWp d mX9_parentKey 12 [a0, a1] (v :: st) h Q) := w_getf dX9_parentKey_9 fF_9_44
theorem X9_parentKey_12 : iWp d mX9_parentKey 12 [.ref p, a1] st h Q = iWp d mX9_parentKey 13 [.ref p, a1] (.ref p :: st) h Q := w_aload_n dX9_parentKey_12 rfl
theorem X9_parentKey_13 : iWp d mX9_parentKey 13 [a0, .int x] st h Q = iWp d mX9_parentKey 14 [a0, .int x] (.int x :: st) h Q := w_iload_n dX9_parentKey_13 rfl
theorem X9_parentKey_14 (he : iEv mX9_parent [.ref p, .int x0] h (some (.int rv)) h2) (ho : iObj h p 9 = true) : iWp 2 mX9_parentKey 14 [a0, a1] [.int x0, .ref p, .ref t0] h Q = iWp 2 mX9_parentKey 17 [a0, a1] [.int rv, .ref t0] h2 Q := iWp_cV dX9_parentKey_14 fK_9_130 rfl rfl ho (Nat.le_of_ble_eq_true rfl) (Nat.le_of_ble_eq_true rfl) rfl (Nat.le_of_ble_eq_true rfl) he rfl
theorem X9_parentKey_17 : iWp d mX9_parentKey 17 [a0, a1] (.int x :: .ref p :: st) h Q = iOb (iLdI h p x) (fun v => iWp d mX9_parentKey 18 [a0, a1] (.int v :: st) h Q) := w_iaload dX9_parentKey_17
theorem X9_parentKey_18 : iWp d mX9_parentKey 18 [a0, a1] [.int x] h Q = Q (some (.int x)) h := w_ireti dX9_parentKey_18 rfl
theorem I9_parentKey {Q : Option Value → iHp → Prop} (hw : iWp 2 mX9_parentKey 0 [.ref p, .int x0] [] h Q) : ∃ r h1, iEv mX9_parentKey [.ref p, .int x0] h r h1 ∧ Q r h1 := iEv_of (by rfl) rfl hw
theorem J9_parentKey {r : Option Value} {h1 : iHp} (hw : iWp 2 mX9_parentKey 0 [.ref p, .int x0] [] h (fun r' h' => r' = r ∧ h' = h1)) : iEv mX9_parentKey [.ref p, .int x0] h r h1 := iEv_ev (by rfl) rfl hw
theorem X9_patchOf_0 : iWp d mX9_patchOf 0 [.ref p, a1, a2, a3, a4] st h Q = iWp d mX9_patchOf 1 [.ref p, a1, a2, a3, a4] (.ref p :: st) h Q := w_aload_n dX9_patchOf_0 rfl
theorem X9_patchOf_1 : iWp d mX9_patchOf 1 [a0, .int x, a2, a3, a4] st h Q = iWp d mX9_patchOf 2 [a0, .int x, a2, a3, a4] (.int x :: st) h Q := w_iload_n dX9_patchOf_1 rfl
theorem X9_patchOf_2 (he : iEv mX9_isPatch [.ref p, .int x0] h (some (.int rv)) h2) (ho : iObj h p 9 = true) : iWp 3 mX9_patchOf 2 [a0, a1, a2, a3, a4] [.int x0, .ref p] h Q = iWp 3 mX9_patchOf 5 [a0, a1, a2, a3, a4] [.int rv] h2 Q := iWp_cV dX9_patchOf_2 fK_9_120 rfl rfl ho (Nat.le_of_ble_eq_true rfl) (Nat.le_of_ble_eq_true rfl) rfl (Nat.le_of_ble_eq_true rfl) he rfl
theorem X9_patchOf_5 : iWp d mX9_patchOf 5 [a0, a1, a2, a3, a4] (.int x :: st) h Q = if x = 0 then iWp d mX9_patchOf 17 [a0, a1, a2, a3, a4] st h Q else iWp d mX9_patchOf 8 [a0, a1, a2, a3, a4] st h Q := w_ifc_eq dX9_patchOf_5 rfl
theorem X9_patchOf_8 : iWp d mX9_patchOf 8 [a0, a1, .int x, a3, a4] st h Q = iWp d mX9_patchOf 9 [a0, a1, .int x, a3, a4] (.int x :: st) h Q := w_iload_n dX9_patchOf_8 rfl
theorem X9_patchOf_9 : iWp d mX9_patchOf 9 [a0, a1, a2, a3, a4] st h Q = iWp d mX9_patchOf 10 [a0, a1, a2, a3, a4] (.int 0 :: st) h Q := w_iconst dX9_patchOf_9 rfl
theorem X9_patchOf_10 : iWp d mX9_patchOf 10 [a0, a1, a2, a3, a4] st h Q = iWp d mX9_patchOf 11 [a0, a1, a2, a3, a4] (.int 5 :: st) h Q := w_iconst dX9_patchOf_10 rfl
theorem X9_patchOf_11 (he : iEv mX9_within [.int x0, .int x1, .int x2] h (some (.int rv)) h2) : iWp 3 mX9_patchOf 11 [a0, a1, a2, a3, a4] [.int x2, .int x1, .int x0] h Q = iWp 3 mX9_patchOf 14 [a0, a1, a2, a3, a4] [.int rv] h2 Q := iWp_cS dX9_patchOf_11 fK_9_106 rfl rfl (Nat.le_of_ble_eq_true rfl) (Nat.le_of_ble_eq_true rfl) rfl (Nat.le_of_ble_eq_true rfl) he rfl
theorem X9_patchOf_14 : iWp d mX9_patchOf 14 [a0, a1, a2, a3, a4] (.int x :: st) h Q = if x = 0 then iWp d mX9_patchOf 17 [a0, a1, a2, a3, a4] st h Q else iWp d mX9_patchOf 24 [a0, a1, a2, a3, a4] st h Q := w_ifc_ne dX9_patchOf_14 rfl
theorem X9_patchOf_17 : iWp d mX9_patchOf 17 [.ref p, a1, a2, a3, a4] st h Q = iWp d mX9_patchOf 18 [.ref p, a1, a2, a3, a4] (.ref p :: st) h Q := w_aload_n dX9_patchOf_17 rfl
theorem X9_patchOf_18 : iWp d mX9_patchOf 18 [a0, a1, a2, a3, a4] st h Q = iWp d mX9_patchOf 20 [a0, a1, a2, a3, a4] (.int (-5) :: st) h Q := w_bipush dX9_patchOf_18 rfl
theorem X9_patchOf_20 (he : iEv mX9_no [.ref p, .int x0] h (some (.int rv)) h2) (ho : iObj h p 9 = true) : iWp 3 mX9_patchOf 20 [a0, a1, a2, a3, a4] [.int x0, .ref p] h Q = iWp 3 mX9_patchOf 23 [a0, a1, a2, a3, a4] [.int rv] h2 Q := iWp_cV dX9_patchOf_20 fK_9_99 rfl rfl ho (Nat.le_of_ble_eq_true rfl) (Nat.le_of_ble_eq_true rfl) rfl (Nat.le_of_ble_eq_true rfl) he rfl
theorem X9_patchOf_23 : iWp d mX9_patchOf 23 [a0, a1, a2, a3, a4] [.int x] h Q = Q (some (.int x)) h := w_ireti dX9_patchOf_23 rfl
theorem X9_patchOf_24 : iWp d mX9_patchOf 24 [a0, a1, .int x, a3, a4] st h Q = iWp d mX9_patchOf 25 [a0, a1, .int x, a3, a4] (.int x :: st) h Q := w_iload_n dX9_patchOf_24 rfl
theorem X9_patchOf_25 : iWp d mX9_patchOf 25 [a0, a1, a2, a3, a4] st h Q = iWp d mX9_patchOf 26 [a0, a1, a2, a3, a4] (.int 2 :: st) h Q := w_iconst dX9_patchOf_25 rfl
theorem X9_patchOf_26 : iWp d mX9_patchOf 26 [a0, a1, a2, a3, a4] (.int y :: .int x :: st) h Q = if y ≤ x then iWp d mX9_patchOf 36 [a0, a1, a2, a3, a4] st h Q else iWp d mX9_patchOf 29 [a0, a1, a2, a3, a4] st h Q := w_icmp_ge dX9_patchOf_26 rfl
theorem X9_patchOf_29 : iWp d mX9_patchOf 29 [.ref p, a1, a2, a3, a4] st h Q = iWp d mX9_patchOf 30 [.ref p, a1, a2, a3, a4] (.ref p :: st) h Q := w_aload_n dX9_patchOf_29 rfl
theorem X9_patchOf_30 : iWp d mX9_patchOf 30 [a0, a1, .int x, a3, a4] st h Q = iWp d mX9_patchOf 31 [a0, a1, .int x, a3, a4] (.int x :: st) h Q := w_iload_n dX9_patchOf_30 rfl
theorem X9_patchOf_31 : iWp d mX9_patchOf 31 [a0, .int x, a2, a3, a4] st h Q = iWp d mX9_patchOf 32 [a0, .int x, a2, a3, a4] (.int x :: st) h Q := w_iload_n dX9_patchOf_31 rfl
theorem X9_patchOf_32 (he : iEv mX9_of [.ref p, .int x0, .int x1] h (some (.int rv)) h2) (ho : iObj h p 9 = true) : iWp 3 mX9_patchOf 32 [a0, a1, a2, a3, a4] [.int x1, .int x0, .ref p] h Q = iWp 3 mX9_patchOf 35 [a0, a1, a2, a3, a4] [.int rv] h2 Q := iWp_cV dX9_patchOf_32 fK_9_123 rfl rfl ho (Nat.le_of_ble_eq_true rfl) (Nat.le_of_ble_eq_true rfl) rfl (Nat.le_of_ble_eq_true rfl) he rfl
theorem X9_patchOf_35 : iWp d mX9_patchOf 35 [a0, a1, a2, a3, a4] [.int x] h Q = Q (some (.int x)) h := w_ireti dX9_patchOf_35 rfl
theorem X9_patchOf_36 : iWp d mX9_patchOf 36 [a0, a1, a2, a3, a4] st h Q = iWp d mX9_patchOf 37 [a0, a1, a2, a3, a4] (.int 0 :: st) h Q := w_iconst dX9_patchOf_36 rfl
theorem X9_patchOf_37 : iWp d mX9_patchOf 37 [a0, a1, a2, a3, a4] (.int x :: st) h Q = iWp d mX9_patchOf 38 [a0, a1, iClr a2, .int x, a4] st h Q := w_istore_n dX9_patchOf_37 (Nat.le_of_ble_eq_true rfl) rfl
theorem X9_patchOf_38 : iWp d mX9_patchOf 38 [a0, a1, a2, a3, a4] st h Q = iWp d mX9_patchOf 39 [a0, a1, a2, a3, a4] (.int 0 :: st) h Q := w_iconst dX9_patchOf_38 rfl
theorem X9_patchOf_39 : iWp d mX9_patchOf 39 [a0, a1, a2, a3, a4] (.int x :: st) h Q = iWp d mX9_patchOf 41 [a0, a1, a2, iClr a3, .int x] st h Q := w_istore dX9_patchOf_39 (Nat.le_of_ble_eq_true rfl) rfl
theorem X9_patchOf_41 : iWp d mX9_patchOf 41 [a0, a1, a2, a3, .int x] st h Q = iWp d mX9_patchOf 43 [a0, a1, a2, a3, .int x] (.int x :: st) h Q := w_iload dX9_patchOf_41 rfl
theorem X9_patchOf_43 : iWp d mX9_patchOf 43 [.ref p, a1, a2, a3, a4] st h Q = iWp d mX9_patchOf 44 [.ref p, a1, a2, a3, a4] (.ref p :: st) h Q := w_aload_n dX9_patchOf_43 rfl
theorem X9_patchOf_44 : iWp d mX9_patchOf 44 [a0, a1, a2, a3, a4] st h Q = iWp d mX9_patchOf 45 [a0, a1, a2, a3, a4] (.int 0 :: st) h Q := w_iconst dX9_patchOf_44 rfl
theorem X9_patchOf_45 : iWp d mX9_patchOf 45 [a0, .int x, a2, a3, a4] st h Q = iWp d mX9_patchOf 46 [a0, .int x, a2, a3, a4] (.int x :: st) h Q := w_iload_n dX9_patchOf_45 rfl
theorem X9_patchOf_46 (he : iEv mX9_of [.ref p, .int x0, .int x1] h (some (.int rv)) h2) (ho : iObj h p 9 = true) : iWp 3 mX9_patchOf 46 [a0, a1, a2, a3, a4] [.int x1, .int x0, .ref p, .int r0] h Q = iWp 3 mX9_patchOf 49 [a0, a1, a2, a3, a4] [.int rv, .int r0] h2 Q := iWp_cV dX9_patchOf_46 fK_9_123 rfl rfl ho (Nat.le_of_ble_eq_true rfl) (Nat.le_of_ble_eq_true rfl) rfl (Nat.le_of_ble_eq_true rfl) he rfl
theorem X9_patchOf_49 : iWp d mX9_patchOf 49 [a0, a1, a2, a3, a4] (.int y :: .int x :: st) h Q = if y ≤ x then iWp d mX9_patchOf 77 [a0, a1, a2, a3, a4] st h Q else iWp d mX9_patchOf 52 [a0, a1, a2, a3, a4] st h Q := w_icmp_ge dX9_patchOf_49 rfl
theorem X9_patchOf_52 : iWp d mX9_patchOf 52 [.ref p, a1, a2, a3, a4] st h Q = iWp d mX9_patchOf 53 [.ref p, a1, a2, a3, a4] (.ref p :: st) h Q := w_aload_n dX9_patchOf_52 rfl
theorem X9_patchOf_53 : iWp d mX9_patchOf 53 [a0, .int x, a2, a3, a4] st h Q = iWp d mX9_patchOf 54 [a0, .int x, a2, a3, a4] (.int x :: st) h Q := w_iload_n dX9_patchOf_53 rfl
theorem X9_patchOf_54 : iWp d mX9_patchOf 54 [a0, a1, a2, a3, a4] st h Q = iWp d mX9_patchOf 56 [a0, a1, a2, a3, a4] (.int 7 :: st) h Q := w_bipush dX9_patchOf_54 rfl
theorem X9_patchOf_56 : iWp d mX9_patchOf 56 [a0, a1, a2, a3, .int x] st h Q = iWp d mX9_patchOf 58 [a0, a1, a2, a3, .int x] (.int x :: st) h Q := w_iload dX9_patchOf_56 rfl
theorem X9_patchOf_58 : iWp d mX9_patchOf 58 [a0, a1, a2, a3, a4] (.int y :: .int x :: st) h Q = iWp d mX9_patchOf 59 [a0, a1, a2, a3, a4] (.int (x * y) :: st) h Q := w_imul dX9_patchOf_58
theorem X9_patchOf_59 (he : iEv mX9_edit [.ref p, .int x0, .int x1] h (some (.int rv)) h2) (ho : iObj h p 9 = true) : iWp 3 mX9_patchOf 59 [a0, a1, a2, a3, a4] [.int x1, .int x0, .ref p] h Q = iWp 3 mX9_patchOf 62 [a0, a1, a2, a3, a4] [.int rv] h2 Q := iWp_cV dX9_patchOf_59 fK_9_254 rfl rfl ho (Nat.le_of_ble_eq_true rfl) (Nat.le_of_ble_eq_true rfl) rfl (Nat.le_of_ble_eq_true rfl) he rfl
theorem X9_patchOf_62 : iWp d mX9_patchOf 62 [a0, a1, .int x, a3, a4] st h Q = iWp d mX9_patchOf 63 [a0, a1, .int x, a3, a4] (.int x :: st) h Q := w_iload_n dX9_patchOf_62 rfl
theorem X9_patchOf_63 : iWp d mX9_patchOf 63 [a0, a1, a2, a3, a4] st h Q = iWp d mX9_patchOf 64 [a0, a1, a2, a3, a4] (.int 2 :: st) h Q := w_iconst dX9_patchOf_63 rfl
theorem X9_patchOf_64 : iWp d mX9_patchOf 64 [a0, a1, a2, a3, a4] (.int y :: .int x :: st) h Q = iWp d mX9_patchOf 65 [a0, a1, a2, a3, a4] (.int (x - y) :: st) h Q := w_isub dX9_patchOf_64
theorem X9_patchOf_65 : iWp d mX9_patchOf 65 [a0, a1, a2, a3, a4] (.int y :: .int x :: st) h Q = if x = y then iWp d mX9_patchOf 68 [a0, a1, a2, a3, a4] st h Q else iWp d mX9_patchOf 71 [a0, a1, a2, a3, a4] st h Q := w_icmp_ne dX9_patchOf_65 rfl
theorem X9_patchOf_68 : iWp d mX9_patchOf 68 [a0, a1, a2, .int x, a4] st h Q = iWp d mX9_patchOf 71 [a0, a1, iClr a2, .int (x + 1), a4] st h Q := w_iinc dX9_patchOf_68 rfl (Nat.le_of_ble_eq_true rfl) rfl
theorem X9_patchOf_71 : iWp d mX9_patchOf 71 [a0, a1, a2, a3, .int x] st h Q = iWp d mX9_patchOf 74 [a0, a1, a2, iClr a3, .int (x + 1)] st h Q := w_iinc dX9_patchOf_71 rfl (Nat.le_of_ble_eq_true rfl) rfl
theorem X9_patchOf_74 : iWp d mX9_patchOf 74 [a0, a1, a2, a3, a4] st h Q = iWp d mX9_patchOf 41 [a0, a1, a2, a3, a4] st h Q := w_goto dX9_patchOf_74 rfl
theorem X9_patchOf_77 : iWp d mX9_patchOf 77 [a0, a1, a2, .int x, a4] st h Q = iWp d mX9_patchOf 78 [a0, a1, a2, .int x, a4] (.int x :: st) h Q := w_iload_n dX9_patchOf_77 rfl
theorem X9_patchOf_78 : iWp d mX9_patchOf 78 [a0, a1, a2, a3, a4] [.int x] h Q = Q (some (.int x)) h := w_ireti dX9_patchOf_78 rfl
theorem I9_patchOf {Q : Option Value → iHp → Prop} (hw : iWp 3 mX9_patchOf 0 [.ref p, .int x0, .int x1, iU, iU] [] h Q) : ∃ r h1, iEv mX9_patchOf [.ref p, .int x0, .int x1] h r h1 ∧ Q r h1 := iEv_of (by rfl) rfl hw
theorem J9_patchOf {r : Option Value} {h1 : iHp} (hw : iWp 3 mX9_patchOf 0 [.ref p, .int x0, .int x1, iU, iU] [] h (fun r' h' => r' = r ∧ h' = h1)) : iEv mX9_patchOf [.ref p, .int x0, .int x1] h r h1 := iEv_ev (by rfl) rfl hw
theorem X9_place_0 : iWp d mX9_place 0 [a0, a1, a2, a3] st h Q = iWp d mX9_place 1 [a0, a1, a2, a3] (.int 0 :: st) h Q := w_iconst dX9_place_0 rfl
theorem X9_place_1 : iWp d mX9_place 1 [a0, a1, a2, a3] (.int x :: st) h Q = iWp d mX9_place 2 [a0, iClr a1, .int x, a3] st h Q := w_istore_n dX9_place_1 (Nat.le_of_ble_eq_true rfl) rfl
theorem X9_place_2 : iWp d mX9_place 2 [a0, .int x, a2, a3] st h Q = iWp d mX9_place 3 [a0, .int x, a2, a3] (.int x :: st) h Q := w_iload_n dX9_place_2 rfl
theorem X9_place_3 : iWp d mX9_place 3 [a0, a1, a2, a3] st h Q = iWp d mX9_place 4 [a0, a1, a2, a3] (.int 1 :: st) h Q := w_iconst dX9_place_3 rfl
theorem X9_place_4 : iWp d mX9_place 4 [a0, a1, a2, a3] (.int y :: .int x :: st) h Q = iWp d mX9_place 5 [a0, a1, a2, a3] (.int (x - y) :: st) h Q := w_isub dX9_place_4
theorem X9_place_5 : iWp d mX9_place 5 [a0, a1, a2, a3] (.int x :: st) h Q = iWp d mX9_place 6 [a0, a1, iClr a2, .int x] st h Q := w_istore_n dX9_place_5 (Nat.le_of_ble_eq_true rfl) rfl
theorem X9_place_6 : iWp d mX9_place 6 [a0, a1, a2, .int x] st h Q = iWp d mX9_place 7 [a0, a1, a2, .int x] (.int x :: st) h Q := w_iload_n dX9_place_6 rfl
theorem X9_place_7 : iWp d mX9_place 7 [a0, a1, a2, a3] (.int x :: st) h Q = if x < 0 then iWp d mX9_place 49 [a0, a1, a2, a3] st h Q else iWp d mX9_place 10 [a0, a1, a2, a3] st h Q := w_ifc_lt dX9_place_7 rfl
theorem X9_place_10 : iWp d mX9_place 10 [.ref p, a1, a2, a3] st h Q = iWp d mX9_place 11 [.ref p, a1, a2, a3] (.ref p :: st) h Q := w_aload_n dX9_place_10 rfl
theorem X9_place_11 : iWp d mX9_place 11 [a0, a1, a2, a3] (.ref p :: st) h Q = iOb (iGet h p 9 21) (fun v => iWp d mX9_place 14 [a0, a1, a2, a3] (v :: st) h Q) := w_getf dX9_place_11 fF_9_50
theorem X9_place_14 : iWp d mX9_place 14 [a0, a1, a2, .int x] st h Q = iWp d mX9_place 15 [a0, a1, a2, .int x] (.int x :: st) h Q := w_iload_n dX9_place_14 rfl
theorem X9_place_15 : iWp d mX9_place 15 [a0, a1, a2, a3] (.int x :: .ref p :: st) h Q = iOb (iLdI h p x) (fun v => iWp d mX9_place 16 [a0, a1, a2, a3] (.int v :: st) h Q) := w_iaload dX9_place_15
theorem X9_place_16 : iWp d mX9_place 16 [.ref p, a1, a2, a3] st h Q = iWp d mX9_place 17 [.ref p, a1, a2, a3] (.ref p :: st) h Q := w_aload_n dX9_place_16 rfl
theorem X9_place_17 : iWp d mX9_place 17 [a0, a1, a2, a3] (.ref p :: st) h Q = iOb (iGet h p 9 21) (fun v => iWp d mX9_place 20 [a0, a1, a2, a3] (v :: st) h Q) := w_getf dX9_place_17 fF_9_50
theorem X9_place_20 : iWp d mX9_place 20 [a0, .int x, a2, a3] st h Q = iWp d mX9_place 21 [a0, .int x, a2, a3] (.int x :: st) h Q := w_iload_n dX9_place_20 rfl
theorem X9_place_21 : iWp d mX9_place 21 [a0, a1, a2, a3] (.int x :: .ref p :: st) h Q = iOb (iLdI h p x) (fun v => iWp d mX9_place 22 [a0, a1, a2, a3] (.int v :: st) h Q) := w_iaload dX9_place_21
theorem X9_place_22 : iWp d mX9_place 22 [a0, a1, a2, a3] (.int y :: .int x :: st) h Q = if x < y then iWp d mX9_place 49 [a0, a1, a2, a3] st h Q else iWp d mX9_place 25 [a0, a1, a2, a3] st h Q := w_icmp_lt dX9_place_22 rfl
theorem X9_place_25 : iWp d mX9_place 25 [.ref p, a1, a2, a3] st h Q = iWp d mX9_place 26 [.ref p, a1, a2, a3] (.ref p :: st) h Q := w_aload_n dX9_place_25 rfl
theorem X9_place_26 : iWp d mX9_place 26 [a0, a1, a2, a3] (.ref p :: st) h Q = iOb (iGet h p 9 21) (fun v => iWp d mX9_place 29 [a0, a1, a2, a3] (v :: st) h Q) := w_getf dX9_place_26 fF_9_50
theorem X9_place_29 : iWp d mX9_place 29 [a0, a1, a2, .int x] st h Q = iWp d mX9_place 30 [a0, a1, a2, .int x] (.int x :: st) h Q := w_iload_n dX9_place_29 rfl
theorem X9_place_30 : iWp d mX9_place 30 [a0, a1, a2, a3] (.int x :: .ref p :: st) h Q = iOb (iLdI h p x) (fun v => iWp d mX9_place 31 [a0, a1, a2, a3] (.int v :: st) h Q) := w_iaload dX9_place_30
theorem X9_place_31 : iWp d mX9_place 31 [.ref p, a1, a2, a3] st h Q = iWp d mX9_place 32 [.ref p, a1, a2, a3] (.ref p :: st) h Q := w_aload_n dX9_place_31 rfl
theorem X9_place_32 : iWp d mX9_place 32 [a0, a1, a2, a3] (.ref p :: st) h Q = iOb (iGet h p 9 21) (fun v => iWp d mX9_place 35 [a0, a1, a2, a3] (v :: st) h Q) := w_getf dX9_place_32 fF_9_50
theorem X9_place_35 : iWp d mX9_place 35 [a0, .int x, a2, a3] st h Q = iWp d mX9_place 36 [a0, .int x, a2, a3] (.int x :: st) h Q := w_iload_n dX9_place_35 rfl
theorem X9_place_36 : iWp d mX9_place 36 [a0, a1, a2, a3] (.int x :: .ref p :: st) h Q = iOb (iLdI h p x) (fun v => iWp d mX9_place 37 [a0, a1, a2, a3] (.int v :: st) h Q) := w_iaload dX9_place_36
theorem X9_place_37 : iWp d mX9_place 37 [a0, a1, a2, a3] (.int y :: .int x :: st) h Q = if x = y then iWp d mX9_place 40 [a0, a1, a2, a3] st h Q else iWp d mX9_place 43 [a0, a1, a2, a3] st h Q := w_icmp_ne dX9_place_37 rfl
theorem X9_place_40 : iWp d mX9_place 40 [a0, a1, .int x, a3] st h Q = iWp d mX9_place 43 [a0, iClr a1, .int (x + 1), a3] st h Q := w_iinc dX9_place_40 rfl (Nat.le_of_ble_eq_true rfl) rfl
theorem X9_place_43 : iWp d mX9_place 43 [a0, a1, a2, .int x] st h Q = iWp d mX9_place 46 [a0, a1, iClr a2, .int (x + (-1))] st h Q := w_iinc dX9_place_43 rfl (Nat.le_of_ble_eq_true rfl) rfl
theorem X9_place_46 : iWp d mX9_place 46 [a0, a1, a2, a3] st h Q = iWp d mX9_place 6 [a0, a1, a2, a3] st h Q := w_goto dX9_place_46 rfl
theorem X9_place_49 : iWp d mX9_place 49 [a0, a1, .int x, a3] st h Q = iWp d mX9_place 50 [a0, a1, .int x, a3] (.int x :: st) h Q := w_iload_n dX9_place_49 rfl
theorem X9_place_50 : iWp d mX9_place 50 [a0, a1, a2, a3] [.int x] h Q = Q (some (.int x)) h := w_ireti dX9_place_50 rfl
theorem I9_place {Q : Option Value → iHp → Prop} (hw : iWp 1 mX9_place 0 [.ref p, .int x0, iU, iU] [] h Q) : ∃ r h1, iEv mX9_place [.ref p, .int x0] h r h1 ∧ Q r h1 := iEv_of (by rfl) rfl hw
theorem J9_place {r : Option Value} {h1 : iHp} (hw : iWp 1 mX9_place 0 [.ref p, .int x0, iU, iU] [] h (fun r' h' => r' = r ∧ h' = h1)) : iEv mX9_place [.ref p, .int x0] h r h1 := iEv_ev (by rfl) rfl hw
theorem X9_placeIn_0 : iWp d mX9_placeIn 0 [.ref p, a1, a2, a3] st h Q = iWp d mX9_placeIn 1 [.ref p, a1, a2, a3] (.ref p :: st) h Q := w_aload_n dX9_placeIn_0 rfl
theorem X9_placeIn_1 : iWp d mX9_placeIn 1 [a0, .int x, a2, a3] st h Q = iWp d mX9_placeIn 2 [a0, .int x, a2, a3] (.int x :: st) h Q := w_iload_n dX9_placeIn_1 rfl
theorem X9_placeIn_2 (he : iEv mX9_find [.ref p, .int x0] h (some (.int rv)) h2) (ho : iObj h p 9 = true) : iWp 3 mX9_placeIn 2 [a0, a1, a2, a3] [.int x0, .ref p] h Q = iWp 3 mX9_placeIn 5 [a0, a1, a2, a3] [.int rv] h2 Q := iWp_cV dX9_placeIn_2 fK_9_153 rfl rfl ho (Nat.le_of_ble_eq_true rfl) (Nat.le_of_ble_eq_true rfl) rfl (Nat.le_of_ble_eq_true rfl) he rfl
theorem X9_placeIn_5 : iWp d mX9_placeIn 5 [a0, a1, a2, a3] (.int x :: st) h Q = iWp d mX9_placeIn 6 [a0, a1, iClr a2, .int x] st h Q := w_istore_n dX9_placeIn_5 (Nat.le_of_ble_eq_true rfl) rfl
theorem X9_placeIn_6 : iWp d mX9_placeIn 6 [a0, a1, a2, .int x] st h Q = iWp d mX9_placeIn 7 [a0, a1, a2, .int x] (.int x :: st) h Q := w_iload_n dX9_placeIn_6 rfl
theorem X9_placeIn_7 : iWp d mX9_placeIn 7 [a0, a1, a2, a3] (.int x :: st) h Q = if x ≤ 0 then iWp d mX9_placeIn 27 [a0, a1, a2, a3] st h Q else iWp d mX9_placeIn 10 [a0, a1, a2, a3] st h Q := w_ifc_le dX9_placeIn_7 rfl
theorem X9_placeIn_10 : iWp d mX9_placeIn 10 [.ref p, a1, a2, a3] st h Q = iWp d mX9_placeIn 11 [.ref p, a1, a2, a3] (.ref p :: st) h Q := w_aload_n dX9_placeIn_10 rfl
theorem X9_placeIn_11 : iWp d mX9_placeIn 11 [a0, a1, a2, .int x] st h Q = iWp d mX9_placeIn 12 [a0, a1, a2, .int x] (.int x :: st) h Q := w_iload_n dX9_placeIn_11 rfl
theorem X9_placeIn_12 (he : iEv mX9_parentKey [.ref p, .int x0] h (some (.int rv)) h2) (ho : iObj h p 9 = true) : iWp 3 mX9_placeIn 12 [a0, a1, a2, a3] [.int x0, .ref p] h Q = iWp 3 mX9_placeIn 15 [a0, a1, a2, a3] [.int rv] h2 Q := iWp_cV dX9_placeIn_12 fK_9_172 rfl rfl ho (Nat.le_of_ble_eq_true rfl) (Nat.le_of_ble_eq_true rfl) rfl (Nat.le_of_ble_eq_true rfl) he rfl
theorem X9_placeIn_15 : iWp d mX9_placeIn 15 [a0, a1, .int x, a3] st h Q = iWp d mX9_placeIn 16 [a0, a1, .int x, a3] (.int x :: st) h Q := w_iload_n dX9_placeIn_15 rfl
theorem X9_placeIn_16 : iWp d mX9_placeIn 16 [a0, a1, a2, a3] (.int y :: .int x :: st) h Q = if x = y then iWp d mX9_placeIn 19 [a0, a1, a2, a3] st h Q else iWp d mX9_placeIn 27 [a0, a1, a2, a3] st h Q := w_icmp_ne dX9_placeIn_16 rfl
theorem X9_placeIn_19 : iWp d mX9_placeIn 19 [.ref p, a1, a2, a3] st h Q = iWp d mX9_placeIn 20 [.ref p, a1, a2, a3] (.ref p :: st) h Q := w_aload_n dX9_placeIn_19 rfl
theorem X9_placeIn_20 : iWp d mX9_placeIn 20 [a0, a1, a2, .int x] st h Q = iWp d mX9_placeIn 21 [a0, a1, a2, .int x] (.int x :: st) h Q := w_iload_n dX9_placeIn_20 rfl
theorem X9_placeIn_21 (he : iEv mX9_place [.ref p, .int x0] h (some (.int rv)) h2) (ho : iObj h p 9 = true) : iWp 3 mX9_placeIn 21 [a0, a1, a2, a3] [.int x0, .ref p] h Q = iWp 3 mX9_placeIn 24 [a0, a1, a2, a3] [.int rv] h2 Q := iWp_cV dX9_placeIn_21 fK_9_175 rfl rfl ho (Nat.le_of_ble_eq_true rfl) (Nat.le_of_ble_eq_true rfl) rfl (Nat.le_of_ble_eq_true rfl) he rfl
theorem X9_placeIn_24 : iWp d mX9_placeIn 24 [a0, a1, a2, a3] st h Q = iWp d mX9_placeIn 28 [a0, a1, a2, a3] st h Q := w_goto dX9_placeIn_24 rfl
theorem X9_placeIn_27 : iWp d mX9_placeIn 27 [a0, a1, a2, a3] st h Q = iWp d mX9_placeIn 28 [a0, a1, a2, a3] (.int (-1) :: st) h Q := w_iconst dX9_placeIn_27 rfl
theorem X9_placeIn_28 : iWp d mX9_placeIn 28 [a0, a1, a2, a3] [.int x] h Q = Q (some (.int x)) h := w_ireti dX9_placeIn_28 rfl
theorem I9_placeIn {Q : Option Value → iHp → Prop} (hw : iWp 3 mX9_placeIn 0 [.ref p, .int x0, .int x1, iU] [] h Q) : ∃ r h1, iEv mX9_placeIn [.ref p, .int x0, .int x1] h r h1 ∧ Q r h1 := iEv_of (by rfl) rfl hw
theorem J9_placeIn {r : Option Value} {h1 : iHp} (hw : iWp 3 mX9_placeIn 0 [.ref p, .int x0, .int x1, iU] [] h (fun r' h' => r' = r ∧ h' = h1)) : iEv mX9_placeIn [.ref p, .int x0, .int x1] h r h1 := iEv_ev (by rfl) rfl hw
theorem X9_put_0 : iWp d mX9_put 0 [.ref p, a1, a2, a3, a4, a5] st h Q = iWp d mX9_put 1 [.ref p, a1, a2, a3, a4, a5] (.ref p :: st) h Q := w_aload_n dX9_put_0 rfl
theorem X9_put_1 : iWp d mX9_put 1 [a0, .int x, a2, a3, a4, a5] st h Q = iWp d mX9_put 2 [a0, .int x, a2, a3, a4, a5] (.int x :: st) h Q := w_iload_n dX9_put_1 rfl
theorem X9_put_2 (he : iEv mX9_isTree [.ref p, .int x0] h (some (.int rv)) h2) (ho : iObj h p 9 = true) : iWp 6 mX9_put 2 [a0, a1, a2, a3, a4, a5] [.int x0, .ref p] h Q = iWp 6 mX9_put 5 [a0, a1, a2, a3, a4, a5] [.int rv] h2 Q := iWp_cV dX9_put_2 fK_9_166 rfl rfl ho (Nat.le_of_ble_eq_true rfl) (Nat.le_of_ble_eq_true rfl) rfl (Nat.le_of_ble_eq_true rfl) he rfl
theorem X9_put_5 : iWp d mX9_put 5 [a0, a1, a2, a3, a4, a5] (.int x :: st) h Q = if x = 0 then iWp d mX9_put 8 [a0, a1, a2, a3, a4, a5] st h Q else iWp d mX9_put 14 [a0, a1, a2, a3, a4, a5] st h Q := w_ifc_ne dX9_put_5 rfl
theorem X9_put_8 : iWp d mX9_put 8 [.ref p, a1, a2, a3, a4, a5] st h Q = iWp d mX9_put 9 [.ref p, a1, a2, a3, a4, a5] (.ref p :: st) h Q := w_aload_n dX9_put_8 rfl
theorem X9_put_9 : iWp d mX9_put 9 [a0, a1, a2, a3, a4, a5] st h Q = iWp d mX9_put 10 [a0, a1, a2, a3, a4, a5] (.int (-1) :: st) h Q := w_iconst dX9_put_9 rfl
theorem X9_put_10 (he : iEv mX9_no [.ref p, .int x0] h (some (.int rv)) h2) (ho : iObj h p 9 = true) : iWp 6 mX9_put 10 [a0, a1, a2, a3, a4, a5] [.int x0, .ref p] h Q = iWp 6 mX9_put 13 [a0, a1, a2, a3, a4, a5] [.int rv] h2 Q := iWp_cV dX9_put_10 fK_9_99 rfl rfl ho (Nat.le_of_ble_eq_true rfl) (Nat.le_of_ble_eq_true rfl) rfl (Nat.le_of_ble_eq_true rfl) he rfl
theorem X9_put_13 : iWp d mX9_put 13 [a0, a1, a2, a3, a4, a5] [.int x] h Q = Q (some (.int x)) h := w_ireti dX9_put_13 rfl
theorem X9_put_14 : iWp d mX9_put 14 [.ref p, a1, a2, a3, a4, a5] st h Q = iWp d mX9_put 15 [.ref p, a1, a2, a3, a4, a5] (.ref p :: st) h Q := w_aload_n dX9_put_14 rfl
theorem X9_put_15 : iWp d mX9_put 15 [a0, .int x, a2, a3, a4, a5] st h Q = iWp d mX9_put 16 [a0, .int x, a2, a3, a4, a5] (.int x :: st) h Q := w_iload_n dX9_put_15 rfl
theorem X9_put_16 (he : iEv mX9_loads [.ref p, .int x0] h none h2) (ho : iObj h p 9 = true) : iWp 6 mX9_put 16 [a0, a1, a2, a3, a4, a5] [.int x0, .ref p] h Q = iWp 6 mX9_put 19 [a0, a1, a2, a3, a4, a5] [] h2 Q := iWp_cV dX9_put_16 fK_9_169 rfl rfl ho (Nat.le_of_ble_eq_true rfl) (Nat.le_of_ble_eq_true rfl) rfl (Nat.le_of_ble_eq_true rfl) he rfl
theorem X9_put_19 : iWp d mX9_put 19 [.ref p, a1, a2, a3, a4, a5] st h Q = iWp d mX9_put 20 [.ref p, a1, a2, a3, a4, a5] (.ref p :: st) h Q := w_aload_n dX9_put_19 rfl
theorem X9_put_20 : iWp d mX9_put 20 [a0, a1, .int x, a3, a4, a5] st h Q = iWp d mX9_put 21 [a0, a1, .int x, a3, a4, a5] (.int x :: st) h Q := w_iload_n dX9_put_20 rfl
theorem X9_put_21 (he : iEv mX9_find [.ref p, .int x0] h (some (.int rv)) h2) (ho : iObj h p 9 = true) : iWp 6 mX9_put 21 [a0, a1, a2, a3, a4, a5] [.int x0, .ref p] h Q = iWp 6 mX9_put 24 [a0, a1, a2, a3, a4, a5] [.int rv] h2 Q := iWp_cV dX9_put_21 fK_9_153 rfl rfl ho (Nat.le_of_ble_eq_true rfl) (Nat.le_of_ble_eq_true rfl) rfl (Nat.le_of_ble_eq_true rfl) he rfl
theorem X9_put_24 : iWp d mX9_put 24 [a0, a1, a2, a3, a4, a5] (.int x :: st) h Q = iWp d mX9_put 26 [a0, a1, a2, a3, iClr a4, .int x] st h Q := w_istore dX9_put_24 (Nat.le_of_ble_eq_true rfl) rfl
theorem X9_put_26 : iWp d mX9_put 26 [a0, a1, a2, a3, a4, .int x] st h Q = iWp d mX9_put 28 [a0, a1, a2, a3, a4, .int x] (.int x :: st) h Q := w_iload dX9_put_26 rfl
theorem X9_put_28 : iWp d mX9_put 28 [a0, a1, a2, a3, a4, a5] st h Q = iWp d mX9_put 29 [a0, a1, a2, a3, a4, a5] (.int (-1) :: st) h Q := w_iconst dX9_put_28 rfl
theorem X9_put_29 : iWp d mX9_put 29 [a0, a1, a2, a3, a4, a5] (.int y :: .int x :: st) h Q = if x = y then iWp d mX9_put 41 [a0, a1, a2, a3, a4, a5] st h Q else iWp d mX9_put 32 [a0, a1, a2, a3, a4, a5] st h Q := w_icmp_eq dX9_put_29 rfl
theorem X9_put_32 : iWp d mX9_put 32 [.ref p, a1, a2, a3, a4, a5] st h Q = iWp d mX9_put 33 [.ref p, a1, a2, a3, a4, a5] (.ref p :: st) h Q := w_aload_n dX9_put_32 rfl
theorem X9_put_33 : iWp d mX9_put 33 [a0, a1, a2, .int x, a4, a5] st h Q = iWp d mX9_put 34 [a0, a1, a2, .int x, a4, a5] (.int x :: st) h Q := w_iload_n dX9_put_33 rfl
theorem X9_put_34 (he : iEv mX9_find [.ref p, .int x0] h (some (.int rv)) h2) (ho : iObj h p 9 = true) : iWp 6 mX9_put 34 [a0, a1, a2, a3, a4, a5] [.int x0, .ref p] h Q = iWp 6 mX9_put 37 [a0, a1, a2, a3, a4, a5] [.int rv] h2 Q := iWp_cV dX9_put_34 fK_9_153 rfl rfl ho (Nat.le_of_ble_eq_true rfl) (Nat.le_of_ble_eq_true rfl) rfl (Nat.le_of_ble_eq_true rfl) he rfl
theorem X9_put_37 : iWp d mX9_put 37 [a0, a1, a2, a3, a4, a5] st h Q = iWp d mX9_put 38 [a0, a1, a2, a3, a4, a5] (.int (-1) :: st) h Q := w_iconst dX9_put_37 rfl
theorem X9_put_38 : iWp d mX9_put 38 [a0, a1, a2, a3, a4, a5] (.int y :: .int x :: st) h Q = if x = y then iWp d mX9_put 41 [a0, a1, a2, a3, a4, a5] st h Q else iWp d mX9_put 48 [a0, a1, a2, a3, a4, a5] st h Q := w_icmp_ne dX9_put_38 rfl
theorem X9_put_41 : iWp d mX9_put 41 [.ref p, a1, a2, a3, a4, a5] st h Q = iWp d mX9_put 42 [.ref p, a1, a2, a3, a4, a5] (.ref p :: st) h Q := w_aload_n dX9_put_41 rfl
theorem X9_put_42 : iWp d mX9_put 42 [a0, a1, a2, a3, a4, a5] st h Q = iWp d mX9_put 44 [a0, a1, a2, a3, a4, a5] (.int (-5) :: st) h Q := w_bipush dX9_put_42 rfl
theorem X9_put_44 (he : iEv mX9_no [.ref p, .int x0] h (some (.int rv)) h2) (ho : iObj h p 9 = true) : iWp 6 mX9_put 44 [a0, a1, a2, a3, a4, a5] [.int x0, .ref p] h Q = iWp 6 mX9_put 47 [a0, a1, a2, a3, a4, a5] [.int rv] h2 Q := iWp_cV dX9_put_44 fK_9_99 rfl rfl ho (Nat.le_of_ble_eq_true rfl) (Nat.le_of_ble_eq_true rfl) rfl (Nat.le_of_ble_eq_true rfl) he rfl
theorem X9_put_47 : iWp d mX9_put 47 [a0, a1, a2, a3, a4, a5] [.int x] h Q = Q (some (.int x)) h := w_ireti dX9_put_47 rfl
theorem X9_put_48 : iWp d mX9_put 48 [.ref p, a1, a2, a3, a4, a5] st h Q = iWp d mX9_put 49 [.ref p, a1, a2, a3, a4, a5] (.ref p :: st) h Q := w_aload_n dX9_put_48 rfl
theorem X9_put_49 : iWp d mX9_put 49 [a0, a1, a2, a3, a4, a5] st h Q = iWp d mX9_put 50 [a0, a1, a2, a3, a4, a5] (.int 0 :: st) h Q := w_iconst dX9_put_49 rfl
theorem X9_put_50 : iWp d mX9_put 50 [a0, a1, a2, a3, a4, a5] (.int x :: .ref p :: st) h Q = iOb (iPut h p 9 25 (.int x)) (fun g => iWp d mX9_put 53 [a0, a1, a2, a3, a4, a5] st g Q) := w_putf dX9_put_50 fF_9_200 ⟨rfl, (Or.inl rfl)⟩
theorem X9_put_53 : iWp d mX9_put 53 [.ref p, a1, a2, a3, a4, a5] st h Q = iWp d mX9_put 54 [.ref p, a1, a2, a3, a4, a5] (.ref p :: st) h Q := w_aload_n dX9_put_53 rfl
theorem X9_put_54 : iWp d mX9_put 54 [a0, a1, a2, a3, a4, a5] st h Q = iWp d mX9_put 55 [a0, a1, a2, a3, a4, a5] (.int 3 :: st) h Q := w_iconst dX9_put_54 rfl
theorem X9_put_55 : iWp d mX9_put 55 [a0, a1, .int x, a3, a4, a5] st h Q = iWp d mX9_put 56 [a0, a1, .int x, a3, a4, a5] (.int x :: st) h Q := w_iload_n dX9_put_55 rfl
theorem X9_put_56 : iWp d mX9_put 56 [a0, a1, a2, a3, a4, a5] st h Q = iWp d mX9_put 57 [a0, a1, a2, a3, a4, a5] (.int 0 :: st) h Q := w_iconst dX9_put_56 rfl
theorem X9_put_57 : iWp d mX9_put 57 [.ref p, a1, a2, a3, a4, a5] st h Q = iWp d mX9_put 58 [.ref p, a1, a2, a3, a4, a5] (.ref p :: st) h Q := w_aload_n dX9_put_57 rfl
theorem X9_put_58 : iWp d mX9_put 58 [a0, a1, a2, a3, a4, .int x] st h Q = iWp d mX9_put 60 [a0, a1, a2, a3, a4, .int x] (.int x :: st) h Q := w_iload dX9_put_58 rfl
theorem X9_put_60 (he : iEv mX9_parentKey [.ref p, .int x0] h (some (.int rv)) h2) (ho : iObj h p 9 = true) : iWp 6 mX9_put 60 [a0, a1, a2, a3, a4, a5] [.int x0, .ref p, .int r0, .int r1, .int r2, .ref t3] h Q = iWp 6 mX9_put 63 [a0, a1, a2, a3, a4, a5] [.int rv, .int r0, .int r1, .int r2, .ref t3] h2 Q := iWp_cV dX9_put_60 fK_9_172 rfl rfl ho (Nat.le_of_ble_eq_true rfl) (Nat.le_of_ble_eq_true rfl) rfl (Nat.le_of_ble_eq_true rfl) he rfl
theorem X9_put_63 : iWp d mX9_put 63 [a0, a1, a2, a3, a4, .int x] st h Q = iWp d mX9_put 65 [a0, a1, a2, a3, a4, .int x] (.int x :: st) h Q := w_iload dX9_put_63 rfl
theorem X9_put_65 : iWp d mX9_put 65 [a0, a1, a2, a3, a4, a5] (.int x :: st) h Q = if x = 0 then iWp d mX9_put 68 [a0, a1, a2, a3, a4, a5] st h Q else iWp d mX9_put 72 [a0, a1, a2, a3, a4, a5] st h Q := w_ifc_ne dX9_put_65 rfl
theorem X9_put_68 : iWp d mX9_put 68 [a0, a1, a2, a3, a4, a5] st h Q = iWp d mX9_put 69 [a0, a1, a2, a3, a4, a5] (.int 0 :: st) h Q := w_iconst dX9_put_68 rfl
theorem X9_put_69 : iWp d mX9_put 69 [a0, a1, a2, a3, a4, a5] st h Q = iWp d mX9_put 78 [a0, a1, a2, a3, a4, a5] st h Q := w_goto dX9_put_69 rfl
theorem X9_put_72 : iWp d mX9_put 72 [.ref p, a1, a2, a3, a4, a5] st h Q = iWp d mX9_put 73 [.ref p, a1, a2, a3, a4, a5] (.ref p :: st) h Q := w_aload_n dX9_put_72 rfl
theorem X9_put_73 : iWp d mX9_put 73 [a0, a1, a2, a3, a4, .int x] st h Q = iWp d mX9_put 75 [a0, a1, a2, a3, a4, .int x] (.int x :: st) h Q := w_iload dX9_put_73 rfl
theorem X9_put_75 (he : iEv mX9_place [.ref p, .int x0] h (some (.int rv)) h2) (ho : iObj h p 9 = true) : iWp 6 mX9_put 75 [a0, a1, a2, a3, a4, a5] [.int x0, .ref p, .int r0, .int r1, .int r2, .int r3, .ref t4] h Q = iWp 6 mX9_put 78 [a0, a1, a2, a3, a4, a5] [.int rv, .int r0, .int r1, .int r2, .int r3, .ref t4] h2 Q := iWp_cV dX9_put_75 fK_9_175 rfl rfl ho (Nat.le_of_ble_eq_true rfl) (Nat.le_of_ble_eq_true rfl) rfl (Nat.le_of_ble_eq_true rfl) he rfl
theorem X9_put_78 : iWp d mX9_put 78 [a0, a1, a2, .int x, a4, a5] st h Q = iWp d mX9_put 79 [a0, a1, a2, .int x, a4, a5] (.int x :: st) h Q := w_iload_n dX9_put_78 rfl
theorem X9_put_79 : iWp d mX9_put 79 [a0, a1, a2, a3, .int x, a5] st h Q = iWp d mX9_put 81 [a0, a1, a2, a3, .int x, a5] (.int x :: st) h Q := w_iload dX9_put_79 rfl
theorem X9_put_81 (he : iEv mX9_makes [.ref p, .int x0, .int x1, .int x2, .int x3, .int x4, .int x5, .int x6] h none h2) (ho : iObj h p 9 = true) : iWp 6 mX9_put 81 [a0, a1, a2, a3, a4, a5] [.int x6, .int x5, .int x4, .int x3, .int x2, .int x1, .int x0, .ref p] h Q = iWp 6 mX9_put 84 [a0, a1, a2, a3, a4, a5] [] h2 Q := iWp_cV dX9_put_81 fK_9_203 rfl rfl ho (Nat.le_of_ble_eq_true rfl) (Nat.le_of_ble_eq_true rfl) rfl (Nat.le_of_ble_eq_true rfl) he rfl
theorem X9_put_84 : iWp d mX9_put 84 [.ref p, a1, a2, a3, a4, a5] st h Q = iWp d mX9_put 85 [.ref p, a1, a2, a3, a4, a5] (.ref p :: st) h Q := w_aload_n dX9_put_84 rfl
theorem X9_put_85 : iWp d mX9_put 85 [.ref p, a1, a2, a3, a4, a5] st h Q = iWp d mX9_put 86 [.ref p, a1, a2, a3, a4, a5] (.ref p :: st) h Q := w_aload_n dX9_put_85 rfl
theorem X9_put_86 : iWp d mX9_put 86 [a0, a1, a2, a3, a4, a5] (.ref p :: st) h Q = iOb (iGet h p 9 26) (fun v => iWp d mX9_put 89 [a0, a1, a2, a3, a4, a5] (v :: st) h Q) := w_getf dX9_put_86 fF_9_62
theorem X9_put_89 : iWp d mX9_put 89 [a0, a1, a2, a3, a4, a5] st h Q = iWp d mX9_put 90 [a0, a1, a2, a3, a4, a5] (.int 0 :: st) h Q := w_iconst dX9_put_89 rfl
theorem X9_put_90 (he : iEv mX9_does [.ref p, b0, .int x1] h (some (.int rv)) h2) (ho : iObj h p 9 = true) (c0 : b0.category = 1) : iWp 6 mX9_put 90 [a0, a1, a2, a3, a4, a5] [.int x1, b0, .ref p] h Q = iWp 6 mX9_put 93 [a0, a1, a2, a3, a4, a5] [.int rv] h2 Q := iWp_cV dX9_put_90 fK_9_207 rfl rfl ho (Nat.le_of_ble_eq_true rfl) (Nat.le_of_ble_eq_true rfl) (by simp [iInit, cat_i, cat_r, cat_l, mX9_does, c0]) (Nat.le_of_ble_eq_true rfl) he rfl
theorem X9_put_93 : iWp d mX9_put 93 [a0, a1, a2, a3, a4, a5] (.int x :: st) h Q = if x = 0 then iWp d mX9_put 96 [a0, a1, a2, a3, a4, a5] st h Q else iWp d mX9_put 103 [a0, a1, a2, a3, a4, a5] st h Q := w_ifc_ne dX9_put_93 rfl
theorem X9_put_96 : iWp d mX9_put 96 [.ref p, a1, a2, a3, a4, a5] st h Q = iWp d mX9_put 97 [.ref p, a1, a2, a3, a4, a5] (.ref p :: st) h Q := w_aload_n dX9_put_96 rfl
theorem X9_put_97 : iWp d mX9_put 97 [a0, a1, a2, a3, a4, a5] st h Q = iWp d mX9_put 99 [a0, a1, a2, a3, a4, a5] (.int (-6) :: st) h Q := w_bipush dX9_put_97 rfl
theorem X9_put_99 (he : iEv mX9_no [.ref p, .int x0] h (some (.int rv)) h2) (ho : iObj h p 9 = true) : iWp 6 mX9_put 99 [a0, a1, a2, a3, a4, a5] [.int x0, .ref p] h Q = iWp 6 mX9_put 102 [a0, a1, a2, a3, a4, a5] [.int rv] h2 Q := iWp_cV dX9_put_99 fK_9_99 rfl rfl ho (Nat.le_of_ble_eq_true rfl) (Nat.le_of_ble_eq_true rfl) rfl (Nat.le_of_ble_eq_true rfl) he rfl
theorem X9_put_102 : iWp d mX9_put 102 [a0, a1, a2, a3, a4, a5] [.int x] h Q = Q (some (.int x)) h := w_ireti dX9_put_102 rfl
theorem X9_put_103 : iWp d mX9_put 103 [.ref p, a1, a2, a3, a4, a5] st h Q = iWp d mX9_put 104 [.ref p, a1, a2, a3, a4, a5] (.ref p :: st) h Q := w_aload_n dX9_put_103 rfl
theorem X9_put_104 : iWp d mX9_put 104 [a0, a1, a2, a3, a4, a5] st h Q = iWp d mX9_put 105 [a0, a1, a2, a3, a4, a5] (.int 0 :: st) h Q := w_iconst dX9_put_104 rfl
theorem X9_put_105 : iWp d mX9_put 105 [a0, a1, a2, a3, a4, a5] st h Q = iWp d mX9_put 106 [a0, a1, a2, a3, a4, a5] (.int (-1) :: st) h Q := w_iconst dX9_put_105 rfl
theorem X9_put_106 (he : iEv mX9_newPatch [.ref p, .int x0, .int x1] h (some (.int rv)) h2) (ho : iObj h p 9 = true) : iWp 6 mX9_put 106 [a0, a1, a2, a3, a4, a5] [.int x1, .int x0, .ref p] h Q = iWp 6 mX9_put 109 [a0, a1, a2, a3, a4, a5] [.int rv] h2 Q := iWp_cV dX9_put_106 fK_9_251 rfl rfl ho (Nat.le_of_ble_eq_true rfl) (Nat.le_of_ble_eq_true rfl) rfl (Nat.le_of_ble_eq_true rfl) he rfl
theorem X9_put_109 : iWp d mX9_put 109 [a0, a1, a2, a3, a4, a5] [.int x] h Q = Q (some (.int x)) h := w_ireti dX9_put_109 rfl
theorem I9_put {Q : Option Value → iHp → Prop} (hw : iWp 6 mX9_put 0 [.ref p, .int x0, .int x1, .int x2, .int x3, iU] [] h Q) : ∃ r h1, iEv mX9_put [.ref p, .int x0, .int x1, .int x2, .int x3] h r h1 ∧ Q r h1 := iEv_of (by rfl) rfl hw
theorem J9_put {r : Option Value} {h1 : iHp} (hw : iWp 6 mX9_put 0 [.ref p, .int x0, .int x1, .int x2, .int x3, iU] [] h (fun r' h' => r' = r ∧ h' = h1)) : iEv mX9_put [.ref p, .int x0, .int x1, .int x2, .int x3] h r h1 := iEv_ev (by rfl) rfl hw
theorem X9_puts_0 : iWp d mX9_puts 0 [.ref p, a1, a2, a3, a4, a5, a6] st h Q = iWp d mX9_puts 1 [.ref p, a1, a2, a3, a4, a5, a6] (.ref p :: st) h Q := w_aload_n dX9_puts_0 rfl
theorem X9_puts_1 : iWp d mX9_puts 1 [a0, a1, .int x, a3, a4, a5, a6] st h Q = iWp d mX9_puts 2 [a0, a1, .int x, a3, a4, a5, a6] (.int x :: st) h Q := w_iload_n dX9_puts_1 rfl
theorem X9_puts_2 : iWp d mX9_puts 2 [a0, a1, a2, .int x, a4, a5, a6] st h Q = iWp d mX9_puts 3 [a0, a1, a2, .int x, a4, a5, a6] (.int x :: st) h Q := w_iload_n dX9_puts_2 rfl
theorem X9_puts_3 (he : iEv mX9_child [.ref p, .int x0, .int x1] h (some (.int rv)) h2) (ho : iObj h p 9 = true) : iWp 3 mX9_puts 3 [a0, a1, a2, a3, a4, a5, a6] [.int x1, .int x0, .ref p] h Q = iWp 3 mX9_puts 6 [a0, a1, a2, a3, a4, a5, a6] [.int rv] h2 Q := iWp_cV dX9_puts_3 fK_9_136 rfl rfl ho (Nat.le_of_ble_eq_true rfl) (Nat.le_of_ble_eq_true rfl) rfl (Nat.le_of_ble_eq_true rfl) he rfl
theorem X9_puts_6 : iWp d mX9_puts 6 [a0, a1, a2, a3, a4, a5, a6] (.int x :: st) h Q = iWp d mX9_puts 8 [a0, a1, a2, iClr a3, .int x, a5, a6] st h Q := w_istore dX9_puts_6 (Nat.le_of_ble_eq_true rfl) rfl
theorem X9_puts_8 : iWp d mX9_puts 8 [.ref p, a1, a2, a3, a4, a5, a6] st h Q = iWp d mX9_puts 9 [.ref p, a1, a2, a3, a4, a5, a6] (.ref p :: st) h Q := w_aload_n dX9_puts_8 rfl
theorem X9_puts_9 : iWp d mX9_puts 9 [a0, a1, a2, a3, a4, a5, a6] (.ref p :: st) h Q = iOb (iGet h p 9 21) (fun v => iWp d mX9_puts 12 [a0, a1, a2, a3, a4, a5, a6] (v :: st) h Q) := w_getf dX9_puts_9 fF_9_50
theorem X9_puts_12 : iWp d mX9_puts 12 [a0, a1, .int x, a3, a4, a5, a6] st h Q = iWp d mX9_puts 13 [a0, a1, .int x, a3, a4, a5, a6] (.int x :: st) h Q := w_iload_n dX9_puts_12 rfl
theorem X9_puts_13 : iWp d mX9_puts 13 [a0, a1, a2, a3, a4, a5, a6] (.int x :: .ref p :: st) h Q = iOb (iLdI h p x) (fun v => iWp d mX9_puts 14 [a0, a1, a2, a3, a4, a5, a6] (.int v :: st) h Q) := w_iaload dX9_puts_13
theorem X9_puts_14 : iWp d mX9_puts 14 [a0, a1, a2, a3, a4, a5, a6] st h Q = iWp d mX9_puts 15 [a0, a1, a2, a3, a4, a5, a6] (.int 1 :: st) h Q := w_iconst dX9_puts_14 rfl
theorem X9_puts_15 : iWp d mX9_puts 15 [a0, a1, a2, a3, a4, a5, a6] (.int y :: .int x :: st) h Q = iWp d mX9_puts 16 [a0, a1, a2, a3, a4, a5, a6] (.int (x + y) :: st) h Q := w_iadd dX9_puts_15
theorem X9_puts_16 : iWp d mX9_puts 16 [a0, a1, a2, a3, a4, a5, a6] (.int x :: st) h Q = iWp d mX9_puts 18 [a0, a1, a2, a3, iClr a4, .int x, a6] st h Q := w_istore dX9_puts_16 (Nat.le_of_ble_eq_true rfl) rfl
theorem X9_puts_18 : iWp d mX9_puts 18 [.ref p, a1, a2, a3, a4, a5, a6] st h Q = iWp d mX9_puts 19 [.ref p, a1, a2, a3, a4, a5, a6] (.ref p :: st) h Q := w_aload_n dX9_puts_18 rfl
theorem X9_puts_19 : iWp d mX9_puts 19 [a0, a1, a2, a3, a4, a5, a6] (.ref p :: st) h Q = iOb (iGet h p 9 18) (fun v => iWp d mX9_puts 22 [a0, a1, a2, a3, a4, a5, a6] (v :: st) h Q) := w_getf dX9_puts_19 fF_9_127
theorem X9_puts_22 : iWp d mX9_puts 22 [a0, a1, a2, a3, a4, a5, a6] st h Q = iWp d mX9_puts 23 [a0, a1, a2, a3, a4, a5, a6] (.int 1 :: st) h Q := w_iconst dX9_puts_22 rfl
theorem X9_puts_23 : iWp d mX9_puts 23 [a0, a1, a2, a3, a4, a5, a6] (.int y :: .int x :: st) h Q = iWp d mX9_puts 24 [a0, a1, a2, a3, a4, a5, a6] (.int (x - y) :: st) h Q := w_isub dX9_puts_23
theorem X9_puts_24 : iWp d mX9_puts 24 [a0, a1, a2, a3, a4, a5, a6] (.int x :: st) h Q = iWp d mX9_puts 26 [a0, a1, a2, a3, a4, iClr a5, .int x] st h Q := w_istore dX9_puts_24 (Nat.le_of_ble_eq_true rfl) rfl
theorem X9_puts_26 : iWp d mX9_puts 26 [a0, a1, a2, a3, a4, a5, .int x] st h Q = iWp d mX9_puts 28 [a0, a1, a2, a3, a4, a5, .int x] (.int x :: st) h Q := w_iload dX9_puts_26 rfl
theorem X9_puts_28 : iWp d mX9_puts 28 [a0, a1, a2, a3, .int x, a5, a6] st h Q = iWp d mX9_puts 30 [a0, a1, a2, a3, .int x, a5, a6] (.int x :: st) h Q := w_iload dX9_puts_28 rfl
theorem X9_puts_30 : iWp d mX9_puts 30 [a0, a1, a2, a3, a4, a5, a6] (.int y :: .int x :: st) h Q = if x < y then iWp d mX9_puts 87 [a0, a1, a2, a3, a4, a5, a6] st h Q else iWp d mX9_puts 33 [a0, a1, a2, a3, a4, a5, a6] st h Q := w_icmp_lt dX9_puts_30 rfl
theorem X9_puts_33 : iWp d mX9_puts 33 [.ref p, a1, a2, a3, a4, a5, a6] st h Q = iWp d mX9_puts 34 [.ref p, a1, a2, a3, a4, a5, a6] (.ref p :: st) h Q := w_aload_n dX9_puts_33 rfl
theorem X9_puts_34 : iWp d mX9_puts 34 [a0, a1, a2, a3, a4, a5, a6] (.ref p :: st) h Q = iOb (iGet h p 9 19) (fun v => iWp d mX9_puts 37 [a0, a1, a2, a3, a4, a5, a6] (v :: st) h Q) := w_getf dX9_puts_34 fF_9_44
theorem X9_puts_37 : iWp d mX9_puts 37 [a0, a1, a2, a3, a4, a5, .int x] st h Q = iWp d mX9_puts 39 [a0, a1, a2, a3, a4, a5, .int x] (.int x :: st) h Q := w_iload dX9_puts_37 rfl
theorem X9_puts_39 : iWp d mX9_puts 39 [a0, .int x, a2, a3, a4, a5, a6] st h Q = iWp d mX9_puts 40 [a0, .int x, a2, a3, a4, a5, a6] (.int x :: st) h Q := w_iload_n dX9_puts_39 rfl
theorem X9_puts_40 : iWp d mX9_puts 40 [a0, a1, a2, a3, a4, a5, a6] (.int y :: .int x :: st) h Q = iWp d mX9_puts 41 [a0, a1, a2, a3, a4, a5, a6] (.int (x + y) :: st) h Q := w_iadd dX9_puts_40
theorem X9_puts_41 : iWp d mX9_puts 41 [.ref p, a1, a2, a3, a4, a5, a6] st h Q = iWp d mX9_puts 42 [.ref p, a1, a2, a3, a4, a5, a6] (.ref p :: st) h Q := w_aload_n dX9_puts_41 rfl
theorem X9_puts_42 : iWp d mX9_puts 42 [a0, a1, a2, a3, a4, a5, a6] (.ref p :: st) h Q = iOb (iGet h p 9 19) (fun v => iWp d mX9_puts 45 [a0, a1, a2, a3, a4, a5, a6] (v :: st) h Q) := w_getf dX9_puts_42 fF_9_44
theorem X9_puts_45 : iWp d mX9_puts 45 [a0, a1, a2, a3, a4, a5, .int x] st h Q = iWp d mX9_puts 47 [a0, a1, a2, a3, a4, a5, .int x] (.int x :: st) h Q := w_iload dX9_puts_45 rfl
theorem X9_puts_47 : iWp d mX9_puts 47 [a0, a1, a2, a3, a4, a5, a6] (.int x :: .ref p :: st) h Q = iOb (iLdI h p x) (fun v => iWp d mX9_puts 48 [a0, a1, a2, a3, a4, a5, a6] (.int v :: st) h Q) := w_iaload dX9_puts_47
theorem X9_puts_48 : iWp d mX9_puts 48 [a0, a1, a2, a3, a4, a5, a6] (.int y :: .int x :: .ref p :: st) h Q = iOb (iStI h p x y) (fun g => iWp d mX9_puts 49 [a0, a1, a2, a3, a4, a5, a6] st g Q) := w_iastore dX9_puts_48
theorem X9_puts_49 : iWp d mX9_puts 49 [.ref p, a1, a2, a3, a4, a5, a6] st h Q = iWp d mX9_puts 50 [.ref p, a1, a2, a3, a4, a5, a6] (.ref p :: st) h Q := w_aload_n dX9_puts_49 rfl
theorem X9_puts_50 : iWp d mX9_puts 50 [a0, a1, a2, a3, a4, a5, a6] (.ref p :: st) h Q = iOb (iGet h p 9 20) (fun v => iWp d mX9_puts 53 [a0, a1, a2, a3, a4, a5, a6] (v :: st) h Q) := w_getf dX9_puts_50 fF_9_47
theorem X9_puts_53 : iWp d mX9_puts 53 [a0, a1, a2, a3, a4, a5, .int x] st h Q = iWp d mX9_puts 55 [a0, a1, a2, a3, a4, a5, .int x] (.int x :: st) h Q := w_iload dX9_puts_53 rfl
theorem X9_puts_55 : iWp d mX9_puts 55 [a0, .int x, a2, a3, a4, a5, a6] st h Q = iWp d mX9_puts 56 [a0, .int x, a2, a3, a4, a5, a6] (.int x :: st) h Q := w_iload_n dX9_puts_55 rfl
theorem X9_puts_56 : iWp d mX9_puts 56 [a0, a1, a2, a3, a4, a5, a6] (.int y :: .int x :: st) h Q = iWp d mX9_puts 57 [a0, a1, a2, a3, a4, a5, a6] (.int (x + y) :: st) h Q := w_iadd dX9_puts_56
theorem X9_puts_57 : iWp d mX9_puts 57 [.ref p, a1, a2, a3, a4, a5, a6] st h Q = iWp d mX9_puts 58 [.ref p, a1, a2, a3, a4, a5, a6] (.ref p :: st) h Q := w_aload_n dX9_puts_57 rfl
theorem X9_puts_58 : iWp d mX9_puts 58 [a0, a1, a2, a3, a4, a5, a6] (.ref p :: st) h Q = iOb (iGet h p 9 20) (fun v => iWp d mX9_puts 61 [a0, a1, a2, a3, a4, a5, a6] (v :: st) h Q) := w_getf dX9_puts_58 fF_9_47
theorem X9_puts_61 : iWp d mX9_puts 61 [a0, a1, a2, a3, a4, a5, .int x] st h Q = iWp d mX9_puts 63 [a0, a1, a2, a3, a4, a5, .int x] (.int x :: st) h Q := w_iload dX9_puts_61 rfl
theorem X9_puts_63 : iWp d mX9_puts 63 [a0, a1, a2, a3, a4, a5, a6] (.int x :: .ref p :: st) h Q = iOb (iLdI h p x) (fun v => iWp d mX9_puts 64 [a0, a1, a2, a3, a4, a5, a6] (.int v :: st) h Q) := w_iaload dX9_puts_63
theorem X9_puts_64 : iWp d mX9_puts 64 [a0, a1, a2, a3, a4, a5, a6] (.int y :: .int x :: .ref p :: st) h Q = iOb (iStI h p x y) (fun g => iWp d mX9_puts 65 [a0, a1, a2, a3, a4, a5, a6] st g Q) := w_iastore dX9_puts_64
theorem X9_puts_65 : iWp d mX9_puts 65 [.ref p, a1, a2, a3, a4, a5, a6] st h Q = iWp d mX9_puts 66 [.ref p, a1, a2, a3, a4, a5, a6] (.ref p :: st) h Q := w_aload_n dX9_puts_65 rfl
theorem X9_puts_66 : iWp d mX9_puts 66 [a0, a1, a2, a3, a4, a5, a6] (.ref p :: st) h Q = iOb (iGet h p 9 21) (fun v => iWp d mX9_puts 69 [a0, a1, a2, a3, a4, a5, a6] (v :: st) h Q) := w_getf dX9_puts_66 fF_9_50
theorem X9_puts_69 : iWp d mX9_puts 69 [a0, a1, a2, a3, a4, a5, .int x] st h Q = iWp d mX9_puts 71 [a0, a1, a2, a3, a4, a5, .int x] (.int x :: st) h Q := w_iload dX9_puts_69 rfl
theorem X9_puts_71 : iWp d mX9_puts 71 [a0, .int x, a2, a3, a4, a5, a6] st h Q = iWp d mX9_puts 72 [a0, .int x, a2, a3, a4, a5, a6] (.int x :: st) h Q := w_iload_n dX9_puts_71 rfl
theorem X9_puts_72 : iWp d mX9_puts 72 [a0, a1, a2, a3, a4, a5, a6] (.int y :: .int x :: st) h Q = iWp d mX9_puts 73 [a0, a1, a2, a3, a4, a5, a6] (.int (x + y) :: st) h Q := w_iadd dX9_puts_72
theorem X9_puts_73 : iWp d mX9_puts 73 [.ref p, a1, a2, a3, a4, a5, a6] st h Q = iWp d mX9_puts 74 [.ref p, a1, a2, a3, a4, a5, a6] (.ref p :: st) h Q := w_aload_n dX9_puts_73 rfl
theorem X9_puts_74 : iWp d mX9_puts 74 [a0, a1, a2, a3, a4, a5, a6] (.ref p :: st) h Q = iOb (iGet h p 9 21) (fun v => iWp d mX9_puts 77 [a0, a1, a2, a3, a4, a5, a6] (v :: st) h Q) := w_getf dX9_puts_74 fF_9_50
theorem X9_puts_77 : iWp d mX9_puts 77 [a0, a1, a2, a3, a4, a5, .int x] st h Q = iWp d mX9_puts 79 [a0, a1, a2, a3, a4, a5, .int x] (.int x :: st) h Q := w_iload dX9_puts_77 rfl
theorem X9_puts_79 : iWp d mX9_puts 79 [a0, a1, a2, a3, a4, a5, a6] (.int x :: .ref p :: st) h Q = iOb (iLdI h p x) (fun v => iWp d mX9_puts 80 [a0, a1, a2, a3, a4, a5, a6] (.int v :: st) h Q) := w_iaload dX9_puts_79
theorem X9_puts_80 : iWp d mX9_puts 80 [a0, a1, a2, a3, a4, a5, a6] (.int y :: .int x :: .ref p :: st) h Q = iOb (iStI h p x y) (fun g => iWp d mX9_puts 81 [a0, a1, a2, a3, a4, a5, a6] st g Q) := w_iastore dX9_puts_80
theorem X9_puts_81 : iWp d mX9_puts 81 [a0, a1, a2, a3, a4, a5, .int x] st h Q = iWp d mX9_puts 84 [a0, a1, a2, a3, a4, iClr a5, .int (x + (-1))] st h Q := w_iinc dX9_puts_81 rfl (Nat.le_of_ble_eq_true rfl) rfl
theorem X9_puts_84 : iWp d mX9_puts 84 [a0, a1, a2, a3, a4, a5, a6] st h Q = iWp d mX9_puts 26 [a0, a1, a2, a3, a4, a5, a6] st h Q := w_goto dX9_puts_84 rfl
theorem X9_puts_87 : iWp d mX9_puts 87 [.ref p, a1, a2, a3, a4, a5, a6] st h Q = iWp d mX9_puts 88 [.ref p, a1, a2, a3, a4, a5, a6] (.ref p :: st) h Q := w_aload_n dX9_puts_87 rfl
theorem X9_puts_88 : iWp d mX9_puts 88 [a0, a1, a2, a3, a4, a5, a6] (.ref p :: st) h Q = iWp d mX9_puts 89 [a0, a1, a2, a3, a4, a5, a6] (.ref p :: .ref p :: st) h Q := w_dup dX9_puts_88 rfl
theorem X9_puts_89 : iWp d mX9_puts 89 [a0, a1, a2, a3, a4, a5, a6] (.ref p :: st) h Q = iOb (iGet h p 9 18) (fun v => iWp d mX9_puts 92 [a0, a1, a2, a3, a4, a5, a6] (v :: st) h Q) := w_getf dX9_puts_89 fF_9_127
theorem X9_puts_92 : iWp d mX9_puts 92 [a0, .int x, a2, a3, a4, a5, a6] st h Q = iWp d mX9_puts 93 [a0, .int x, a2, a3, a4, a5, a6] (.int x :: st) h Q := w_iload_n dX9_puts_92 rfl
theorem X9_puts_93 : iWp d mX9_puts 93 [a0, a1, a2, a3, a4, a5, a6] (.int y :: .int x :: st) h Q = iWp d mX9_puts 94 [a0, a1, a2, a3, a4, a5, a6] (.int (x + y) :: st) h Q := w_iadd dX9_puts_93
theorem X9_puts_94 : iWp d mX9_puts 94 [a0, a1, a2, a3, a4, a5, a6] (.int x :: .ref p :: st) h Q = iOb (iPut h p 9 18 (.int x)) (fun g => iWp d mX9_puts 97 [a0, a1, a2, a3, a4, a5, a6] st g Q) := w_putf dX9_puts_94 fF_9_127 ⟨rfl, (Or.inl rfl)⟩
theorem X9_puts_97 : iWp d mX9_puts 97 [a0, a1, a2, a3, a4, a5, a6] st h Q = iWp d mX9_puts 98 [a0, a1, a2, a3, a4, a5, a6] (.int 0 :: st) h Q := w_iconst dX9_puts_97 rfl
theorem X9_puts_98 : iWp d mX9_puts 98 [a0, a1, a2, a3, a4, a5, a6] (.int x :: st) h Q = iWp d mX9_puts 100 [a0, a1, a2, a3, a4, iClr a5, .int x] st h Q := w_istore dX9_puts_98 (Nat.le_of_ble_eq_true rfl) rfl
theorem X9_puts_100 : iWp d mX9_puts 100 [a0, a1, a2, a3, a4, a5, .int x] st h Q = iWp d mX9_puts 102 [a0, a1, a2, a3, a4, a5, .int x] (.int x :: st) h Q := w_iload dX9_puts_100 rfl
theorem X9_puts_102 : iWp d mX9_puts 102 [a0, .int x, a2, a3, a4, a5, a6] st h Q = iWp d mX9_puts 103 [a0, .int x, a2, a3, a4, a5, a6] (.int x :: st) h Q := w_iload_n dX9_puts_102 rfl
theorem X9_puts_103 : iWp d mX9_puts 103 [a0, a1, a2, a3, a4, a5, a6] (.int y :: .int x :: st) h Q = if y ≤ x then iWp d mX9_puts 166 [a0, a1, a2, a3, a4, a5, a6] st h Q else iWp d mX9_puts 106 [a0, a1, a2, a3, a4, a5, a6] st h Q := w_icmp_ge dX9_puts_103 rfl
theorem X9_puts_106 : iWp d mX9_puts 106 [.ref p, a1, a2, a3, a4, a5, a6] st h Q = iWp d mX9_puts 107 [.ref p, a1, a2, a3, a4, a5, a6] (.ref p :: st) h Q := w_aload_n dX9_puts_106 rfl
theorem X9_puts_107 : iWp d mX9_puts 107 [a0, a1, a2, a3, a4, a5, a6] (.ref p :: st) h Q = iOb (iGet h p 9 19) (fun v => iWp d mX9_puts 110 [a0, a1, a2, a3, a4, a5, a6] (v :: st) h Q) := w_getf dX9_puts_107 fF_9_44
theorem X9_puts_110 : iWp d mX9_puts 110 [a0, a1, a2, a3, .int x, a5, a6] st h Q = iWp d mX9_puts 112 [a0, a1, a2, a3, .int x, a5, a6] (.int x :: st) h Q := w_iload dX9_puts_110 rfl
theorem X9_puts_112 : iWp d mX9_puts 112 [a0, a1, a2, a3, a4, a5, .int x] st h Q = iWp d mX9_puts 114 [a0, a1, a2, a3, a4, a5, .int x] (.int x :: st) h Q := w_iload dX9_puts_112 rfl
theorem X9_puts_114 : iWp d mX9_puts 114 [a0, a1, a2, a3, a4, a5, a6] (.int y :: .int x :: st) h Q = iWp d mX9_puts 115 [a0, a1, a2, a3, a4, a5, a6] (.int (x + y) :: st) h Q := w_iadd dX9_puts_114
theorem X9_puts_115 : iWp d mX9_puts 115 [.ref p, a1, a2, a3, a4, a5, a6] st h Q = iWp d mX9_puts 116 [.ref p, a1, a2, a3, a4, a5, a6] (.ref p :: st) h Q := w_aload_n dX9_puts_115 rfl
theorem X9_puts_116 : iWp d mX9_puts 116 [a0, a1, a2, a3, a4, a5, a6] (.ref p :: st) h Q = iOb (iGet h p 9 22) (fun v => iWp d mX9_puts 119 [a0, a1, a2, a3, a4, a5, a6] (v :: st) h Q) := w_getf dX9_puts_116 fF_9_53
theorem X9_puts_119 : iWp d mX9_puts 119 [a0, a1, a2, a3, a4, a5, .int x] st h Q = iWp d mX9_puts 121 [a0, a1, a2, a3, a4, a5, .int x] (.int x :: st) h Q := w_iload dX9_puts_119 rfl
theorem X9_puts_121 : iWp d mX9_puts 121 [a0, a1, a2, a3, a4, a5, a6] (.int x :: .ref p :: st) h Q = iOb (iLdI h p x) (fun v => iWp d mX9_puts 122 [a0, a1, a2, a3, a4, a5, a6] (.int v :: st) h Q) := w_iaload dX9_puts_121
theorem X9_puts_122 : iWp d mX9_puts 122 [a0, a1, a2, a3, a4, a5, a6] (.int y :: .int x :: .ref p :: st) h Q = iOb (iStI h p x y) (fun g => iWp d mX9_puts 123 [a0, a1, a2, a3, a4, a5, a6] st g Q) := w_iastore dX9_puts_122
theorem X9_puts_123 : iWp d mX9_puts 123 [.ref p, a1, a2, a3, a4, a5, a6] st h Q = iWp d mX9_puts 124 [.ref p, a1, a2, a3, a4, a5, a6] (.ref p :: st) h Q := w_aload_n dX9_puts_123 rfl
theorem X9_puts_124 : iWp d mX9_puts 124 [a0, a1, a2, a3, a4, a5, a6] (.ref p :: st) h Q = iOb (iGet h p 9 20) (fun v => iWp d mX9_puts 127 [a0, a1, a2, a3, a4, a5, a6] (v :: st) h Q) := w_getf dX9_puts_124 fF_9_47
theorem X9_puts_127 : iWp d mX9_puts 127 [a0, a1, a2, a3, .int x, a5, a6] st h Q = iWp d mX9_puts 129 [a0, a1, a2, a3, .int x, a5, a6] (.int x :: st) h Q := w_iload dX9_puts_127 rfl
theorem X9_puts_129 : iWp d mX9_puts 129 [a0, a1, a2, a3, a4, a5, .int x] st h Q = iWp d mX9_puts 131 [a0, a1, a2, a3, a4, a5, .int x] (.int x :: st) h Q := w_iload dX9_puts_129 rfl
theorem X9_puts_131 : iWp d mX9_puts 131 [a0, a1, a2, a3, a4, a5, a6] (.int y :: .int x :: st) h Q = iWp d mX9_puts 132 [a0, a1, a2, a3, a4, a5, a6] (.int (x + y) :: st) h Q := w_iadd dX9_puts_131
theorem X9_puts_132 : iWp d mX9_puts 132 [.ref p, a1, a2, a3, a4, a5, a6] st h Q = iWp d mX9_puts 133 [.ref p, a1, a2, a3, a4, a5, a6] (.ref p :: st) h Q := w_aload_n dX9_puts_132 rfl
theorem X9_puts_133 : iWp d mX9_puts 133 [a0, a1, a2, a3, a4, a5, a6] (.ref p :: st) h Q = iOb (iGet h p 9 23) (fun v => iWp d mX9_puts 136 [a0, a1, a2, a3, a4, a5, a6] (v :: st) h Q) := w_getf dX9_puts_133 fF_9_56
theorem X9_puts_136 : iWp d mX9_puts 136 [a0, a1, a2, a3, a4, a5, .int x] st h Q = iWp d mX9_puts 138 [a0, a1, a2, a3, a4, a5, .int x] (.int x :: st) h Q := w_iload dX9_puts_136 rfl
theorem X9_puts_138 : iWp d mX9_puts 138 [a0, a1, a2, a3, a4, a5, a6] (.int x :: .ref p :: st) h Q = iOb (iLdI h p x) (fun v => iWp d mX9_puts 139 [a0, a1, a2, a3, a4, a5, a6] (.int v :: st) h Q) := w_iaload dX9_puts_138
theorem X9_puts_139 : iWp d mX9_puts 139 [a0, a1, a2, a3, a4, a5, a6] (.int y :: .int x :: .ref p :: st) h Q = iOb (iStI h p x y) (fun g => iWp d mX9_puts 140 [a0, a1, a2, a3, a4, a5, a6] st g Q) := w_iastore dX9_puts_139
theorem X9_puts_140 : iWp d mX9_puts 140 [.ref p, a1, a2, a3, a4, a5, a6] st h Q = iWp d mX9_puts 141 [.ref p, a1, a2, a3, a4, a5, a6] (.ref p :: st) h Q := w_aload_n dX9_puts_140 rfl
theorem X9_puts_141 : iWp d mX9_puts 141 [a0, a1, a2, a3, a4, a5, a6] (.ref p :: st) h Q = iOb (iGet h p 9 21) (fun v => iWp d mX9_puts 144 [a0, a1, a2, a3, a4, a5, a6] (v :: st) h Q) := w_getf dX9_puts_141 fF_9_50
theorem X9_puts_144 : iWp d mX9_puts 144 [a0, a1, a2, a3, .int x, a5, a6] st h Q = iWp d mX9_puts 146 [a0, a1, a2, a3, .int x, a5, a6] (.int x :: st) h Q := w_iload dX9_puts_144 rfl
theorem X9_puts_146 : iWp d mX9_puts 146 [a0, a1, a2, a3, a4, a5, .int x] st h Q = iWp d mX9_puts 148 [a0, a1, a2, a3, a4, a5, .int x] (.int x :: st) h Q := w_iload dX9_puts_146 rfl
theorem X9_puts_148 : iWp d mX9_puts 148 [a0, a1, a2, a3, a4, a5, a6] (.int y :: .int x :: st) h Q = iWp d mX9_puts 149 [a0, a1, a2, a3, a4, a5, a6] (.int (x + y) :: st) h Q := w_iadd dX9_puts_148
theorem X9_puts_149 : iWp d mX9_puts 149 [.ref p, a1, a2, a3, a4, a5, a6] st h Q = iWp d mX9_puts 150 [.ref p, a1, a2, a3, a4, a5, a6] (.ref p :: st) h Q := w_aload_n dX9_puts_149 rfl
theorem X9_puts_150 : iWp d mX9_puts 150 [a0, a1, a2, a3, a4, a5, a6] (.ref p :: st) h Q = iOb (iGet h p 9 24) (fun v => iWp d mX9_puts 153 [a0, a1, a2, a3, a4, a5, a6] (v :: st) h Q) := w_getf dX9_puts_150 fF_9_59
theorem X9_puts_153 : iWp d mX9_puts 153 [a0, a1, a2, a3, a4, a5, .int x] st h Q = iWp d mX9_puts 155 [a0, a1, a2, a3, a4, a5, .int x] (.int x :: st) h Q := w_iload dX9_puts_153 rfl
theorem X9_puts_155 : iWp d mX9_puts 155 [a0, a1, a2, a3, a4, a5, a6] (.int x :: .ref p :: st) h Q = iOb (iLdI h p x) (fun v => iWp d mX9_puts 156 [a0, a1, a2, a3, a4, a5, a6] (.int v :: st) h Q) := w_iaload dX9_puts_155
theorem X9_puts_156 : iWp d mX9_puts 156 [a0, a1, a2, a3, a4, .int x, a6] st h Q = iWp d mX9_puts 158 [a0, a1, a2, a3, a4, .int x, a6] (.int x :: st) h Q := w_iload dX9_puts_156 rfl
theorem X9_puts_158 : iWp d mX9_puts 158 [a0, a1, a2, a3, a4, a5, a6] (.int y :: .int x :: st) h Q = iWp d mX9_puts 159 [a0, a1, a2, a3, a4, a5, a6] (.int (x + y) :: st) h Q := w_iadd dX9_puts_158
theorem X9_puts_159 : iWp d mX9_puts 159 [a0, a1, a2, a3, a4, a5, a6] (.int y :: .int x :: .ref p :: st) h Q = iOb (iStI h p x y) (fun g => iWp d mX9_puts 160 [a0, a1, a2, a3, a4, a5, a6] st g Q) := w_iastore dX9_puts_159
theorem X9_puts_160 : iWp d mX9_puts 160 [a0, a1, a2, a3, a4, a5, .int x] st h Q = iWp d mX9_puts 163 [a0, a1, a2, a3, a4, iClr a5, .int (x + 1)] st h Q := w_iinc dX9_puts_160 rfl (Nat.le_of_ble_eq_true rfl) rfl
theorem X9_puts_163 : iWp d mX9_puts 163 [a0, a1, a2, a3, a4, a5, a6] st h Q = iWp d mX9_puts 100 [a0, a1, a2, a3, a4, a5, a6] st h Q := w_goto dX9_puts_163 rfl
theorem X9_puts_166 : iWp d mX9_puts 166 [a0, a1, a2, a3, a4, a5, a6] [] h Q = Q none h := w_ret dX9_puts_166 rfl
theorem I9_puts {Q : Option Value → iHp → Prop} (hw : iWp 3 mX9_puts 0 [.ref p, .int x0, .int x1, .int x2, iU, iU, iU] [] h Q) : ∃ r h1, iEv mX9_puts [.ref p, .int x0, .int x1, .int x2] h r h1 ∧ Q r h1 := iEv_of (by rfl) rfl hw
theorem J9_puts {r : Option Value} {h1 : iHp} (hw : iWp 3 mX9_puts 0 [.ref p, .int x0, .int x1, .int x2, iU, iU, iU] [] h (fun r' h' => r' = r ∧ h' = h1)) : iEv mX9_puts [.ref p, .int x0, .int x1, .int x2] h r h1 := iEv_ev (by rfl) rfl hw
theorem X9_rebase_0 : iWp d mX9_rebase 0 [.ref p, a1, a2, a3, a4] st h Q = iWp d mX9_rebase 1 [.ref p, a1, a2, a3, a4] (.ref p :: st) h Q := w_aload_n dX9_rebase_0 rfl
theorem X9_rebase_1 : iWp d mX9_rebase 1 [a0, .int x, a2, a3, a4] st h Q = iWp d mX9_rebase 2 [a0, .int x, a2, a3, a4] (.int x :: st) h Q := w_iload_n dX9_rebase_1 rfl
theorem X9_rebase_2 (he : iEv mX9_isPatch [.ref p, .int x0] h (some (.int rv)) h2) (ho : iObj h p 9 = true) : iWp 9 mX9_rebase 2 [a0, a1, a2, a3, a4] [.int x0, .ref p] h Q = iWp 9 mX9_rebase 5 [a0, a1, a2, a3, a4] [.int rv] h2 Q := iWp_cV dX9_rebase_2 fK_9_120 rfl rfl ho (Nat.le_of_ble_eq_true rfl) (Nat.le_of_ble_eq_true rfl) rfl (Nat.le_of_ble_eq_true rfl) he rfl
theorem X9_rebase_5 : iWp d mX9_rebase 5 [a0, a1, a2, a3, a4] (.int x :: st) h Q = if x = 0 then iWp d mX9_rebase 16 [a0, a1, a2, a3, a4] st h Q else iWp d mX9_rebase 8 [a0, a1, a2, a3, a4] st h Q := w_ifc_eq dX9_rebase_5 rfl
theorem X9_rebase_8 : iWp d mX9_rebase 8 [.ref p, a1, a2, a3, a4] st h Q = iWp d mX9_rebase 9 [.ref p, a1, a2, a3, a4] (.ref p :: st) h Q := w_aload_n dX9_rebase_8 rfl
theorem X9_rebase_9 : iWp d mX9_rebase 9 [a0, a1, .int x, a3, a4] st h Q = iWp d mX9_rebase 10 [a0, a1, .int x, a3, a4] (.int x :: st) h Q := w_iload_n dX9_rebase_9 rfl
theorem X9_rebase_10 (he : iEv mX9_isTree [.ref p, .int x0] h (some (.int rv)) h2) (ho : iObj h p 9 = true) : iWp 9 mX9_rebase 10 [a0, a1, a2, a3, a4] [.int x0, .ref p] h Q = iWp 9 mX9_rebase 13 [a0, a1, a2, a3, a4] [.int rv] h2 Q := iWp_cV dX9_rebase_10 fK_9_166 rfl rfl ho (Nat.le_of_ble_eq_true rfl) (Nat.le_of_ble_eq_true rfl) rfl (Nat.le_of_ble_eq_true rfl) he rfl
theorem X9_rebase_13 : iWp d mX9_rebase 13 [a0, a1, a2, a3, a4] (.int x :: st) h Q = if x = 0 then iWp d mX9_rebase 16 [a0, a1, a2, a3, a4] st h Q else iWp d mX9_rebase 22 [a0, a1, a2, a3, a4] st h Q := w_ifc_ne dX9_rebase_13 rfl
theorem X9_rebase_16 : iWp d mX9_rebase 16 [.ref p, a1, a2, a3, a4] st h Q = iWp d mX9_rebase 17 [.ref p, a1, a2, a3, a4] (.ref p :: st) h Q := w_aload_n dX9_rebase_16 rfl
theorem X9_rebase_17 : iWp d mX9_rebase 17 [a0, a1, a2, a3, a4] st h Q = iWp d mX9_rebase 18 [a0, a1, a2, a3, a4] (.int (-1) :: st) h Q := w_iconst dX9_rebase_17 rfl
theorem X9_rebase_18 (he : iEv mX9_no [.ref p, .int x0] h (some (.int rv)) h2) (ho : iObj h p 9 = true) : iWp 9 mX9_rebase 18 [a0, a1, a2, a3, a4] [.int x0, .ref p] h Q = iWp 9 mX9_rebase 21 [a0, a1, a2, a3, a4] [.int rv] h2 Q := iWp_cV dX9_rebase_18 fK_9_99 rfl rfl ho (Nat.le_of_ble_eq_true rfl) (Nat.le_of_ble_eq_true rfl) rfl (Nat.le_of_ble_eq_true rfl) he rfl
theorem X9_rebase_21 : iWp d mX9_rebase 21 [a0, a1, a2, a3, a4] [.int x] h Q = Q (some (.int x)) h := w_ireti dX9_rebase_21 rfl
theorem X9_rebase_22 : iWp d mX9_rebase 22 [.ref p, a1, a2, a3, a4] st h Q = iWp d mX9_rebase 23 [.ref p, a1, a2, a3, a4] (.ref p :: st) h Q := w_aload_n dX9_rebase_22 rfl
theorem X9_rebase_23 : iWp d mX9_rebase 23 [a0, a1, .int x, a3, a4] st h Q = iWp d mX9_rebase 24 [a0, a1, .int x, a3, a4] (.int x :: st) h Q := w_iload_n dX9_rebase_23 rfl
theorem X9_rebase_24 (he : iEv mX9_loads [.ref p, .int x0] h none h2) (ho : iObj h p 9 = true) : iWp 9 mX9_rebase 24 [a0, a1, a2, a3, a4] [.int x0, .ref p] h Q = iWp 9 mX9_rebase 27 [a0, a1, a2, a3, a4] [] h2 Q := iWp_cV dX9_rebase_24 fK_9_169 rfl rfl ho (Nat.le_of_ble_eq_true rfl) (Nat.le_of_ble_eq_true rfl) rfl (Nat.le_of_ble_eq_true rfl) he rfl
theorem X9_rebase_27 : iWp d mX9_rebase 27 [.ref p, a1, a2, a3, a4] st h Q = iWp d mX9_rebase 28 [.ref p, a1, a2, a3, a4] (.ref p :: st) h Q := w_aload_n dX9_rebase_27 rfl
theorem X9_rebase_28 : iWp d mX9_rebase 28 [a0, a1, a2, a3, a4] st h Q = iWp d mX9_rebase 29 [a0, a1, a2, a3, a4] (.int 0 :: st) h Q := w_iconst dX9_rebase_28 rfl
theorem X9_rebase_29 : iWp d mX9_rebase 29 [a0, a1, a2, a3, a4] (.int x :: .ref p :: st) h Q = iOb (iPut h p 9 25 (.int x)) (fun g => iWp d mX9_rebase 32 [a0, a1, a2, a3, a4] st g Q) := w_putf dX9_rebase_29 fF_9_200 ⟨rfl, (Or.inl rfl)⟩
theorem X9_rebase_32 : iWp d mX9_rebase 32 [.ref p, a1, a2, a3, a4] st h Q = iWp d mX9_rebase 33 [.ref p, a1, a2, a3, a4] (.ref p :: st) h Q := w_aload_n dX9_rebase_32 rfl
theorem X9_rebase_33 : iWp d mX9_rebase 33 [a0, a1, a2, a3, a4] st h Q = iWp d mX9_rebase 34 [a0, a1, a2, a3, a4] (.int 0 :: st) h Q := w_iconst dX9_rebase_33 rfl
theorem X9_rebase_34 : iWp d mX9_rebase 34 [a0, a1, a2, a3, a4] (.int x :: .ref p :: st) h Q = iOb (iPut h p 9 27 (.int x)) (fun g => iWp d mX9_rebase 37 [a0, a1, a2, a3, a4] st g Q) := w_putf dX9_rebase_34 fF_9_242 ⟨rfl, (Or.inl rfl)⟩
theorem X9_rebase_37 : iWp d mX9_rebase 37 [a0, a1, a2, a3, a4] st h Q = iWp d mX9_rebase 38 [a0, a1, a2, a3, a4] (.int 0 :: st) h Q := w_iconst dX9_rebase_37 rfl
theorem X9_rebase_38 : iWp d mX9_rebase 38 [a0, a1, a2, a3, a4] (.int x :: st) h Q = iWp d mX9_rebase 39 [a0, a1, iClr a2, .int x, a4] st h Q := w_istore_n dX9_rebase_38 (Nat.le_of_ble_eq_true rfl) rfl
theorem X9_rebase_39 : iWp d mX9_rebase 39 [a0, a1, a2, .int x, a4] st h Q = iWp d mX9_rebase 40 [a0, a1, a2, .int x, a4] (.int x :: st) h Q := w_iload_n dX9_rebase_39 rfl
theorem X9_rebase_40 : iWp d mX9_rebase 40 [.ref p, a1, a2, a3, a4] st h Q = iWp d mX9_rebase 41 [.ref p, a1, a2, a3, a4] (.ref p :: st) h Q := w_aload_n dX9_rebase_40 rfl
theorem X9_rebase_41 : iWp d mX9_rebase 41 [a0, a1, a2, a3, a4] st h Q = iWp d mX9_rebase 42 [a0, a1, a2, a3, a4] (.int 0 :: st) h Q := w_iconst dX9_rebase_41 rfl
theorem X9_rebase_42 : iWp d mX9_rebase 42 [a0, .int x, a2, a3, a4] st h Q = iWp d mX9_rebase 43 [a0, .int x, a2, a3, a4] (.int x :: st) h Q := w_iload_n dX9_rebase_42 rfl
theorem X9_rebase_43 (he : iEv mX9_of [.ref p, .int x0, .int x1] h (some (.int rv)) h2) (ho : iObj h p 9 = true) : iWp 9 mX9_rebase 43 [a0, a1, a2, a3, a4] [.int x1, .int x0, .ref p, .int r0] h Q = iWp 9 mX9_rebase 46 [a0, a1, a2, a3, a4] [.int rv, .int r0] h2 Q := iWp_cV dX9_rebase_43 fK_9_123 rfl rfl ho (Nat.le_of_ble_eq_true rfl) (Nat.le_of_ble_eq_true rfl) rfl (Nat.le_of_ble_eq_true rfl) he rfl
theorem X9_rebase_46 : iWp d mX9_rebase 46 [a0, a1, a2, a3, a4] (.int y :: .int x :: st) h Q = if y ≤ x then iWp d mX9_rebase 116 [a0, a1, a2, a3, a4] st h Q else iWp d mX9_rebase 49 [a0, a1, a2, a3, a4] st h Q := w_icmp_ge dX9_rebase_46 rfl
theorem X9_rebase_49 : iWp d mX9_rebase 49 [.ref p, a1, a2, a3, a4] st h Q = iWp d mX9_rebase 50 [.ref p, a1, a2, a3, a4] (.ref p :: st) h Q := w_aload_n dX9_rebase_49 rfl
theorem X9_rebase_50 : iWp d mX9_rebase 50 [a0, a1, a2, a3, a4] st h Q = iWp d mX9_rebase 53 [a0, a1, a2, a3, a4] (.int 840 :: st) h Q := w_sipush dX9_rebase_50 rfl
theorem X9_rebase_53 : iWp d mX9_rebase 53 [a0, .int x, a2, a3, a4] st h Q = iWp d mX9_rebase 54 [a0, .int x, a2, a3, a4] (.int x :: st) h Q := w_iload_n dX9_rebase_53 rfl
theorem X9_rebase_54 : iWp d mX9_rebase 54 [a0, a1, a2, a3, a4] (.int y :: .int x :: st) h Q = iWp d mX9_rebase 55 [a0, a1, a2, a3, a4] (.int (x * y) :: st) h Q := w_imul dX9_rebase_54
theorem X9_rebase_55 : iWp d mX9_rebase 55 [a0, a1, a2, a3, a4] st h Q = iWp d mX9_rebase 57 [a0, a1, a2, a3, a4] (.int 7 :: st) h Q := w_bipush dX9_rebase_55 rfl
theorem X9_rebase_57 : iWp d mX9_rebase 57 [a0, a1, a2, .int x, a4] st h Q = iWp d mX9_rebase 58 [a0, a1, a2, .int x, a4] (.int x :: st) h Q := w_iload_n dX9_rebase_57 rfl
theorem X9_rebase_58 : iWp d mX9_rebase 58 [a0, a1, a2, a3, a4] (.int y :: .int x :: st) h Q = iWp d mX9_rebase 59 [a0, a1, a2, a3, a4] (.int (x * y) :: st) h Q := w_imul dX9_rebase_58
theorem X9_rebase_59 : iWp d mX9_rebase 59 [a0, a1, a2, a3, a4] (.int y :: .int x :: st) h Q = iWp d mX9_rebase 60 [a0, a1, a2, a3, a4] (.int (x + y) :: st) h Q := w_iadd dX9_rebase_59
theorem X9_rebase_60 (he : iEv mX9_keeps [.ref p, .int x0] h (some (.int rv)) h2) (ho : iObj h p 9 = true) : iWp 9 mX9_rebase 60 [a0, a1, a2, a3, a4] [.int x0, .ref p] h Q = iWp 9 mX9_rebase 63 [a0, a1, a2, a3, a4] [.int rv] h2 Q := iWp_cV dX9_rebase_60 fK_9_285 rfl rfl ho (Nat.le_of_ble_eq_true rfl) (Nat.le_of_ble_eq_true rfl) rfl (Nat.le_of_ble_eq_true rfl) he rfl
theorem X9_rebase_63 : iWp d mX9_rebase 63 [a0, a1, a2, a3, a4] (.int x :: st) h Q = iWp d mX9_rebase 65 [a0, a1, a2, iClr a3, .int x] st h Q := w_istore dX9_rebase_63 (Nat.le_of_ble_eq_true rfl) rfl
theorem X9_rebase_65 : iWp d mX9_rebase 65 [a0, a1, a2, a3, .int x] st h Q = iWp d mX9_rebase 67 [a0, a1, a2, a3, .int x] (.int x :: st) h Q := w_iload dX9_rebase_65 rfl
theorem X9_rebase_67 : iWp d mX9_rebase 67 [a0, a1, a2, a3, a4] (.int x :: st) h Q = if x = 0 then iWp d mX9_rebase 70 [a0, a1, a2, a3, a4] st h Q else iWp d mX9_rebase 73 [a0, a1, a2, a3, a4] st h Q := w_ifc_ne dX9_rebase_67 rfl
theorem X9_rebase_70 : iWp d mX9_rebase 70 [a0, a1, a2, a3, a4] st h Q = iWp d mX9_rebase 110 [a0, a1, a2, a3, a4] st h Q := w_goto dX9_rebase_70 rfl
theorem X9_rebase_73 : iWp d mX9_rebase 73 [.ref p, a1, a2, a3, a4] st h Q = iWp d mX9_rebase 74 [.ref p, a1, a2, a3, a4] (.ref p :: st) h Q := w_aload_n dX9_rebase_73 rfl
theorem X9_rebase_74 : iWp d mX9_rebase 74 [a0, a1, a2, a3, a4] (.ref p :: st) h Q = iOb (iGet h p 9 28) (fun v => iWp d mX9_rebase 77 [a0, a1, a2, a3, a4] (v :: st) h Q) := w_getf dX9_rebase_74 fF_9_65
theorem X9_rebase_77 : iWp d mX9_rebase 77 [a0, a1, a2, a3, a4] st h Q = iWp d mX9_rebase 78 [a0, a1, a2, a3, a4] (.int 2 :: st) h Q := w_iconst dX9_rebase_77 rfl
theorem X9_rebase_78 : iWp d mX9_rebase 78 [.ref p, a1, a2, a3, a4] st h Q = iWp d mX9_rebase 79 [.ref p, a1, a2, a3, a4] (.ref p :: st) h Q := w_aload_n dX9_rebase_78 rfl
theorem X9_rebase_79 : iWp d mX9_rebase 79 [a0, a1, a2, a3, a4] (.ref p :: st) h Q = iOb (iGet h p 9 27) (fun v => iWp d mX9_rebase 82 [a0, a1, a2, a3, a4] (v :: st) h Q) := w_getf dX9_rebase_79 fF_9_242
theorem X9_rebase_82 : iWp d mX9_rebase 82 [a0, a1, a2, a3, a4] (.int y :: .int x :: st) h Q = iWp d mX9_rebase 83 [a0, a1, a2, a3, a4] (.int (x * y) :: st) h Q := w_imul dX9_rebase_82
theorem X9_rebase_83 : iWp d mX9_rebase 83 [a0, a1, a2, .int x, a4] st h Q = iWp d mX9_rebase 84 [a0, a1, a2, .int x, a4] (.int x :: st) h Q := w_iload_n dX9_rebase_83 rfl
theorem X9_rebase_84 : iWp d mX9_rebase 84 [a0, a1, a2, a3, a4] (.int y :: .int x :: .ref p :: st) h Q = iOb (iStI h p x y) (fun g => iWp d mX9_rebase 85 [a0, a1, a2, a3, a4] st g Q) := w_iastore dX9_rebase_84
theorem X9_rebase_85 : iWp d mX9_rebase 85 [.ref p, a1, a2, a3, a4] st h Q = iWp d mX9_rebase 86 [.ref p, a1, a2, a3, a4] (.ref p :: st) h Q := w_aload_n dX9_rebase_85 rfl
theorem X9_rebase_86 : iWp d mX9_rebase 86 [a0, a1, a2, a3, a4] (.ref p :: st) h Q = iOb (iGet h p 9 28) (fun v => iWp d mX9_rebase 89 [a0, a1, a2, a3, a4] (v :: st) h Q) := w_getf dX9_rebase_86 fF_9_65
theorem X9_rebase_89 : iWp d mX9_rebase 89 [a0, a1, a2, a3, a4] st h Q = iWp d mX9_rebase 90 [a0, a1, a2, a3, a4] (.int 2 :: st) h Q := w_iconst dX9_rebase_89 rfl
theorem X9_rebase_90 : iWp d mX9_rebase 90 [.ref p, a1, a2, a3, a4] st h Q = iWp d mX9_rebase 91 [.ref p, a1, a2, a3, a4] (.ref p :: st) h Q := w_aload_n dX9_rebase_90 rfl
theorem X9_rebase_91 : iWp d mX9_rebase 91 [a0, a1, a2, a3, a4] (.ref p :: st) h Q = iOb (iGet h p 9 27) (fun v => iWp d mX9_rebase 94 [a0, a1, a2, a3, a4] (v :: st) h Q) := w_getf dX9_rebase_91 fF_9_242
theorem X9_rebase_94 : iWp d mX9_rebase 94 [a0, a1, a2, a3, a4] (.int y :: .int x :: st) h Q = iWp d mX9_rebase 95 [a0, a1, a2, a3, a4] (.int (x * y) :: st) h Q := w_imul dX9_rebase_94
theorem X9_rebase_95 : iWp d mX9_rebase 95 [a0, a1, a2, a3, a4] st h Q = iWp d mX9_rebase 96 [a0, a1, a2, a3, a4] (.int 1 :: st) h Q := w_iconst dX9_rebase_95 rfl
theorem X9_rebase_96 : iWp d mX9_rebase 96 [a0, a1, a2, a3, a4] (.int y :: .int x :: st) h Q = iWp d mX9_rebase 97 [a0, a1, a2, a3, a4] (.int (x + y) :: st) h Q := w_iadd dX9_rebase_96
theorem X9_rebase_97 : iWp d mX9_rebase 97 [a0, a1, a2, a3, .int x] st h Q = iWp d mX9_rebase 99 [a0, a1, a2, a3, .int x] (.int x :: st) h Q := w_iload dX9_rebase_97 rfl
theorem X9_rebase_99 : iWp d mX9_rebase 99 [a0, a1, a2, a3, a4] (.int y :: .int x :: .ref p :: st) h Q = iOb (iStI h p x y) (fun g => iWp d mX9_rebase 100 [a0, a1, a2, a3, a4] st g Q) := w_iastore dX9_rebase_99
theorem X9_rebase_100 : iWp d mX9_rebase 100 [.ref p, a1, a2, a3, a4] st h Q = iWp d mX9_rebase 101 [.ref p, a1, a2, a3, a4] (.ref p :: st) h Q := w_aload_n dX9_rebase_100 rfl
theorem X9_rebase_101 : iWp d mX9_rebase 101 [a0, a1, a2, a3, a4] (.ref p :: st) h Q = iWp d mX9_rebase 102 [a0, a1, a2, a3, a4] (.ref p :: .ref p :: st) h Q := w_dup dX9_rebase_101 rfl
theorem X9_rebase_102 : iWp d mX9_rebase 102 [a0, a1, a2, a3, a4] (.ref p :: st) h Q = iOb (iGet h p 9 27) (fun v => iWp d mX9_rebase 105 [a0, a1, a2, a3, a4] (v :: st) h Q) := w_getf dX9_rebase_102 fF_9_242
theorem X9_rebase_105 : iWp d mX9_rebase 105 [a0, a1, a2, a3, a4] st h Q = iWp d mX9_rebase 106 [a0, a1, a2, a3, a4] (.int 1 :: st) h Q := w_iconst dX9_rebase_105 rfl
theorem X9_rebase_106 : iWp d mX9_rebase 106 [a0, a1, a2, a3, a4] (.int y :: .int x :: st) h Q = iWp d mX9_rebase 107 [a0, a1, a2, a3, a4] (.int (x + y) :: st) h Q := w_iadd dX9_rebase_106
theorem X9_rebase_107 : iWp d mX9_rebase 107 [a0, a1, a2, a3, a4] (.int x :: .ref p :: st) h Q = iOb (iPut h p 9 27 (.int x)) (fun g => iWp d mX9_rebase 110 [a0, a1, a2, a3, a4] st g Q) := w_putf dX9_rebase_107 fF_9_242 ⟨rfl, (Or.inl rfl)⟩
theorem X9_rebase_110 : iWp d mX9_rebase 110 [a0, a1, a2, .int x, a4] st h Q = iWp d mX9_rebase 113 [a0, a1, iClr a2, .int (x + 1), a4] st h Q := w_iinc dX9_rebase_110 rfl (Nat.le_of_ble_eq_true rfl) rfl
theorem X9_rebase_113 : iWp d mX9_rebase 113 [a0, a1, a2, a3, a4] st h Q = iWp d mX9_rebase 39 [a0, a1, a2, a3, a4] st h Q := w_goto dX9_rebase_113 rfl
theorem X9_rebase_116 : iWp d mX9_rebase 116 [.ref p, a1, a2, a3, a4] st h Q = iWp d mX9_rebase 117 [.ref p, a1, a2, a3, a4] (.ref p :: st) h Q := w_aload_n dX9_rebase_116 rfl
theorem X9_rebase_117 : iWp d mX9_rebase 117 [a0, a1, a2, a3, a4] st h Q = iWp d mX9_rebase 118 [a0, a1, a2, a3, a4] (.int 3 :: st) h Q := w_iconst dX9_rebase_117 rfl
theorem X9_rebase_118 : iWp d mX9_rebase 118 [a0, .int x, a2, a3, a4] st h Q = iWp d mX9_rebase 119 [a0, .int x, a2, a3, a4] (.int x :: st) h Q := w_iload_n dX9_rebase_118 rfl
theorem X9_rebase_119 (he : iEv mX9_newPatch [.ref p, .int x0, .int x1] h (some (.int rv)) h2) (ho : iObj h p 9 = true) : iWp 9 mX9_rebase 119 [a0, a1, a2, a3, a4] [.int x1, .int x0, .ref p] h Q = iWp 9 mX9_rebase 122 [a0, a1, a2, a3, a4] [.int rv] h2 Q := iWp_cV dX9_rebase_119 fK_9_251 rfl rfl ho (Nat.le_of_ble_eq_true rfl) (Nat.le_of_ble_eq_true rfl) rfl (Nat.le_of_ble_eq_true rfl) he rfl
theorem X9_rebase_122 : iWp d mX9_rebase 122 [a0, a1, a2, a3, a4] [.int x] h Q = Q (some (.int x)) h := w_ireti dX9_rebase_122 rfl
theorem I9_rebase {Q : Option Value → iHp → Prop} (hw : iWp 9 mX9_rebase 0 [.ref p, .int x0, .int x1, iU, iU] [] h Q) : ∃ r h1, iEv mX9_rebase [.ref p, .int x0, .int x1] h r h1 ∧ Q r h1 := iEv_of (by rfl) rfl hw
theorem J9_rebase {r : Option Value} {h1 : iHp} (hw : iWp 9 mX9_rebase 0 [.ref p, .int x0, .int x1, iU, iU] [] h (fun r' h' => r' = r ∧ h' = h1)) : iEv mX9_rebase [.ref p, .int x0, .int x1] h r h1 := iEv_ev (by rfl) rfl hw
theorem X9_restore_0 : iWp d mX9_restore 0 [.ref p, a1] st h Q = iWp d mX9_restore 1 [.ref p, a1] (.ref p :: st) h Q := w_aload_n dX9_restore_0 rfl
theorem X9_restore_1 : iWp d mX9_restore 1 [a0, a1] (.ref p :: st) h Q = iOb (iGet h p 9 30) (fun v => iWp d mX9_restore 4 [a0, a1] (v :: st) h Q) := w_getf dX9_restore_1 fF_9_295
theorem X9_restore_4 : iWp d mX9_restore 4 [a0, a1] (.int x :: st) h Q = if x = 0 then iWp d mX9_restore 7 [a0, a1] st h Q else iWp d mX9_restore 14 [a0, a1] st h Q := w_ifc_ne dX9_restore_4 rfl
theorem X9_restore_7 : iWp d mX9_restore 7 [.ref p, a1] st h Q = iWp d mX9_restore 8 [.ref p, a1] (.ref p :: st) h Q := w_aload_n dX9_restore_7 rfl
theorem X9_restore_8 : iWp d mX9_restore 8 [a0, a1] st h Q = iWp d mX9_restore 10 [a0, a1] (.int (-6) :: st) h Q := w_bipush dX9_restore_8 rfl
theorem X9_restore_10 (he : iEv mX9_no [.ref p, .int x0] h (some (.int rv)) h2) (ho : iObj h p 9 = true) : iWp 2 mX9_restore 10 [a0, a1] [.int x0, .ref p] h Q = iWp 2 mX9_restore 13 [a0, a1] [.int rv] h2 Q := iWp_cV dX9_restore_10 fK_9_99 rfl rfl ho (Nat.le_of_ble_eq_true rfl) (Nat.le_of_ble_eq_true rfl) rfl (Nat.le_of_ble_eq_true rfl) he rfl
theorem X9_restore_13 : iWp d mX9_restore 13 [a0, a1] [.int x] h Q = Q (some (.int x)) h := w_ireti dX9_restore_13 rfl
theorem X9_restore_14 : iWp d mX9_restore 14 [.ref p, a1] st h Q = iWp d mX9_restore 15 [.ref p, a1] (.ref p :: st) h Q := w_aload_n dX9_restore_14 rfl
theorem X9_restore_15 : iWp d mX9_restore 15 [.ref p, a1] st h Q = iWp d mX9_restore 16 [.ref p, a1] (.ref p :: st) h Q := w_aload_n dX9_restore_15 rfl
theorem X9_restore_16 : iWp d mX9_restore 16 [a0, a1] (.ref p :: st) h Q = iOb (iGet h p 9 31) (fun v => iWp d mX9_restore 19 [a0, a1] (v :: st) h Q) := w_getf dX9_restore_16 fF_9_299
theorem X9_restore_19 : iWp d mX9_restore 19 [a0, a1] (.int x :: .ref p :: st) h Q = iOb (iPut h p 9 0 (.int x)) (fun g => iWp d mX9_restore 22 [a0, a1] st g Q) := w_putf dX9_restore_19 fF_9_103 ⟨rfl, (Or.inl rfl)⟩
theorem X9_restore_22 : iWp d mX9_restore 22 [.ref p, a1] st h Q = iWp d mX9_restore 23 [.ref p, a1] (.ref p :: st) h Q := w_aload_n dX9_restore_22 rfl
theorem X9_restore_23 : iWp d mX9_restore 23 [.ref p, a1] st h Q = iWp d mX9_restore 24 [.ref p, a1] (.ref p :: st) h Q := w_aload_n dX9_restore_23 rfl
theorem X9_restore_24 : iWp d mX9_restore 24 [a0, a1] (.ref p :: st) h Q = iOb (iGet h p 9 36) (fun v => iWp d mX9_restore 27 [a0, a1] (v :: st) h Q) := w_getf dX9_restore_24 fF_9_302
theorem X9_restore_27 : iWp d mX9_restore 27 [a0, a1] (.int x :: .ref p :: st) h Q = iOb (iPut h p 9 5 (.int x)) (fun g => iWp d mX9_restore 30 [a0, a1] st g Q) := w_putf dX9_restore_27 fF_9_110 ⟨rfl, (Or.inl rfl)⟩
theorem X9_restore_30 : iWp d mX9_restore 30 [.ref p, a1] st h Q = iWp d mX9_restore 31 [.ref p, a1] (.ref p :: st) h Q := w_aload_n dX9_restore_30 rfl
theorem X9_restore_31 : iWp d mX9_restore 31 [.ref p, a1] st h Q = iWp d mX9_restore 32 [.ref p, a1] (.ref p :: st) h Q := w_aload_n dX9_restore_31 rfl
theorem X9_restore_32 : iWp d mX9_restore 32 [a0, a1] (.ref p :: st) h Q = iOb (iGet h p 9 40) (fun v => iWp d mX9_restore 35 [a0, a1] (v :: st) h Q) := w_getf dX9_restore_32 fF_9_305
theorem X9_restore_35 : iWp d mX9_restore 35 [a0, a1] (.int x :: .ref p :: st) h Q = iOb (iPut h p 9 10 (.int x)) (fun g => iWp d mX9_restore 38 [a0, a1] st g Q) := w_putf dX9_restore_35 fF_9_92 ⟨rfl, (Or.inl rfl)⟩
theorem X9_restore_38 : iWp d mX9_restore 38 [a0, a1] st h Q = iWp d mX9_restore 39 [a0, a1] (.int 0 :: st) h Q := w_iconst dX9_restore_38 rfl
theorem X9_restore_39 : iWp d mX9_restore 39 [a0, a1] (.int x :: st) h Q = iWp d mX9_restore 40 [iClr a0, .int x] st h Q := w_istore_n dX9_restore_39 (Nat.le_of_ble_eq_true rfl) rfl
theorem X9_restore_40 : iWp d mX9_restore 40 [a0, .int x] st h Q = iWp d mX9_restore 41 [a0, .int x] (.int x :: st) h Q := w_iload_n dX9_restore_40 rfl
theorem X9_restore_41 : iWp d mX9_restore 41 [a0, a1] st h Q = iWp d mX9_restore 43 [a0, a1] (.int 16 :: st) h Q := w_bipush dX9_restore_41 rfl
theorem X9_restore_43 : iWp d mX9_restore 43 [a0, a1] (.int y :: .int x :: st) h Q = if y ≤ x then iWp d mX9_restore 64 [a0, a1] st h Q else iWp d mX9_restore 46 [a0, a1] st h Q := w_icmp_ge dX9_restore_43 rfl
theorem X9_restore_46 : iWp d mX9_restore 46 [.ref p, a1] st h Q = iWp d mX9_restore 47 [.ref p, a1] (.ref p :: st) h Q := w_aload_n dX9_restore_46 rfl
theorem X9_restore_47 : iWp d mX9_restore 47 [a0, a1] (.ref p :: st) h Q = iOb (iGet h p 9 1) (fun v => iWp d mX9_restore 50 [a0, a1] (v :: st) h Q) := w_getf dX9_restore_47 fF_9_7
theorem X9_restore_50 : iWp d mX9_restore 50 [a0, .int x] st h Q = iWp d mX9_restore 51 [a0, .int x] (.int x :: st) h Q := w_iload_n dX9_restore_50 rfl
theorem X9_restore_51 : iWp d mX9_restore 51 [.ref p, a1] st h Q = iWp d mX9_restore 52 [.ref p, a1] (.ref p :: st) h Q := w_aload_n dX9_restore_51 rfl
theorem X9_restore_52 : iWp d mX9_restore 52 [a0, a1] (.ref p :: st) h Q = iOb (iGet h p 9 32) (fun v => iWp d mX9_restore 55 [a0, a1] (v :: st) h Q) := w_getf dX9_restore_52 fF_9_71
theorem X9_restore_55 : iWp d mX9_restore 55 [a0, .int x] st h Q = iWp d mX9_restore 56 [a0, .int x] (.int x :: st) h Q := w_iload_n dX9_restore_55 rfl
theorem X9_restore_56 : iWp d mX9_restore 56 [a0, a1] (.int x :: .ref p :: st) h Q = iOb (iLdI h p x) (fun v => iWp d mX9_restore 57 [a0, a1] (.int v :: st) h Q) := w_iaload dX9_restore_56
theorem X9_restore_57 : iWp d mX9_restore 57 [a0, a1] (.int y :: .int x :: .ref p :: st) h Q = iOb (iStI h p x y) (fun g => iWp d mX9_restore 58 [a0, a1] st g Q) := w_iastore dX9_restore_57
theorem X9_restore_58 : iWp d mX9_restore 58 [a0, .int x] st h Q = iWp d mX9_restore 61 [iClr a0, .int (x + 1)] st h Q := w_iinc dX9_restore_58 rfl (Nat.le_of_ble_eq_true rfl) rfl
theorem X9_restore_61 : iWp d mX9_restore 61 [a0, a1] st h Q = iWp d mX9_restore 40 [a0, a1] st h Q := w_goto dX9_restore_61 rfl
theorem X9_restore_64 : iWp d mX9_restore 64 [a0, a1] st h Q = iWp d mX9_restore 65 [a0, a1] (.int 0 :: st) h Q := w_iconst dX9_restore_64 rfl
theorem X9_restore_65 : iWp d mX9_restore 65 [a0, a1] (.int x :: st) h Q = iWp d mX9_restore 66 [iClr a0, .int x] st h Q := w_istore_n dX9_restore_65 (Nat.le_of_ble_eq_true rfl) rfl
theorem X9_restore_66 : iWp d mX9_restore 66 [a0, .int x] st h Q = iWp d mX9_restore 67 [a0, .int x] (.int x :: st) h Q := w_iload_n dX9_restore_66 rfl
theorem X9_restore_67 : iWp d mX9_restore 67 [a0, a1] st h Q = iWp d mX9_restore 70 [a0, a1] (.int 1024 :: st) h Q := w_sipush dX9_restore_67 rfl
theorem X9_restore_70 : iWp d mX9_restore 70 [a0, a1] (.int y :: .int x :: st) h Q = if y ≤ x then iWp d mX9_restore 115 [a0, a1] st h Q else iWp d mX9_restore 73 [a0, a1] st h Q := w_icmp_ge dX9_restore_70 rfl
theorem X9_restore_73 : iWp d mX9_restore 73 [.ref p, a1] st h Q = iWp d mX9_restore 74 [.ref p, a1] (.ref p :: st) h Q := w_aload_n dX9_restore_73 rfl
theorem X9_restore_74 : iWp d mX9_restore 74 [a0, a1] (.ref p :: st) h Q = iOb (iGet h p 9 2) (fun v => iWp d mX9_restore 77 [a0, a1] (v :: st) h Q) := w_getf dX9_restore_74 fF_9_13
theorem X9_restore_77 : iWp d mX9_restore 77 [a0, .int x] st h Q = iWp d mX9_restore 78 [a0, .int x] (.int x :: st) h Q := w_iload_n dX9_restore_77 rfl
theorem X9_restore_78 : iWp d mX9_restore 78 [.ref p, a1] st h Q = iWp d mX9_restore 79 [.ref p, a1] (.ref p :: st) h Q := w_aload_n dX9_restore_78 rfl
theorem X9_restore_79 : iWp d mX9_restore 79 [a0, a1] (.ref p :: st) h Q = iOb (iGet h p 9 33) (fun v => iWp d mX9_restore 82 [a0, a1] (v :: st) h Q) := w_getf dX9_restore_79 fF_9_74
theorem X9_restore_82 : iWp d mX9_restore 82 [a0, .int x] st h Q = iWp d mX9_restore 83 [a0, .int x] (.int x :: st) h Q := w_iload_n dX9_restore_82 rfl
theorem X9_restore_83 : iWp d mX9_restore 83 [a0, a1] (.int x :: .ref p :: st) h Q = iOb (iLdI h p x) (fun v => iWp d mX9_restore 84 [a0, a1] (.int v :: st) h Q) := w_iaload dX9_restore_83
theorem X9_restore_84 : iWp d mX9_restore 84 [a0, a1] (.int y :: .int x :: .ref p :: st) h Q = iOb (iStI h p x y) (fun g => iWp d mX9_restore 85 [a0, a1] st g Q) := w_iastore dX9_restore_84
theorem X9_restore_85 : iWp d mX9_restore 85 [.ref p, a1] st h Q = iWp d mX9_restore 86 [.ref p, a1] (.ref p :: st) h Q := w_aload_n dX9_restore_85 rfl
theorem X9_restore_86 : iWp d mX9_restore 86 [a0, a1] (.ref p :: st) h Q = iOb (iGet h p 9 3) (fun v => iWp d mX9_restore 89 [a0, a1] (v :: st) h Q) := w_getf dX9_restore_86 fF_9_16
theorem X9_restore_89 : iWp d mX9_restore 89 [a0, .int x] st h Q = iWp d mX9_restore 90 [a0, .int x] (.int x :: st) h Q := w_iload_n dX9_restore_89 rfl
theorem X9_restore_90 : iWp d mX9_restore 90 [.ref p, a1] st h Q = iWp d mX9_restore 91 [.ref p, a1] (.ref p :: st) h Q := w_aload_n dX9_restore_90 rfl
theorem X9_restore_91 : iWp d mX9_restore 91 [a0, a1] (.ref p :: st) h Q = iOb (iGet h p 9 34) (fun v => iWp d mX9_restore 94 [a0, a1] (v :: st) h Q) := w_getf dX9_restore_91 fF_9_77
theorem X9_restore_94 : iWp d mX9_restore 94 [a0, .int x] st h Q = iWp d mX9_restore 95 [a0, .int x] (.int x :: st) h Q := w_iload_n dX9_restore_94 rfl
theorem X9_restore_95 : iWp d mX9_restore 95 [a0, a1] (.int x :: .ref p :: st) h Q = iOb (iLdI h p x) (fun v => iWp d mX9_restore 96 [a0, a1] (.int v :: st) h Q) := w_iaload dX9_restore_95
theorem X9_restore_96 : iWp d mX9_restore 96 [a0, a1] (.int y :: .int x :: .ref p :: st) h Q = iOb (iStI h p x y) (fun g => iWp d mX9_restore 97 [a0, a1] st g Q) := w_iastore dX9_restore_96
theorem X9_restore_97 : iWp d mX9_restore 97 [.ref p, a1] st h Q = iWp d mX9_restore 98 [.ref p, a1] (.ref p :: st) h Q := w_aload_n dX9_restore_97 rfl
theorem X9_restore_98 : iWp d mX9_restore 98 [a0, a1] (.ref p :: st) h Q = iOb (iGet h p 9 4) (fun v => iWp d mX9_restore 101 [a0, a1] (v :: st) h Q) := w_getf dX9_restore_98 fF_9_19
theorem X9_restore_101 : iWp d mX9_restore 101 [a0, .int x] st h Q = iWp d mX9_restore 102 [a0, .int x] (.int x :: st) h Q := w_iload_n dX9_restore_101 rfl
theorem X9_restore_102 : iWp d mX9_restore 102 [.ref p, a1] st h Q = iWp d mX9_restore 103 [.ref p, a1] (.ref p :: st) h Q := w_aload_n dX9_restore_102 rfl
theorem X9_restore_103 : iWp d mX9_restore 103 [a0, a1] (.ref p :: st) h Q = iOb (iGet h p 9 35) (fun v => iWp d mX9_restore 106 [a0, a1] (v :: st) h Q) := w_getf dX9_restore_103 fF_9_80
theorem X9_restore_106 : iWp d mX9_restore 106 [a0, .int x] st h Q = iWp d mX9_restore 107 [a0, .int x] (.int x :: st) h Q := w_iload_n dX9_restore_106 rfl
theorem X9_restore_107 : iWp d mX9_restore 107 [a0, a1] (.int x :: .ref p :: st) h Q = iOb (iLdI h p x) (fun v => iWp d mX9_restore 108 [a0, a1] (.int v :: st) h Q) := w_iaload dX9_restore_107
theorem X9_restore_108 : iWp d mX9_restore 108 [a0, a1] (.int y :: .int x :: .ref p :: st) h Q = iOb (iStI h p x y) (fun g => iWp d mX9_restore 109 [a0, a1] st g Q) := w_iastore dX9_restore_108
theorem X9_restore_109 : iWp d mX9_restore 109 [a0, .int x] st h Q = iWp d mX9_restore 112 [iClr a0, .int (x + 1)] st h Q := w_iinc dX9_restore_109 rfl (Nat.le_of_ble_eq_true rfl) rfl
theorem X9_restore_112 : iWp d mX9_restore 112 [a0, a1] st h Q = iWp d mX9_restore 66 [a0, a1] st h Q := w_goto dX9_restore_112 rfl
theorem X9_restore_115 : iWp d mX9_restore 115 [a0, a1] st h Q = iWp d mX9_restore 116 [a0, a1] (.int 0 :: st) h Q := w_iconst dX9_restore_115 rfl
theorem X9_restore_116 : iWp d mX9_restore 116 [a0, a1] (.int x :: st) h Q = iWp d mX9_restore 117 [iClr a0, .int x] st h Q := w_istore_n dX9_restore_116 (Nat.le_of_ble_eq_true rfl) rfl
theorem X9_restore_117 : iWp d mX9_restore 117 [a0, .int x] st h Q = iWp d mX9_restore 118 [a0, .int x] (.int x :: st) h Q := w_iload_n dX9_restore_117 rfl
theorem X9_restore_118 : iWp d mX9_restore 118 [a0, a1] st h Q = iWp d mX9_restore 120 [a0, a1] (.int 80 :: st) h Q := w_bipush dX9_restore_118 rfl
theorem X9_restore_120 : iWp d mX9_restore 120 [a0, a1] (.int y :: .int x :: st) h Q = if y ≤ x then iWp d mX9_restore 141 [a0, a1] st h Q else iWp d mX9_restore 123 [a0, a1] st h Q := w_icmp_ge dX9_restore_120 rfl
theorem X9_restore_123 : iWp d mX9_restore 123 [.ref p, a1] st h Q = iWp d mX9_restore 124 [.ref p, a1] (.ref p :: st) h Q := w_aload_n dX9_restore_123 rfl
theorem X9_restore_124 : iWp d mX9_restore 124 [a0, a1] (.ref p :: st) h Q = iOb (iGet h p 9 7) (fun v => iWp d mX9_restore 127 [a0, a1] (v :: st) h Q) := w_getf dX9_restore_124 fF_9_22
theorem X9_restore_127 : iWp d mX9_restore 127 [a0, .int x] st h Q = iWp d mX9_restore 128 [a0, .int x] (.int x :: st) h Q := w_iload_n dX9_restore_127 rfl
theorem X9_restore_128 : iWp d mX9_restore 128 [.ref p, a1] st h Q = iWp d mX9_restore 129 [.ref p, a1] (.ref p :: st) h Q := w_aload_n dX9_restore_128 rfl
theorem X9_restore_129 : iWp d mX9_restore 129 [a0, a1] (.ref p :: st) h Q = iOb (iGet h p 9 37) (fun v => iWp d mX9_restore 132 [a0, a1] (v :: st) h Q) := w_getf dX9_restore_129 fF_9_83
theorem X9_restore_132 : iWp d mX9_restore 132 [a0, .int x] st h Q = iWp d mX9_restore 133 [a0, .int x] (.int x :: st) h Q := w_iload_n dX9_restore_132 rfl
theorem X9_restore_133 : iWp d mX9_restore 133 [a0, a1] (.int x :: .ref p :: st) h Q = iOb (iLdI h p x) (fun v => iWp d mX9_restore 134 [a0, a1] (.int v :: st) h Q) := w_iaload dX9_restore_133
theorem X9_restore_134 : iWp d mX9_restore 134 [a0, a1] (.int y :: .int x :: .ref p :: st) h Q = iOb (iStI h p x y) (fun g => iWp d mX9_restore 135 [a0, a1] st g Q) := w_iastore dX9_restore_134
theorem X9_restore_135 : iWp d mX9_restore 135 [a0, .int x] st h Q = iWp d mX9_restore 138 [iClr a0, .int (x + 1)] st h Q := w_iinc dX9_restore_135 rfl (Nat.le_of_ble_eq_true rfl) rfl
theorem X9_restore_138 : iWp d mX9_restore 138 [a0, a1] st h Q = iWp d mX9_restore 117 [a0, a1] st h Q := w_goto dX9_restore_138 rfl
theorem X9_restore_141 : iWp d mX9_restore 141 [a0, a1] st h Q = iWp d mX9_restore 142 [a0, a1] (.int 0 :: st) h Q := w_iconst dX9_restore_141 rfl
theorem X9_restore_142 : iWp d mX9_restore 142 [a0, a1] (.int x :: st) h Q = iWp d mX9_restore 143 [iClr a0, .int x] st h Q := w_istore_n dX9_restore_142 (Nat.le_of_ble_eq_true rfl) rfl
theorem X9_restore_143 : iWp d mX9_restore 143 [a0, .int x] st h Q = iWp d mX9_restore 144 [a0, .int x] (.int x :: st) h Q := w_iload_n dX9_restore_143 rfl
theorem X9_restore_144 : iWp d mX9_restore 144 [a0, a1] st h Q = iWp d mX9_restore 147 [a0, a1] (.int 13440 :: st) h Q := w_sipush dX9_restore_144 rfl
theorem X9_restore_147 : iWp d mX9_restore 147 [a0, a1] (.int y :: .int x :: st) h Q = if y ≤ x then iWp d mX9_restore 168 [a0, a1] st h Q else iWp d mX9_restore 150 [a0, a1] st h Q := w_icmp_ge dX9_restore_147 rfl
theorem X9_restore_150 : iWp d mX9_restore 150 [.ref p, a1] st h Q = iWp d mX9_restore 151 [.ref p, a1] (.ref p :: st) h Q := w_aload_n dX9_restore_150 rfl
theorem X9_restore_151 : iWp d mX9_restore 151 [a0, a1] (.ref p :: st) h Q = iOb (iGet h p 9 8) (fun v => iWp d mX9_restore 154 [a0, a1] (v :: st) h Q) := w_getf dX9_restore_151 fF_9_25
theorem X9_restore_154 : iWp d mX9_restore 154 [a0, .int x] st h Q = iWp d mX9_restore 155 [a0, .int x] (.int x :: st) h Q := w_iload_n dX9_restore_154 rfl
theorem X9_restore_155 : iWp d mX9_restore 155 [.ref p, a1] st h Q = iWp d mX9_restore 156 [.ref p, a1] (.ref p :: st) h Q := w_aload_n dX9_restore_155 rfl
theorem X9_restore_156 : iWp d mX9_restore 156 [a0, a1] (.ref p :: st) h Q = iOb (iGet h p 9 38) (fun v => iWp d mX9_restore 159 [a0, a1] (v :: st) h Q) := w_getf dX9_restore_156 fF_9_86
theorem X9_restore_159 : iWp d mX9_restore 159 [a0, .int x] st h Q = iWp d mX9_restore 160 [a0, .int x] (.int x :: st) h Q := w_iload_n dX9_restore_159 rfl
theorem X9_restore_160 : iWp d mX9_restore 160 [a0, a1] (.int x :: .ref p :: st) h Q = iOb (iLdI h p x) (fun v => iWp d mX9_restore 161 [a0, a1] (.int v :: st) h Q) := w_iaload dX9_restore_160
theorem X9_restore_161 : iWp d mX9_restore 161 [a0, a1] (.int y :: .int x :: .ref p :: st) h Q = iOb (iStI h p x y) (fun g => iWp d mX9_restore 162 [a0, a1] st g Q) := w_iastore dX9_restore_161
theorem X9_restore_162 : iWp d mX9_restore 162 [a0, .int x] st h Q = iWp d mX9_restore 165 [iClr a0, .int (x + 1)] st h Q := w_iinc dX9_restore_162 rfl (Nat.le_of_ble_eq_true rfl) rfl
theorem X9_restore_165 : iWp d mX9_restore 165 [a0, a1] st h Q = iWp d mX9_restore 143 [a0, a1] st h Q := w_goto dX9_restore_165 rfl
theorem X9_restore_168 : iWp d mX9_restore 168 [a0, a1] st h Q = iWp d mX9_restore 169 [a0, a1] (.int 0 :: st) h Q := w_iconst dX9_restore_168 rfl
theorem X9_restore_169 : iWp d mX9_restore 169 [a0, a1] (.int x :: st) h Q = iWp d mX9_restore 170 [iClr a0, .int x] st h Q := w_istore_n dX9_restore_169 (Nat.le_of_ble_eq_true rfl) rfl
theorem X9_restore_170 : iWp d mX9_restore 170 [a0, .int x] st h Q = iWp d mX9_restore 171 [a0, .int x] (.int x :: st) h Q := w_iload_n dX9_restore_170 rfl
theorem X9_restore_171 : iWp d mX9_restore 171 [a0, a1] st h Q = iWp d mX9_restore 174 [a0, a1] (.int 3840 :: st) h Q := w_sipush dX9_restore_171 rfl
theorem X9_restore_174 : iWp d mX9_restore 174 [a0, a1] (.int y :: .int x :: st) h Q = if y ≤ x then iWp d mX9_restore 195 [a0, a1] st h Q else iWp d mX9_restore 177 [a0, a1] st h Q := w_icmp_ge dX9_restore_174 rfl
theorem X9_restore_177 : iWp d mX9_restore 177 [.ref p, a1] st h Q = iWp d mX9_restore 178 [.ref p, a1] (.ref p :: st) h Q := w_aload_n dX9_restore_177 rfl
theorem X9_restore_178 : iWp d mX9_restore 178 [a0, a1] (.ref p :: st) h Q = iOb (iGet h p 9 9) (fun v => iWp d mX9_restore 181 [a0, a1] (v :: st) h Q) := w_getf dX9_restore_178 fF_9_28
theorem X9_restore_181 : iWp d mX9_restore 181 [a0, .int x] st h Q = iWp d mX9_restore 182 [a0, .int x] (.int x :: st) h Q := w_iload_n dX9_restore_181 rfl
theorem X9_restore_182 : iWp d mX9_restore 182 [.ref p, a1] st h Q = iWp d mX9_restore 183 [.ref p, a1] (.ref p :: st) h Q := w_aload_n dX9_restore_182 rfl
theorem X9_restore_183 : iWp d mX9_restore 183 [a0, a1] (.ref p :: st) h Q = iOb (iGet h p 9 39) (fun v => iWp d mX9_restore 186 [a0, a1] (v :: st) h Q) := w_getf dX9_restore_183 fF_9_89
theorem X9_restore_186 : iWp d mX9_restore 186 [a0, .int x] st h Q = iWp d mX9_restore 187 [a0, .int x] (.int x :: st) h Q := w_iload_n dX9_restore_186 rfl
theorem X9_restore_187 : iWp d mX9_restore 187 [a0, a1] (.int x :: .ref p :: st) h Q = iOb (iLdI h p x) (fun v => iWp d mX9_restore 188 [a0, a1] (.int v :: st) h Q) := w_iaload dX9_restore_187
theorem X9_restore_188 : iWp d mX9_restore 188 [a0, a1] (.int y :: .int x :: .ref p :: st) h Q = iOb (iStI h p x y) (fun g => iWp d mX9_restore 189 [a0, a1] st g Q) := w_iastore dX9_restore_188
theorem X9_restore_189 : iWp d mX9_restore 189 [a0, .int x] st h Q = iWp d mX9_restore 192 [iClr a0, .int (x + 1)] st h Q := w_iinc dX9_restore_189 rfl (Nat.le_of_ble_eq_true rfl) rfl
theorem X9_restore_192 : iWp d mX9_restore 192 [a0, a1] st h Q = iWp d mX9_restore 170 [a0, a1] st h Q := w_goto dX9_restore_192 rfl
theorem X9_restore_195 : iWp d mX9_restore 195 [a0, a1] st h Q = iWp d mX9_restore 196 [a0, a1] (.int 0 :: st) h Q := w_iconst dX9_restore_195 rfl
theorem X9_restore_196 : iWp d mX9_restore 196 [a0, a1] (.int x :: st) h Q = iWp d mX9_restore 197 [iClr a0, .int x] st h Q := w_istore_n dX9_restore_196 (Nat.le_of_ble_eq_true rfl) rfl
theorem X9_restore_197 : iWp d mX9_restore 197 [a0, .int x] st h Q = iWp d mX9_restore 198 [a0, .int x] (.int x :: st) h Q := w_iload_n dX9_restore_197 rfl
theorem X9_restore_198 : iWp d mX9_restore 198 [a0, a1] st h Q = iWp d mX9_restore 200 [a0, a1] (.int 8 :: st) h Q := w_bipush dX9_restore_198 rfl
theorem X9_restore_200 : iWp d mX9_restore 200 [a0, a1] (.int y :: .int x :: st) h Q = if y ≤ x then iWp d mX9_restore 237 [a0, a1] st h Q else iWp d mX9_restore 203 [a0, a1] st h Q := w_icmp_ge dX9_restore_200 rfl
theorem X9_restore_203 : iWp d mX9_restore 203 [.ref p, a1] st h Q = iWp d mX9_restore 204 [.ref p, a1] (.ref p :: st) h Q := w_aload_n dX9_restore_203 rfl
theorem X9_restore_204 : iWp d mX9_restore 204 [a0, .int x] st h Q = iWp d mX9_restore 205 [a0, .int x] (.int x :: st) h Q := w_iload_n dX9_restore_204 rfl
theorem X9_restore_205 (he : iEv mX9_isRow [.ref p, .int x0] h (some (.int rv)) h2) (ho : iObj h p 9 = true) : iWp 2 mX9_restore 205 [a0, a1] [.int x0, .ref p] h Q = iWp 2 mX9_restore 208 [a0, a1] [.int rv] h2 Q := iWp_cV dX9_restore_205 fK_9_113 rfl rfl ho (Nat.le_of_ble_eq_true rfl) (Nat.le_of_ble_eq_true rfl) rfl (Nat.le_of_ble_eq_true rfl) he rfl
theorem X9_restore_208 : iWp d mX9_restore 208 [a0, a1] (.int x :: st) h Q = if x = 0 then iWp d mX9_restore 211 [a0, a1] st h Q else iWp d mX9_restore 231 [a0, a1] st h Q := w_ifc_ne dX9_restore_208 rfl
theorem X9_restore_211 : iWp d mX9_restore 211 [.ref p, a1] st h Q = iWp d mX9_restore 212 [.ref p, a1] (.ref p :: st) h Q := w_aload_n dX9_restore_211 rfl
theorem X9_restore_212 : iWp d mX9_restore 212 [a0, a1] (.ref p :: st) h Q = iOb (iGet h p 9 11) (fun v => iWp d mX9_restore 215 [a0, a1] (v :: st) h Q) := w_getf dX9_restore_212 fF_9_31
theorem X9_restore_215 : iWp d mX9_restore 215 [a0, .int x] st h Q = iWp d mX9_restore 216 [a0, .int x] (.int x :: st) h Q := w_iload_n dX9_restore_215 rfl
theorem X9_restore_216 : iWp d mX9_restore 216 [a0, a1] (.int x :: .ref p :: st) h Q = iOb (iLdI h p x) (fun v => iWp d mX9_restore 217 [a0, a1] (.int v :: st) h Q) := w_iaload dX9_restore_216
theorem X9_restore_217 : iWp d mX9_restore 217 [.ref p, a1] st h Q = iWp d mX9_restore 218 [.ref p, a1] (.ref p :: st) h Q := w_aload_n dX9_restore_217 rfl
theorem X9_restore_218 : iWp d mX9_restore 218 [a0, a1] (.ref p :: st) h Q = iOb (iGet h p 9 5) (fun v => iWp d mX9_restore 221 [a0, a1] (v :: st) h Q) := w_getf dX9_restore_218 fF_9_110
theorem X9_restore_221 : iWp d mX9_restore 221 [a0, a1] (.int y :: .int x :: st) h Q = if x < y then iWp d mX9_restore 231 [a0, a1] st h Q else iWp d mX9_restore 224 [a0, a1] st h Q := w_icmp_lt dX9_restore_221 rfl
theorem X9_restore_224 : iWp d mX9_restore 224 [.ref p, a1] st h Q = iWp d mX9_restore 225 [.ref p, a1] (.ref p :: st) h Q := w_aload_n dX9_restore_224 rfl
theorem X9_restore_225 : iWp d mX9_restore 225 [a0, a1] (.ref p :: st) h Q = iOb (iGet h p 9 11) (fun v => iWp d mX9_restore 228 [a0, a1] (v :: st) h Q) := w_getf dX9_restore_225 fF_9_31
theorem X9_restore_228 : iWp d mX9_restore 228 [a0, .int x] st h Q = iWp d mX9_restore 229 [a0, .int x] (.int x :: st) h Q := w_iload_n dX9_restore_228 rfl
theorem X9_restore_229 : iWp d mX9_restore 229 [a0, a1] st h Q = iWp d mX9_restore 230 [a0, a1] (.int (-1) :: st) h Q := w_iconst dX9_restore_229 rfl
theorem X9_restore_230 : iWp d mX9_restore 230 [a0, a1] (.int y :: .int x :: .ref p :: st) h Q = iOb (iStI h p x y) (fun g => iWp d mX9_restore 231 [a0, a1] st g Q) := w_iastore dX9_restore_230
theorem X9_restore_231 : iWp d mX9_restore 231 [a0, .int x] st h Q = iWp d mX9_restore 234 [iClr a0, .int (x + 1)] st h Q := w_iinc dX9_restore_231 rfl (Nat.le_of_ble_eq_true rfl) rfl
theorem X9_restore_234 : iWp d mX9_restore 234 [a0, a1] st h Q = iWp d mX9_restore 197 [a0, a1] st h Q := w_goto dX9_restore_234 rfl
theorem X9_restore_237 : iWp d mX9_restore 237 [.ref p, a1] st h Q = iWp d mX9_restore 238 [.ref p, a1] (.ref p :: st) h Q := w_aload_n dX9_restore_237 rfl
theorem X9_restore_238 : iWp d mX9_restore 238 [a0, a1] (.ref p :: st) h Q = iOb (iGet h p 9 0) (fun v => iWp d mX9_restore 241 [a0, a1] (v :: st) h Q) := w_getf dX9_restore_238 fF_9_103
theorem X9_restore_241 : iWp d mX9_restore 241 [a0, a1] [.int x] h Q = Q (some (.int x)) h := w_ireti dX9_restore_241 rfl
theorem I9_restore {Q : Option Value → iHp → Prop} (hw : iWp 2 mX9_restore 0 [.ref p, iU] [] h Q) : ∃ r h1, iEv mX9_restore [.ref p] h r h1 ∧ Q r h1 := iEv_of (by rfl) rfl hw
theorem J9_restore {r : Option Value} {h1 : iHp} (hw : iWp 2 mX9_restore 0 [.ref p, iU] [] h (fun r' h' => r' = r ∧ h' = h1)) : iEv mX9_restore [.ref p] h r h1 := iEv_ev (by rfl) rfl hw
theorem X9_row_0 : iWp d mX9_row 0 [a0, .int x, a2, a3, a4] st h Q = iWp d mX9_row 1 [a0, .int x, a2, a3, a4] (.int x :: st) h Q := w_iload_n dX9_row_0 rfl
theorem X9_row_1 : iWp d mX9_row 1 [a0, a1, a2, a3, a4] st h Q = iWp d mX9_row 2 [a0, a1, a2, a3, a4] (.int 0 :: st) h Q := w_iconst dX9_row_1 rfl
theorem X9_row_2 : iWp d mX9_row 2 [a0, a1, a2, a3, a4] st h Q = iWp d mX9_row 4 [a0, a1, a2, a3, a4] (.int 7 :: st) h Q := w_bipush dX9_row_2 rfl
theorem X9_row_4 (he : iEv mX9_within [.int x0, .int x1, .int x2] h (some (.int rv)) h2) : iWp 2 mX9_row 4 [a0, a1, a2, a3, a4] [.int x2, .int x1, .int x0] h Q = iWp 2 mX9_row 7 [a0, a1, a2, a3, a4] [.int rv] h2 Q := iWp_cS dX9_row_4 fK_9_106 rfl rfl (Nat.le_of_ble_eq_true rfl) (Nat.le_of_ble_eq_true rfl) rfl (Nat.le_of_ble_eq_true rfl) he rfl
theorem X9_row_7 : iWp d mX9_row 7 [a0, a1, a2, a3, a4] (.int x :: st) h Q = if x = 0 then iWp d mX9_row 10 [a0, a1, a2, a3, a4] st h Q else iWp d mX9_row 16 [a0, a1, a2, a3, a4] st h Q := w_ifc_ne dX9_row_7 rfl
theorem X9_row_10 : iWp d mX9_row 10 [.ref p, a1, a2, a3, a4] st h Q = iWp d mX9_row 11 [.ref p, a1, a2, a3, a4] (.ref p :: st) h Q := w_aload_n dX9_row_10 rfl
theorem X9_row_11 : iWp d mX9_row 11 [a0, a1, a2, a3, a4] st h Q = iWp d mX9_row 12 [a0, a1, a2, a3, a4] (.int (-1) :: st) h Q := w_iconst dX9_row_11 rfl
theorem X9_row_12 (he : iEv mX9_no [.ref p, .int x0] h (some (.int rv)) h2) (ho : iObj h p 9 = true) : iWp 2 mX9_row 12 [a0, a1, a2, a3, a4] [.int x0, .ref p] h Q = iWp 2 mX9_row 15 [a0, a1, a2, a3, a4] [.int rv] h2 Q := iWp_cV dX9_row_12 fK_9_99 rfl rfl ho (Nat.le_of_ble_eq_true rfl) (Nat.le_of_ble_eq_true rfl) rfl (Nat.le_of_ble_eq_true rfl) he rfl
theorem X9_row_15 : iWp d mX9_row 15 [a0, a1, a2, a3, a4] [.int x] h Q = Q (some (.int x)) h := w_ireti dX9_row_15 rfl
theorem X9_row_16 : iWp d mX9_row 16 [a0, a1, a2, .int x, a4] st h Q = iWp d mX9_row 17 [a0, a1, a2, .int x, a4] (.int x :: st) h Q := w_iload_n dX9_row_16 rfl
theorem X9_row_17 : iWp d mX9_row 17 [a0, a1, a2, a3, a4] (.int x :: st) h Q = if 0 ≤ x then iWp d mX9_row 27 [a0, a1, a2, a3, a4] st h Q else iWp d mX9_row 20 [a0, a1, a2, a3, a4] st h Q := w_ifc_ge dX9_row_17 rfl
theorem X9_row_20 : iWp d mX9_row 20 [.ref p, a1, a2, a3, a4] st h Q = iWp d mX9_row 21 [.ref p, a1, a2, a3, a4] (.ref p :: st) h Q := w_aload_n dX9_row_20 rfl
theorem X9_row_21 : iWp d mX9_row 21 [a0, a1, a2, a3, a4] st h Q = iWp d mX9_row 23 [a0, a1, a2, a3, a4] (.int (-4) :: st) h Q := w_bipush dX9_row_21 rfl
theorem X9_row_23 (he : iEv mX9_no [.ref p, .int x0] h (some (.int rv)) h2) (ho : iObj h p 9 = true) : iWp 2 mX9_row 23 [a0, a1, a2, a3, a4] [.int x0, .ref p] h Q = iWp 2 mX9_row 26 [a0, a1, a2, a3, a4] [.int rv] h2 Q := iWp_cV dX9_row_23 fK_9_99 rfl rfl ho (Nat.le_of_ble_eq_true rfl) (Nat.le_of_ble_eq_true rfl) rfl (Nat.le_of_ble_eq_true rfl) he rfl
theorem X9_row_26 : iWp d mX9_row 26 [a0, a1, a2, a3, a4] [.int x] h Q = Q (some (.int x)) h := w_ireti dX9_row_26 rfl
theorem X9_row_27 : iWp d mX9_row 27 [a0, a1, .int x, a3, a4] st h Q = iWp d mX9_row 28 [a0, a1, .int x, a3, a4] (.int x :: st) h Q := w_iload_n dX9_row_27 rfl
theorem X9_row_28 : iWp d mX9_row 28 [a0, a1, a2, a3, a4] st h Q = iWp d mX9_row 29 [a0, a1, a2, a3, a4] (.int 0 :: st) h Q := w_iconst dX9_row_28 rfl
theorem X9_row_29 : iWp d mX9_row 29 [a0, a1, a2, a3, a4] st h Q = iWp d mX9_row 30 [a0, a1, a2, a3, a4] (.int 3 :: st) h Q := w_iconst dX9_row_29 rfl
theorem X9_row_30 (he : iEv mX9_within [.int x0, .int x1, .int x2] h (some (.int rv)) h2) : iWp 2 mX9_row 30 [a0, a1, a2, a3, a4] [.int x2, .int x1, .int x0] h Q = iWp 2 mX9_row 33 [a0, a1, a2, a3, a4] [.int rv] h2 Q := iWp_cS dX9_row_30 fK_9_106 rfl rfl (Nat.le_of_ble_eq_true rfl) (Nat.le_of_ble_eq_true rfl) rfl (Nat.le_of_ble_eq_true rfl) he rfl
theorem X9_row_33 : iWp d mX9_row 33 [a0, a1, a2, a3, a4] (.int x :: st) h Q = if x = 0 then iWp d mX9_row 36 [a0, a1, a2, a3, a4] st h Q else iWp d mX9_row 43 [a0, a1, a2, a3, a4] st h Q := w_ifc_ne dX9_row_33 rfl
theorem X9_row_36 : iWp d mX9_row 36 [.ref p, a1, a2, a3, a4] st h Q = iWp d mX9_row 37 [.ref p, a1, a2, a3, a4] (.ref p :: st) h Q := w_aload_n dX9_row_36 rfl
theorem X9_row_37 : iWp d mX9_row 37 [a0, a1, a2, a3, a4] st h Q = iWp d mX9_row 39 [a0, a1, a2, a3, a4] (.int (-6) :: st) h Q := w_bipush dX9_row_37 rfl
theorem X9_row_39 (he : iEv mX9_no [.ref p, .int x0] h (some (.int rv)) h2) (ho : iObj h p 9 = true) : iWp 2 mX9_row 39 [a0, a1, a2, a3, a4] [.int x0, .ref p] h Q = iWp 2 mX9_row 42 [a0, a1, a2, a3, a4] [.int rv] h2 Q := iWp_cV dX9_row_39 fK_9_99 rfl rfl ho (Nat.le_of_ble_eq_true rfl) (Nat.le_of_ble_eq_true rfl) rfl (Nat.le_of_ble_eq_true rfl) he rfl
theorem X9_row_42 : iWp d mX9_row 42 [a0, a1, a2, a3, a4] [.int x] h Q = Q (some (.int x)) h := w_ireti dX9_row_42 rfl
theorem X9_row_43 : iWp d mX9_row 43 [a0, a1, a2, .int x, a4] st h Q = iWp d mX9_row 44 [a0, a1, a2, .int x, a4] (.int x :: st) h Q := w_iload_n dX9_row_43 rfl
theorem X9_row_44 : iWp d mX9_row 44 [a0, a1, a2, a3, a4] st h Q = iWp d mX9_row 47 [a0, a1, a2, a3, a4] (.int 160 :: st) h Q := w_sipush dX9_row_44 rfl
theorem X9_row_47 : iWp d mX9_row 47 [a0, a1, a2, a3, a4] (.int y :: .int x :: st) h Q = if x ≤ y then iWp d mX9_row 57 [a0, a1, a2, a3, a4] st h Q else iWp d mX9_row 50 [a0, a1, a2, a3, a4] st h Q := w_icmp_le dX9_row_47 rfl
theorem X9_row_50 : iWp d mX9_row 50 [.ref p, a1, a2, a3, a4] st h Q = iWp d mX9_row 51 [.ref p, a1, a2, a3, a4] (.ref p :: st) h Q := w_aload_n dX9_row_50 rfl
theorem X9_row_51 : iWp d mX9_row 51 [a0, a1, a2, a3, a4] st h Q = iWp d mX9_row 53 [a0, a1, a2, a3, a4] (.int (-7) :: st) h Q := w_bipush dX9_row_51 rfl
theorem X9_row_53 (he : iEv mX9_no [.ref p, .int x0] h (some (.int rv)) h2) (ho : iObj h p 9 = true) : iWp 2 mX9_row 53 [a0, a1, a2, a3, a4] [.int x0, .ref p] h Q = iWp 2 mX9_row 56 [a0, a1, a2, a3, a4] [.int rv] h2 Q := iWp_cV dX9_row_53 fK_9_99 rfl rfl ho (Nat.le_of_ble_eq_true rfl) (Nat.le_of_ble_eq_true rfl) rfl (Nat.le_of_ble_eq_true rfl) he rfl
theorem X9_row_56 : iWp d mX9_row 56 [a0, a1, a2, a3, a4] [.int x] h Q = Q (some (.int x)) h := w_ireti dX9_row_56 rfl
theorem X9_row_57 : iWp d mX9_row 57 [.ref p, a1, a2, a3, a4] st h Q = iWp d mX9_row 58 [.ref p, a1, a2, a3, a4] (.ref p :: st) h Q := w_aload_n dX9_row_57 rfl
theorem X9_row_58 : iWp d mX9_row 58 [a0, a1, a2, a3, a4] (.ref p :: st) h Q = iOb (iGet h p 9 11) (fun v => iWp d mX9_row 61 [a0, a1, a2, a3, a4] (v :: st) h Q) := w_getf dX9_row_58 fF_9_31
theorem X9_row_61 : iWp d mX9_row 61 [a0, .int x, a2, a3, a4] st h Q = iWp d mX9_row 62 [a0, .int x, a2, a3, a4] (.int x :: st) h Q := w_iload_n dX9_row_61 rfl
theorem X9_row_62 : iWp d mX9_row 62 [a0, a1, a2, a3, a4] st h Q = iWp d mX9_row 64 [a0, a1, a2, a3, a4] (.int 100 :: st) h Q := w_bipush dX9_row_62 rfl
theorem X9_row_64 : iWp d mX9_row 64 [a0, a1, .int x, a3, a4] st h Q = iWp d mX9_row 65 [a0, a1, .int x, a3, a4] (.int x :: st) h Q := w_iload_n dX9_row_64 rfl
theorem X9_row_65 : iWp d mX9_row 65 [a0, a1, a2, a3, a4] (.int y :: .int x :: st) h Q = iWp d mX9_row 66 [a0, a1, a2, a3, a4] (.int (x + y) :: st) h Q := w_iadd dX9_row_65
theorem X9_row_66 : iWp d mX9_row 66 [a0, a1, a2, a3, a4] (.int y :: .int x :: .ref p :: st) h Q = iOb (iStI h p x y) (fun g => iWp d mX9_row 67 [a0, a1, a2, a3, a4] st g Q) := w_iastore dX9_row_66
theorem X9_row_67 : iWp d mX9_row 67 [.ref p, a1, a2, a3, a4] st h Q = iWp d mX9_row 68 [.ref p, a1, a2, a3, a4] (.ref p :: st) h Q := w_aload_n dX9_row_67 rfl
theorem X9_row_68 : iWp d mX9_row 68 [a0, a1, a2, a3, a4] (.ref p :: st) h Q = iOb (iGet h p 9 12) (fun v => iWp d mX9_row 71 [a0, a1, a2, a3, a4] (v :: st) h Q) := w_getf dX9_row_68 fF_9_34
theorem X9_row_71 : iWp d mX9_row 71 [a0, .int x, a2, a3, a4] st h Q = iWp d mX9_row 72 [a0, .int x, a2, a3, a4] (.int x :: st) h Q := w_iload_n dX9_row_71 rfl
theorem X9_row_72 : iWp d mX9_row 72 [a0, a1, a2, .int x, a4] st h Q = iWp d mX9_row 73 [a0, a1, a2, .int x, a4] (.int x :: st) h Q := w_iload_n dX9_row_72 rfl
theorem X9_row_73 : iWp d mX9_row 73 [a0, a1, a2, a3, a4] (.int y :: .int x :: .ref p :: st) h Q = iOb (iStI h p x y) (fun g => iWp d mX9_row 74 [a0, a1, a2, a3, a4] st g Q) := w_iastore dX9_row_73
theorem X9_row_74 : iWp d mX9_row 74 [a0, a1, a2, a3, a4] st h Q = iWp d mX9_row 75 [a0, a1, a2, a3, a4] (.int 0 :: st) h Q := w_iconst dX9_row_74 rfl
theorem X9_row_75 : iWp d mX9_row 75 [a0, a1, a2, a3, a4] (.int x :: st) h Q = iWp d mX9_row 77 [a0, a1, a2, iClr a3, .int x] st h Q := w_istore dX9_row_75 (Nat.le_of_ble_eq_true rfl) rfl
theorem X9_row_77 : iWp d mX9_row 77 [a0, a1, a2, a3, .int x] st h Q = iWp d mX9_row 79 [a0, a1, a2, a3, .int x] (.int x :: st) h Q := w_iload dX9_row_77 rfl
theorem X9_row_79 : iWp d mX9_row 79 [a0, a1, a2, a3, a4] st h Q = iWp d mX9_row 82 [a0, a1, a2, a3, a4] (.int 160 :: st) h Q := w_sipush dX9_row_79 rfl
theorem X9_row_82 : iWp d mX9_row 82 [a0, a1, a2, a3, a4] (.int y :: .int x :: st) h Q = if y ≤ x then iWp d mX9_row 105 [a0, a1, a2, a3, a4] st h Q else iWp d mX9_row 85 [a0, a1, a2, a3, a4] st h Q := w_icmp_ge dX9_row_82 rfl
theorem X9_row_85 : iWp d mX9_row 85 [.ref p, a1, a2, a3, a4] st h Q = iWp d mX9_row 86 [.ref p, a1, a2, a3, a4] (.ref p :: st) h Q := w_aload_n dX9_row_85 rfl
theorem X9_row_86 : iWp d mX9_row 86 [a0, a1, a2, a3, a4] (.ref p :: st) h Q = iOb (iGet h p 9 13) (fun v => iWp d mX9_row 89 [a0, a1, a2, a3, a4] (v :: st) h Q) := w_getf dX9_row_86 fF_9_37
theorem X9_row_89 : iWp d mX9_row 89 [a0, a1, a2, a3, a4] st h Q = iWp d mX9_row 92 [a0, a1, a2, a3, a4] (.int 160 :: st) h Q := w_sipush dX9_row_89 rfl
theorem X9_row_92 : iWp d mX9_row 92 [a0, .int x, a2, a3, a4] st h Q = iWp d mX9_row 93 [a0, .int x, a2, a3, a4] (.int x :: st) h Q := w_iload_n dX9_row_92 rfl
theorem X9_row_93 : iWp d mX9_row 93 [a0, a1, a2, a3, a4] (.int y :: .int x :: st) h Q = iWp d mX9_row 94 [a0, a1, a2, a3, a4] (.int (x * y) :: st) h Q := w_imul dX9_row_93
theorem X9_row_94 : iWp d mX9_row 94 [a0, a1, a2, a3, .int x] st h Q = iWp d mX9_row 96 [a0, a1, a2, a3, .int x] (.int x :: st) h Q := w_iload dX9_row_94 rfl
theorem X9_row_96 : iWp d mX9_row 96 [a0, a1, a2, a3, a4] (.int y :: .int x :: st) h Q = iWp d mX9_row 97 [a0, a1, a2, a3, a4] (.int (x + y) :: st) h Q := w_iadd dX9_row_96
theorem X9_row_97 : iWp d mX9_row 97 [a0, a1, a2, a3, a4] st h Q = iWp d mX9_row 98 [a0, a1, a2, a3, a4] (.long 0 :: st) h Q := w_lconst dX9_row_97 rfl
theorem X9_row_98 : iWp d mX9_row 98 [a0, a1, a2, a3, a4] (.long u :: .int x :: .ref p :: st) h Q = iOb (iStL h p x u) (fun g => iWp d mX9_row 99 [a0, a1, a2, a3, a4] st g Q) := w_lastore dX9_row_98
theorem X9_row_99 : iWp d mX9_row 99 [a0, a1, a2, a3, .int x] st h Q = iWp d mX9_row 102 [a0, a1, a2, iClr a3, .int (x + 1)] st h Q := w_iinc dX9_row_99 rfl (Nat.le_of_ble_eq_true rfl) rfl
theorem X9_row_102 : iWp d mX9_row 102 [a0, a1, a2, a3, a4] st h Q = iWp d mX9_row 77 [a0, a1, a2, a3, a4] st h Q := w_goto dX9_row_102 rfl
theorem X9_row_105 : iWp d mX9_row 105 [a0, a1, a2, a3, a4] st h Q = iWp d mX9_row 106 [a0, a1, a2, a3, a4] (.int 1 :: st) h Q := w_iconst dX9_row_105 rfl
theorem X9_row_106 : iWp d mX9_row 106 [a0, a1, a2, a3, a4] [.int x] h Q = Q (some (.int x)) h := w_ireti dX9_row_106 rfl
theorem I9_row {Q : Option Value → iHp → Prop} (hw : iWp 2 mX9_row 0 [.ref p, .int x0, .int x1, .int x2, iU] [] h Q) : ∃ r h1, iEv mX9_row [.ref p, .int x0, .int x1, .int x2] h r h1 ∧ Q r h1 := iEv_of (by rfl) rfl hw
theorem J9_row {r : Option Value} {h1 : iHp} (hw : iWp 2 mX9_row 0 [.ref p, .int x0, .int x1, .int x2, iU] [] h (fun r' h' => r' = r ∧ h' = h1)) : iEv mX9_row [.ref p, .int x0, .int x1, .int x2] h r h1 := iEv_ev (by rfl) rfl hw
theorem X9_same_0 : iWp d mX9_same 0 [.ref p, a1, a2, a3, a4, a5] st h Q = iWp d mX9_same 1 [.ref p, a1, a2, a3, a4, a5] (.ref p :: st) h Q := w_aload_n dX9_same_0 rfl
theorem X9_same_1 : iWp d mX9_same 1 [a0, .int x, a2, a3, a4, a5] st h Q = iWp d mX9_same 2 [a0, .int x, a2, a3, a4, a5] (.int x :: st) h Q := w_iload_n dX9_same_1 rfl
theorem X9_same_2 (he : iEv mX9_isTree [.ref p, .int x0] h (some (.int rv)) h2) (ho : iObj h p 9 = true) : iWp 3 mX9_same 2 [a0, a1, a2, a3, a4, a5] [.int x0, .ref p] h Q = iWp 3 mX9_same 5 [a0, a1, a2, a3, a4, a5] [.int rv] h2 Q := iWp_cV dX9_same_2 fK_9_166 rfl rfl ho (Nat.le_of_ble_eq_true rfl) (Nat.le_of_ble_eq_true rfl) rfl (Nat.le_of_ble_eq_true rfl) he rfl
theorem X9_same_5 : iWp d mX9_same 5 [a0, a1, a2, a3, a4, a5] (.int x :: st) h Q = if x = 0 then iWp d mX9_same 16 [a0, a1, a2, a3, a4, a5] st h Q else iWp d mX9_same 8 [a0, a1, a2, a3, a4, a5] st h Q := w_ifc_eq dX9_same_5 rfl
theorem X9_same_8 : iWp d mX9_same 8 [.ref p, a1, a2, a3, a4, a5] st h Q = iWp d mX9_same 9 [.ref p, a1, a2, a3, a4, a5] (.ref p :: st) h Q := w_aload_n dX9_same_8 rfl
theorem X9_same_9 : iWp d mX9_same 9 [a0, a1, .int x, a3, a4, a5] st h Q = iWp d mX9_same 10 [a0, a1, .int x, a3, a4, a5] (.int x :: st) h Q := w_iload_n dX9_same_9 rfl
theorem X9_same_10 (he : iEv mX9_isTree [.ref p, .int x0] h (some (.int rv)) h2) (ho : iObj h p 9 = true) : iWp 3 mX9_same 10 [a0, a1, a2, a3, a4, a5] [.int x0, .ref p] h Q = iWp 3 mX9_same 13 [a0, a1, a2, a3, a4, a5] [.int rv] h2 Q := iWp_cV dX9_same_10 fK_9_166 rfl rfl ho (Nat.le_of_ble_eq_true rfl) (Nat.le_of_ble_eq_true rfl) rfl (Nat.le_of_ble_eq_true rfl) he rfl
theorem X9_same_13 : iWp d mX9_same 13 [a0, a1, a2, a3, a4, a5] (.int x :: st) h Q = if x = 0 then iWp d mX9_same 16 [a0, a1, a2, a3, a4, a5] st h Q else iWp d mX9_same 22 [a0, a1, a2, a3, a4, a5] st h Q := w_ifc_ne dX9_same_13 rfl
theorem X9_same_16 : iWp d mX9_same 16 [.ref p, a1, a2, a3, a4, a5] st h Q = iWp d mX9_same 17 [.ref p, a1, a2, a3, a4, a5] (.ref p :: st) h Q := w_aload_n dX9_same_16 rfl
theorem X9_same_17 : iWp d mX9_same 17 [a0, a1, a2, a3, a4, a5] st h Q = iWp d mX9_same 18 [a0, a1, a2, a3, a4, a5] (.int (-1) :: st) h Q := w_iconst dX9_same_17 rfl
theorem X9_same_18 (he : iEv mX9_no [.ref p, .int x0] h (some (.int rv)) h2) (ho : iObj h p 9 = true) : iWp 3 mX9_same 18 [a0, a1, a2, a3, a4, a5] [.int x0, .ref p] h Q = iWp 3 mX9_same 21 [a0, a1, a2, a3, a4, a5] [.int rv] h2 Q := iWp_cV dX9_same_18 fK_9_99 rfl rfl ho (Nat.le_of_ble_eq_true rfl) (Nat.le_of_ble_eq_true rfl) rfl (Nat.le_of_ble_eq_true rfl) he rfl
theorem X9_same_21 : iWp d mX9_same 21 [a0, a1, a2, a3, a4, a5] [.int x] h Q = Q (some (.int x)) h := w_ireti dX9_same_21 rfl
theorem X9_same_22 : iWp d mX9_same 22 [a0, a1, a2, a3, a4, a5] st h Q = iWp d mX9_same 23 [a0, a1, a2, a3, a4, a5] (.int 0 :: st) h Q := w_iconst dX9_same_22 rfl
theorem X9_same_23 : iWp d mX9_same 23 [a0, a1, a2, a3, a4, a5] (.int x :: st) h Q = iWp d mX9_same 24 [a0, a1, iClr a2, .int x, a4, a5] st h Q := w_istore_n dX9_same_23 (Nat.le_of_ble_eq_true rfl) rfl
theorem X9_same_24 : iWp d mX9_same 24 [a0, a1, a2, .int x, a4, a5] st h Q = iWp d mX9_same 25 [a0, a1, a2, .int x, a4, a5] (.int x :: st) h Q := w_iload_n dX9_same_24 rfl
theorem X9_same_25 : iWp d mX9_same 25 [.ref p, a1, a2, a3, a4, a5] st h Q = iWp d mX9_same 26 [.ref p, a1, a2, a3, a4, a5] (.ref p :: st) h Q := w_aload_n dX9_same_25 rfl
theorem X9_same_26 : iWp d mX9_same 26 [a0, a1, a2, a3, a4, a5] (.ref p :: st) h Q = iOb (iGet h p 9 1) (fun v => iWp d mX9_same 29 [a0, a1, a2, a3, a4, a5] (v :: st) h Q) := w_getf dX9_same_26 fF_9_7
theorem X9_same_29 : iWp d mX9_same 29 [a0, .int x, a2, a3, a4, a5] st h Q = iWp d mX9_same 30 [a0, .int x, a2, a3, a4, a5] (.int x :: st) h Q := w_iload_n dX9_same_29 rfl
theorem X9_same_30 : iWp d mX9_same 30 [a0, a1, a2, a3, a4, a5] (.int x :: .ref p :: st) h Q = iOb (iLdI h p x) (fun v => iWp d mX9_same 31 [a0, a1, a2, a3, a4, a5] (.int v :: st) h Q) := w_iaload dX9_same_30
theorem X9_same_31 : iWp d mX9_same 31 [a0, a1, a2, a3, a4, a5] (.int y :: .int x :: st) h Q = if x < y then iWp d mX9_same 44 [a0, a1, a2, a3, a4, a5] st h Q else iWp d mX9_same 34 [a0, a1, a2, a3, a4, a5] st h Q := w_icmp_lt dX9_same_31 rfl
theorem X9_same_34 : iWp d mX9_same 34 [a0, a1, a2, .int x, a4, a5] st h Q = iWp d mX9_same 35 [a0, a1, a2, .int x, a4, a5] (.int x :: st) h Q := w_iload_n dX9_same_34 rfl
theorem X9_same_35 : iWp d mX9_same 35 [.ref p, a1, a2, a3, a4, a5] st h Q = iWp d mX9_same 36 [.ref p, a1, a2, a3, a4, a5] (.ref p :: st) h Q := w_aload_n dX9_same_35 rfl
theorem X9_same_36 : iWp d mX9_same 36 [a0, a1, a2, a3, a4, a5] (.ref p :: st) h Q = iOb (iGet h p 9 1) (fun v => iWp d mX9_same 39 [a0, a1, a2, a3, a4, a5] (v :: st) h Q) := w_getf dX9_same_36 fF_9_7
theorem X9_same_39 : iWp d mX9_same 39 [a0, a1, .int x, a3, a4, a5] st h Q = iWp d mX9_same 40 [a0, a1, .int x, a3, a4, a5] (.int x :: st) h Q := w_iload_n dX9_same_39 rfl
theorem X9_same_40 : iWp d mX9_same 40 [a0, a1, a2, a3, a4, a5] (.int x :: .ref p :: st) h Q = iOb (iLdI h p x) (fun v => iWp d mX9_same 41 [a0, a1, a2, a3, a4, a5] (.int v :: st) h Q) := w_iaload dX9_same_40
theorem X9_same_41 : iWp d mX9_same 41 [a0, a1, a2, a3, a4, a5] (.int y :: .int x :: st) h Q = if y ≤ x then iWp d mX9_same 141 [a0, a1, a2, a3, a4, a5] st h Q else iWp d mX9_same 44 [a0, a1, a2, a3, a4, a5] st h Q := w_icmp_ge dX9_same_41 rfl
theorem X9_same_44 : iWp d mX9_same 44 [a0, a1, a2, a3, a4, a5] st h Q = iWp d mX9_same 46 [a0, a1, a2, a3, a4, a5] (.int 64 :: st) h Q := w_bipush dX9_same_44 rfl
theorem X9_same_46 : iWp d mX9_same 46 [a0, .int x, a2, a3, a4, a5] st h Q = iWp d mX9_same 47 [a0, .int x, a2, a3, a4, a5] (.int x :: st) h Q := w_iload_n dX9_same_46 rfl
theorem X9_same_47 : iWp d mX9_same 47 [a0, a1, a2, a3, a4, a5] (.int y :: .int x :: st) h Q = iWp d mX9_same 48 [a0, a1, a2, a3, a4, a5] (.int (x * y) :: st) h Q := w_imul dX9_same_47
theorem X9_same_48 : iWp d mX9_same 48 [a0, a1, a2, .int x, a4, a5] st h Q = iWp d mX9_same 49 [a0, a1, a2, .int x, a4, a5] (.int x :: st) h Q := w_iload_n dX9_same_48 rfl
theorem X9_same_49 : iWp d mX9_same 49 [a0, a1, a2, a3, a4, a5] (.int y :: .int x :: st) h Q = iWp d mX9_same 50 [a0, a1, a2, a3, a4, a5] (.int (x + y) :: st) h Q := w_iadd dX9_same_49
theorem X9_same_50 : iWp d mX9_same 50 [a0, a1, a2, a3, a4, a5] (.int x :: st) h Q = iWp d mX9_same 52 [a0, a1, a2, iClr a3, .int x, a5] st h Q := w_istore dX9_same_50 (Nat.le_of_ble_eq_true rfl) rfl
theorem X9_same_52 : iWp d mX9_same 52 [a0, a1, a2, a3, a4, a5] st h Q = iWp d mX9_same 54 [a0, a1, a2, a3, a4, a5] (.int 64 :: st) h Q := w_bipush dX9_same_52 rfl
theorem X9_same_54 : iWp d mX9_same 54 [a0, a1, .int x, a3, a4, a5] st h Q = iWp d mX9_same 55 [a0, a1, .int x, a3, a4, a5] (.int x :: st) h Q := w_iload_n dX9_same_54 rfl
theorem X9_same_55 : iWp d mX9_same 55 [a0, a1, a2, a3, a4, a5] (.int y :: .int x :: st) h Q = iWp d mX9_same 56 [a0, a1, a2, a3, a4, a5] (.int (x * y) :: st) h Q := w_imul dX9_same_55
theorem X9_same_56 : iWp d mX9_same 56 [a0, a1, a2, .int x, a4, a5] st h Q = iWp d mX9_same 57 [a0, a1, a2, .int x, a4, a5] (.int x :: st) h Q := w_iload_n dX9_same_56 rfl
theorem X9_same_57 : iWp d mX9_same 57 [a0, a1, a2, a3, a4, a5] (.int y :: .int x :: st) h Q = iWp d mX9_same 58 [a0, a1, a2, a3, a4, a5] (.int (x + y) :: st) h Q := w_iadd dX9_same_57
theorem X9_same_58 : iWp d mX9_same 58 [a0, a1, a2, a3, a4, a5] (.int x :: st) h Q = iWp d mX9_same 60 [a0, a1, a2, a3, iClr a4, .int x] st h Q := w_istore dX9_same_58 (Nat.le_of_ble_eq_true rfl) rfl
theorem X9_same_60 : iWp d mX9_same 60 [a0, a1, a2, .int x, a4, a5] st h Q = iWp d mX9_same 61 [a0, a1, a2, .int x, a4, a5] (.int x :: st) h Q := w_iload_n dX9_same_60 rfl
theorem X9_same_61 : iWp d mX9_same 61 [.ref p, a1, a2, a3, a4, a5] st h Q = iWp d mX9_same 62 [.ref p, a1, a2, a3, a4, a5] (.ref p :: st) h Q := w_aload_n dX9_same_61 rfl
theorem X9_same_62 : iWp d mX9_same 62 [a0, a1, a2, a3, a4, a5] (.ref p :: st) h Q = iOb (iGet h p 9 1) (fun v => iWp d mX9_same 65 [a0, a1, a2, a3, a4, a5] (v :: st) h Q) := w_getf dX9_same_62 fF_9_7
theorem X9_same_65 : iWp d mX9_same 65 [a0, .int x, a2, a3, a4, a5] st h Q = iWp d mX9_same 66 [a0, .int x, a2, a3, a4, a5] (.int x :: st) h Q := w_iload_n dX9_same_65 rfl
theorem X9_same_66 : iWp d mX9_same 66 [a0, a1, a2, a3, a4, a5] (.int x :: .ref p :: st) h Q = iOb (iLdI h p x) (fun v => iWp d mX9_same 67 [a0, a1, a2, a3, a4, a5] (.int v :: st) h Q) := w_iaload dX9_same_66
theorem X9_same_67 : iWp d mX9_same 67 [a0, a1, a2, a3, a4, a5] (.int y :: .int x :: st) h Q = if y ≤ x then iWp d mX9_same 131 [a0, a1, a2, a3, a4, a5] st h Q else iWp d mX9_same 70 [a0, a1, a2, a3, a4, a5] st h Q := w_icmp_ge dX9_same_67 rfl
theorem X9_same_70 : iWp d mX9_same 70 [a0, a1, a2, .int x, a4, a5] st h Q = iWp d mX9_same 71 [a0, a1, a2, .int x, a4, a5] (.int x :: st) h Q := w_iload_n dX9_same_70 rfl
theorem X9_same_71 : iWp d mX9_same 71 [.ref p, a1, a2, a3, a4, a5] st h Q = iWp d mX9_same 72 [.ref p, a1, a2, a3, a4, a5] (.ref p :: st) h Q := w_aload_n dX9_same_71 rfl
theorem X9_same_72 : iWp d mX9_same 72 [a0, a1, a2, a3, a4, a5] (.ref p :: st) h Q = iOb (iGet h p 9 1) (fun v => iWp d mX9_same 75 [a0, a1, a2, a3, a4, a5] (v :: st) h Q) := w_getf dX9_same_72 fF_9_7
theorem X9_same_75 : iWp d mX9_same 75 [a0, a1, .int x, a3, a4, a5] st h Q = iWp d mX9_same 76 [a0, a1, .int x, a3, a4, a5] (.int x :: st) h Q := w_iload_n dX9_same_75 rfl
theorem X9_same_76 : iWp d mX9_same 76 [a0, a1, a2, a3, a4, a5] (.int x :: .ref p :: st) h Q = iOb (iLdI h p x) (fun v => iWp d mX9_same 77 [a0, a1, a2, a3, a4, a5] (.int v :: st) h Q) := w_iaload dX9_same_76
theorem X9_same_77 : iWp d mX9_same 77 [a0, a1, a2, a3, a4, a5] (.int y :: .int x :: st) h Q = if y ≤ x then iWp d mX9_same 131 [a0, a1, a2, a3, a4, a5] st h Q else iWp d mX9_same 80 [a0, a1, a2, a3, a4, a5] st h Q := w_icmp_ge dX9_same_77 rfl
theorem X9_same_80 : iWp d mX9_same 80 [.ref p, a1, a2, a3, a4, a5] st h Q = iWp d mX9_same 81 [.ref p, a1, a2, a3, a4, a5] (.ref p :: st) h Q := w_aload_n dX9_same_80 rfl
theorem X9_same_81 : iWp d mX9_same 81 [a0, a1, a2, a3, a4, a5] (.ref p :: st) h Q = iOb (iGet h p 9 2) (fun v => iWp d mX9_same 84 [a0, a1, a2, a3, a4, a5] (v :: st) h Q) := w_getf dX9_same_81 fF_9_13
theorem X9_same_84 : iWp d mX9_same 84 [a0, a1, a2, a3, .int x, a5] st h Q = iWp d mX9_same 86 [a0, a1, a2, a3, .int x, a5] (.int x :: st) h Q := w_iload dX9_same_84 rfl
theorem X9_same_86 : iWp d mX9_same 86 [a0, a1, a2, a3, a4, a5] (.int x :: .ref p :: st) h Q = iOb (iLdI h p x) (fun v => iWp d mX9_same 87 [a0, a1, a2, a3, a4, a5] (.int v :: st) h Q) := w_iaload dX9_same_86
theorem X9_same_87 : iWp d mX9_same 87 [.ref p, a1, a2, a3, a4, a5] st h Q = iWp d mX9_same 88 [.ref p, a1, a2, a3, a4, a5] (.ref p :: st) h Q := w_aload_n dX9_same_87 rfl
theorem X9_same_88 : iWp d mX9_same 88 [a0, a1, a2, a3, a4, a5] (.ref p :: st) h Q = iOb (iGet h p 9 2) (fun v => iWp d mX9_same 91 [a0, a1, a2, a3, a4, a5] (v :: st) h Q) := w_getf dX9_same_88 fF_9_13
theorem X9_same_91 : iWp d mX9_same 91 [a0, a1, a2, a3, a4, .int x] st h Q = iWp d mX9_same 93 [a0, a1, a2, a3, a4, .int x] (.int x :: st) h Q := w_iload dX9_same_91 rfl
theorem X9_same_93 : iWp d mX9_same 93 [a0, a1, a2, a3, a4, a5] (.int x :: .ref p :: st) h Q = iOb (iLdI h p x) (fun v => iWp d mX9_same 94 [a0, a1, a2, a3, a4, a5] (.int v :: st) h Q) := w_iaload dX9_same_93
theorem X9_same_94 : iWp d mX9_same 94 [a0, a1, a2, a3, a4, a5] (.int y :: .int x :: st) h Q = if x = y then iWp d mX9_same 97 [a0, a1, a2, a3, a4, a5] st h Q else iWp d mX9_same 131 [a0, a1, a2, a3, a4, a5] st h Q := w_icmp_ne dX9_same_94 rfl
theorem X9_same_97 : iWp d mX9_same 97 [.ref p, a1, a2, a3, a4, a5] st h Q = iWp d mX9_same 98 [.ref p, a1, a2, a3, a4, a5] (.ref p :: st) h Q := w_aload_n dX9_same_97 rfl
theorem X9_same_98 : iWp d mX9_same 98 [a0, a1, a2, a3, a4, a5] (.ref p :: st) h Q = iOb (iGet h p 9 3) (fun v => iWp d mX9_same 101 [a0, a1, a2, a3, a4, a5] (v :: st) h Q) := w_getf dX9_same_98 fF_9_16
theorem X9_same_101 : iWp d mX9_same 101 [a0, a1, a2, a3, .int x, a5] st h Q = iWp d mX9_same 103 [a0, a1, a2, a3, .int x, a5] (.int x :: st) h Q := w_iload dX9_same_101 rfl
theorem X9_same_103 : iWp d mX9_same 103 [a0, a1, a2, a3, a4, a5] (.int x :: .ref p :: st) h Q = iOb (iLdI h p x) (fun v => iWp d mX9_same 104 [a0, a1, a2, a3, a4, a5] (.int v :: st) h Q) := w_iaload dX9_same_103
theorem X9_same_104 : iWp d mX9_same 104 [.ref p, a1, a2, a3, a4, a5] st h Q = iWp d mX9_same 105 [.ref p, a1, a2, a3, a4, a5] (.ref p :: st) h Q := w_aload_n dX9_same_104 rfl
theorem X9_same_105 : iWp d mX9_same 105 [a0, a1, a2, a3, a4, a5] (.ref p :: st) h Q = iOb (iGet h p 9 3) (fun v => iWp d mX9_same 108 [a0, a1, a2, a3, a4, a5] (v :: st) h Q) := w_getf dX9_same_105 fF_9_16
theorem X9_same_108 : iWp d mX9_same 108 [a0, a1, a2, a3, a4, .int x] st h Q = iWp d mX9_same 110 [a0, a1, a2, a3, a4, .int x] (.int x :: st) h Q := w_iload dX9_same_108 rfl
theorem X9_same_110 : iWp d mX9_same 110 [a0, a1, a2, a3, a4, a5] (.int x :: .ref p :: st) h Q = iOb (iLdI h p x) (fun v => iWp d mX9_same 111 [a0, a1, a2, a3, a4, a5] (.int v :: st) h Q) := w_iaload dX9_same_110
theorem X9_same_111 : iWp d mX9_same 111 [a0, a1, a2, a3, a4, a5] (.int y :: .int x :: st) h Q = if x = y then iWp d mX9_same 114 [a0, a1, a2, a3, a4, a5] st h Q else iWp d mX9_same 131 [a0, a1, a2, a3, a4, a5] st h Q := w_icmp_ne dX9_same_111 rfl
theorem X9_same_114 : iWp d mX9_same 114 [.ref p, a1, a2, a3, a4, a5] st h Q = iWp d mX9_same 115 [.ref p, a1, a2, a3, a4, a5] (.ref p :: st) h Q := w_aload_n dX9_same_114 rfl
theorem X9_same_115 : iWp d mX9_same 115 [a0, a1, a2, a3, a4, a5] (.ref p :: st) h Q = iOb (iGet h p 9 4) (fun v => iWp d mX9_same 118 [a0, a1, a2, a3, a4, a5] (v :: st) h Q) := w_getf dX9_same_115 fF_9_19
theorem X9_same_118 : iWp d mX9_same 118 [a0, a1, a2, a3, .int x, a5] st h Q = iWp d mX9_same 120 [a0, a1, a2, a3, .int x, a5] (.int x :: st) h Q := w_iload dX9_same_118 rfl
theorem X9_same_120 : iWp d mX9_same 120 [a0, a1, a2, a3, a4, a5] (.int x :: .ref p :: st) h Q = iOb (iLdI h p x) (fun v => iWp d mX9_same 121 [a0, a1, a2, a3, a4, a5] (.int v :: st) h Q) := w_iaload dX9_same_120
theorem X9_same_121 : iWp d mX9_same 121 [.ref p, a1, a2, a3, a4, a5] st h Q = iWp d mX9_same 122 [.ref p, a1, a2, a3, a4, a5] (.ref p :: st) h Q := w_aload_n dX9_same_121 rfl
theorem X9_same_122 : iWp d mX9_same 122 [a0, a1, a2, a3, a4, a5] (.ref p :: st) h Q = iOb (iGet h p 9 4) (fun v => iWp d mX9_same 125 [a0, a1, a2, a3, a4, a5] (v :: st) h Q) := w_getf dX9_same_122 fF_9_19
theorem X9_same_125 : iWp d mX9_same 125 [a0, a1, a2, a3, a4, .int x] st h Q = iWp d mX9_same 127 [a0, a1, a2, a3, a4, .int x] (.int x :: st) h Q := w_iload dX9_same_125 rfl
theorem X9_same_127 : iWp d mX9_same 127 [a0, a1, a2, a3, a4, a5] (.int x :: .ref p :: st) h Q = iOb (iLdI h p x) (fun v => iWp d mX9_same 128 [a0, a1, a2, a3, a4, a5] (.int v :: st) h Q) := w_iaload dX9_same_127
theorem X9_same_128 : iWp d mX9_same 128 [a0, a1, a2, a3, a4, a5] (.int y :: .int x :: st) h Q = if x = y then iWp d mX9_same 135 [a0, a1, a2, a3, a4, a5] st h Q else iWp d mX9_same 131 [a0, a1, a2, a3, a4, a5] st h Q := w_icmp_eq dX9_same_128 rfl
theorem X9_same_131 : iWp d mX9_same 131 [a0, a1, a2, .int x, a4, a5] st h Q = iWp d mX9_same 132 [a0, a1, a2, .int x, a4, a5] (.int x :: st) h Q := w_iload_n dX9_same_131 rfl
theorem X9_same_132 : iWp d mX9_same 132 [a0, a1, a2, a3, a4, a5] st h Q = iWp d mX9_same 133 [a0, a1, a2, a3, a4, a5] (.int 1 :: st) h Q := w_iconst dX9_same_132 rfl
theorem X9_same_133 : iWp d mX9_same 133 [a0, a1, a2, a3, a4, a5] (.int y :: .int x :: st) h Q = iWp d mX9_same 134 [a0, a1, a2, a3, a4, a5] (.int (x + y) :: st) h Q := w_iadd dX9_same_133
theorem X9_same_134 : iWp d mX9_same 134 [a0, a1, a2, a3, a4, a5] [.int x] h Q = Q (some (.int x)) h := w_ireti dX9_same_134 rfl
theorem X9_same_135 : iWp d mX9_same 135 [a0, a1, a2, .int x, a4, a5] st h Q = iWp d mX9_same 138 [a0, a1, iClr a2, .int (x + 1), a4, a5] st h Q := w_iinc dX9_same_135 rfl (Nat.le_of_ble_eq_true rfl) rfl
theorem X9_same_138 : iWp d mX9_same 138 [a0, a1, a2, a3, a4, a5] st h Q = iWp d mX9_same 24 [a0, a1, a2, a3, a4, a5] st h Q := w_goto dX9_same_138 rfl
theorem X9_same_141 : iWp d mX9_same 141 [a0, a1, a2, a3, a4, a5] st h Q = iWp d mX9_same 142 [a0, a1, a2, a3, a4, a5] (.int 0 :: st) h Q := w_iconst dX9_same_141 rfl
theorem X9_same_142 : iWp d mX9_same 142 [a0, a1, a2, a3, a4, a5] [.int x] h Q = Q (some (.int x)) h := w_ireti dX9_same_142 rfl
theorem I9_same {Q : Option Value → iHp → Prop} (hw : iWp 3 mX9_same 0 [.ref p, .int x0, .int x1, iU, iU, iU] [] h Q) : ∃ r h1, iEv mX9_same [.ref p, .int x0, .int x1] h r h1 ∧ Q r h1 := iEv_of (by rfl) rfl hw
theorem J9_same {r : Option Value} {h1 : iHp} (hw : iWp 3 mX9_same 0 [.ref p, .int x0, .int x1, iU, iU, iU] [] h (fun r' h' => r' = r ∧ h' = h1)) : iEv mX9_same [.ref p, .int x0, .int x1] h r h1 := iEv_ev (by rfl) rfl hw
theorem X9_says_0 : iWp d mX9_says 0 [a0, .int x, a2, a3] st h Q = iWp d mX9_says 1 [a0, .int x, a2, a3] (.int x :: st) h Q := w_iload_n dX9_says_0 rfl
theorem X9_says_1 : iWp d mX9_says 1 [a0, a1, a2, a3] st h Q = iWp d mX9_says 2 [a0, a1, a2, a3] (.int 0 :: st) h Q := w_iconst dX9_says_1 rfl
theorem X9_says_2 : iWp d mX9_says 2 [a0, a1, a2, a3] st h Q = iWp d mX9_says 4 [a0, a1, a2, a3] (.int 7 :: st) h Q := w_bipush dX9_says_2 rfl
theorem X9_says_4 (he : iEv mX9_within [.int x0, .int x1, .int x2] h (some (.int rv)) h2) : iWp 2 mX9_says 4 [a0, a1, a2, a3] [.int x2, .int x1, .int x0] h Q = iWp 2 mX9_says 7 [a0, a1, a2, a3] [.int rv] h2 Q := iWp_cS dX9_says_4 fK_9_106 rfl rfl (Nat.le_of_ble_eq_true rfl) (Nat.le_of_ble_eq_true rfl) rfl (Nat.le_of_ble_eq_true rfl) he rfl
theorem X9_says_7 : iWp d mX9_says 7 [a0, a1, a2, a3] (.int x :: st) h Q = if x = 0 then iWp d mX9_says 19 [a0, a1, a2, a3] st h Q else iWp d mX9_says 10 [a0, a1, a2, a3] st h Q := w_ifc_eq dX9_says_7 rfl
theorem X9_says_10 : iWp d mX9_says 10 [a0, a1, .int x, a3] st h Q = iWp d mX9_says 11 [a0, a1, .int x, a3] (.int x :: st) h Q := w_iload_n dX9_says_10 rfl
theorem X9_says_11 : iWp d mX9_says 11 [a0, a1, a2, a3] st h Q = iWp d mX9_says 12 [a0, a1, a2, a3] (.int 0 :: st) h Q := w_iconst dX9_says_11 rfl
theorem X9_says_12 : iWp d mX9_says 12 [a0, a1, a2, a3] st h Q = iWp d mX9_says 13 [a0, a1, a2, a3] (.int 3 :: st) h Q := w_iconst dX9_says_12 rfl
theorem X9_says_13 (he : iEv mX9_within [.int x0, .int x1, .int x2] h (some (.int rv)) h2) : iWp 2 mX9_says 13 [a0, a1, a2, a3] [.int x2, .int x1, .int x0] h Q = iWp 2 mX9_says 16 [a0, a1, a2, a3] [.int rv] h2 Q := iWp_cS dX9_says_13 fK_9_106 rfl rfl (Nat.le_of_ble_eq_true rfl) (Nat.le_of_ble_eq_true rfl) rfl (Nat.le_of_ble_eq_true rfl) he rfl
theorem X9_says_16 : iWp d mX9_says 16 [a0, a1, a2, a3] (.int x :: st) h Q = if x = 0 then iWp d mX9_says 19 [a0, a1, a2, a3] st h Q else iWp d mX9_says 25 [a0, a1, a2, a3] st h Q := w_ifc_ne dX9_says_16 rfl
theorem X9_says_19 : iWp d mX9_says 19 [.ref p, a1, a2, a3] st h Q = iWp d mX9_says 20 [.ref p, a1, a2, a3] (.ref p :: st) h Q := w_aload_n dX9_says_19 rfl
theorem X9_says_20 : iWp d mX9_says 20 [a0, a1, a2, a3] st h Q = iWp d mX9_says 21 [a0, a1, a2, a3] (.int (-1) :: st) h Q := w_iconst dX9_says_20 rfl
theorem X9_says_21 (he : iEv mX9_no [.ref p, .int x0] h (some (.int rv)) h2) (ho : iObj h p 9 = true) : iWp 2 mX9_says 21 [a0, a1, a2, a3] [.int x0, .ref p] h Q = iWp 2 mX9_says 24 [a0, a1, a2, a3] [.int rv] h2 Q := iWp_cV dX9_says_21 fK_9_99 rfl rfl ho (Nat.le_of_ble_eq_true rfl) (Nat.le_of_ble_eq_true rfl) rfl (Nat.le_of_ble_eq_true rfl) he rfl
theorem X9_says_24 : iWp d mX9_says 24 [a0, a1, a2, a3] [.int x] h Q = Q (some (.int x)) h := w_ireti dX9_says_24 rfl
theorem X9_says_25 : iWp d mX9_says 25 [.ref p, a1, a2, a3] st h Q = iWp d mX9_says 26 [.ref p, a1, a2, a3] (.ref p :: st) h Q := w_aload_n dX9_says_25 rfl
theorem X9_says_26 : iWp d mX9_says 26 [a0, a1, a2, a3] (.ref p :: st) h Q = iOb (iGet h p 9 11) (fun v => iWp d mX9_says 29 [a0, a1, a2, a3] (v :: st) h Q) := w_getf dX9_says_26 fF_9_31
theorem X9_says_29 : iWp d mX9_says 29 [a0, .int x, a2, a3] st h Q = iWp d mX9_says 30 [a0, .int x, a2, a3] (.int x :: st) h Q := w_iload_n dX9_says_29 rfl
theorem X9_says_30 : iWp d mX9_says 30 [a0, a1, a2, a3] (.int x :: .ref p :: st) h Q = iOb (iLdI h p x) (fun v => iWp d mX9_says 31 [a0, a1, a2, a3] (.int v :: st) h Q) := w_iaload dX9_says_30
theorem X9_says_31 : iWp d mX9_says 31 [a0, a1, a2, a3] (.int x :: st) h Q = iWp d mX9_says 32 [a0, a1, iClr a2, .int x] st h Q := w_istore_n dX9_says_31 (Nat.le_of_ble_eq_true rfl) rfl
theorem X9_says_32 : iWp d mX9_says 32 [a0, a1, a2, .int x] st h Q = iWp d mX9_says 33 [a0, a1, a2, .int x] (.int x :: st) h Q := w_iload_n dX9_says_32 rfl
theorem X9_says_33 : iWp d mX9_says 33 [a0, a1, a2, a3] (.int x :: st) h Q = if x < 0 then iWp d mX9_says 96 [a0, a1, a2, a3] st h Q else iWp d mX9_says 36 [a0, a1, a2, a3] st h Q := w_ifc_lt dX9_says_33 rfl
theorem X9_says_36 : iWp d mX9_says 36 [.ref p, a1, a2, a3] st h Q = iWp d mX9_says 37 [.ref p, a1, a2, a3] (.ref p :: st) h Q := w_aload_n dX9_says_36 rfl
theorem X9_says_37 : iWp d mX9_says 37 [a0, .int x, a2, a3] st h Q = iWp d mX9_says 38 [a0, .int x, a2, a3] (.int x :: st) h Q := w_iload_n dX9_says_37 rfl
theorem X9_says_38 (he : iEv mX9_isRow [.ref p, .int x0] h (some (.int rv)) h2) (ho : iObj h p 9 = true) : iWp 2 mX9_says 38 [a0, a1, a2, a3] [.int x0, .ref p] h Q = iWp 2 mX9_says 41 [a0, a1, a2, a3] [.int rv] h2 Q := iWp_cV dX9_says_38 fK_9_113 rfl rfl ho (Nat.le_of_ble_eq_true rfl) (Nat.le_of_ble_eq_true rfl) rfl (Nat.le_of_ble_eq_true rfl) he rfl
theorem X9_says_41 : iWp d mX9_says 41 [a0, a1, a2, a3] (.int x :: st) h Q = if x = 0 then iWp d mX9_says 44 [a0, a1, a2, a3] st h Q else iWp d mX9_says 89 [a0, a1, a2, a3] st h Q := w_ifc_ne dX9_says_41 rfl
theorem X9_says_44 : iWp d mX9_says 44 [a0, a1, .int x, a3] st h Q = iWp d mX9_says 45 [a0, a1, .int x, a3] (.int x :: st) h Q := w_iload_n dX9_says_44 rfl
theorem X9_says_45 : iWp d mX9_says 45 [a0, a1, a2, a3] st h Q = iWp d mX9_says 46 [a0, a1, a2, a3] (.int 1 :: st) h Q := w_iconst dX9_says_45 rfl
theorem X9_says_46 : iWp d mX9_says 46 [a0, a1, a2, a3] (.int y :: .int x :: st) h Q = if x = y then iWp d mX9_says 49 [a0, a1, a2, a3] st h Q else iWp d mX9_says 59 [a0, a1, a2, a3] st h Q := w_icmp_ne dX9_says_46 rfl
theorem X9_says_49 : iWp d mX9_says 49 [.ref p, a1, a2, a3] st h Q = iWp d mX9_says 50 [.ref p, a1, a2, a3] (.ref p :: st) h Q := w_aload_n dX9_says_49 rfl
theorem X9_says_50 : iWp d mX9_says 50 [a0, a1, a2, a3] st h Q = iWp d mX9_says 51 [a0, a1, a2, a3] (.int 2 :: st) h Q := w_iconst dX9_says_50 rfl
theorem X9_says_51 : iWp d mX9_says 51 [a0, a1, a2, .int x] st h Q = iWp d mX9_says 52 [a0, a1, a2, .int x] (.int x :: st) h Q := w_iload_n dX9_says_51 rfl
theorem X9_says_52 (he : iEv mX9_of [.ref p, .int x0, .int x1] h (some (.int rv)) h2) (ho : iObj h p 9 = true) : iWp 2 mX9_says 52 [a0, a1, a2, a3] [.int x1, .int x0, .ref p] h Q = iWp 2 mX9_says 55 [a0, a1, a2, a3] [.int rv] h2 Q := iWp_cV dX9_says_52 fK_9_123 rfl rfl ho (Nat.le_of_ble_eq_true rfl) (Nat.le_of_ble_eq_true rfl) rfl (Nat.le_of_ble_eq_true rfl) he rfl
theorem X9_says_55 : iWp d mX9_says 55 [a0, a1, a2, a3] st h Q = iWp d mX9_says 56 [a0, a1, a2, a3] (.int 1 :: st) h Q := w_iconst dX9_says_55 rfl
theorem X9_says_56 : iWp d mX9_says 56 [a0, a1, a2, a3] (.int y :: .int x :: st) h Q = if x = y then iWp d mX9_says 59 [a0, a1, a2, a3] st h Q else iWp d mX9_says 89 [a0, a1, a2, a3] st h Q := w_icmp_ne dX9_says_56 rfl
theorem X9_says_59 : iWp d mX9_says 59 [a0, a1, .int x, a3] st h Q = iWp d mX9_says 60 [a0, a1, .int x, a3] (.int x :: st) h Q := w_iload_n dX9_says_59 rfl
theorem X9_says_60 : iWp d mX9_says 60 [a0, a1, a2, a3] st h Q = iWp d mX9_says 61 [a0, a1, a2, a3] (.int 2 :: st) h Q := w_iconst dX9_says_60 rfl
theorem X9_says_61 : iWp d mX9_says 61 [a0, a1, a2, a3] (.int y :: .int x :: st) h Q = if x = y then iWp d mX9_says 64 [a0, a1, a2, a3] st h Q else iWp d mX9_says 74 [a0, a1, a2, a3] st h Q := w_icmp_ne dX9_says_61 rfl
theorem X9_says_64 : iWp d mX9_says 64 [.ref p, a1, a2, a3] st h Q = iWp d mX9_says 65 [.ref p, a1, a2, a3] (.ref p :: st) h Q := w_aload_n dX9_says_64 rfl
theorem X9_says_65 : iWp d mX9_says 65 [a0, a1, a2, a3] st h Q = iWp d mX9_says 66 [a0, a1, a2, a3] (.int 2 :: st) h Q := w_iconst dX9_says_65 rfl
theorem X9_says_66 : iWp d mX9_says 66 [a0, a1, a2, .int x] st h Q = iWp d mX9_says 67 [a0, a1, a2, .int x] (.int x :: st) h Q := w_iload_n dX9_says_66 rfl
theorem X9_says_67 (he : iEv mX9_of [.ref p, .int x0, .int x1] h (some (.int rv)) h2) (ho : iObj h p 9 = true) : iWp 2 mX9_says 67 [a0, a1, a2, a3] [.int x1, .int x0, .ref p] h Q = iWp 2 mX9_says 70 [a0, a1, a2, a3] [.int rv] h2 Q := iWp_cV dX9_says_67 fK_9_123 rfl rfl ho (Nat.le_of_ble_eq_true rfl) (Nat.le_of_ble_eq_true rfl) rfl (Nat.le_of_ble_eq_true rfl) he rfl
theorem X9_says_70 : iWp d mX9_says 70 [a0, a1, a2, a3] st h Q = iWp d mX9_says 71 [a0, a1, a2, a3] (.int 2 :: st) h Q := w_iconst dX9_says_70 rfl
theorem X9_says_71 : iWp d mX9_says 71 [a0, a1, a2, a3] (.int y :: .int x :: st) h Q = if x < y then iWp d mX9_says 89 [a0, a1, a2, a3] st h Q else iWp d mX9_says 74 [a0, a1, a2, a3] st h Q := w_icmp_lt dX9_says_71 rfl
theorem X9_says_74 : iWp d mX9_says 74 [a0, a1, .int x, a3] st h Q = iWp d mX9_says 75 [a0, a1, .int x, a3] (.int x :: st) h Q := w_iload_n dX9_says_74 rfl
theorem X9_says_75 : iWp d mX9_says 75 [a0, a1, a2, a3] st h Q = iWp d mX9_says 76 [a0, a1, a2, a3] (.int 3 :: st) h Q := w_iconst dX9_says_75 rfl
theorem X9_says_76 : iWp d mX9_says 76 [a0, a1, a2, a3] (.int y :: .int x :: st) h Q = if x = y then iWp d mX9_says 79 [a0, a1, a2, a3] st h Q else iWp d mX9_says 96 [a0, a1, a2, a3] st h Q := w_icmp_ne dX9_says_76 rfl
theorem X9_says_79 : iWp d mX9_says 79 [.ref p, a1, a2, a3] st h Q = iWp d mX9_says 80 [.ref p, a1, a2, a3] (.ref p :: st) h Q := w_aload_n dX9_says_79 rfl
theorem X9_says_80 : iWp d mX9_says 80 [a0, a1, a2, a3] st h Q = iWp d mX9_says 81 [a0, a1, a2, a3] (.int 2 :: st) h Q := w_iconst dX9_says_80 rfl
theorem X9_says_81 : iWp d mX9_says 81 [a0, a1, a2, .int x] st h Q = iWp d mX9_says 82 [a0, a1, a2, .int x] (.int x :: st) h Q := w_iload_n dX9_says_81 rfl
theorem X9_says_82 (he : iEv mX9_of [.ref p, .int x0, .int x1] h (some (.int rv)) h2) (ho : iObj h p 9 = true) : iWp 2 mX9_says 82 [a0, a1, a2, a3] [.int x1, .int x0, .ref p] h Q = iWp 2 mX9_says 85 [a0, a1, a2, a3] [.int rv] h2 Q := iWp_cV dX9_says_82 fK_9_123 rfl rfl ho (Nat.le_of_ble_eq_true rfl) (Nat.le_of_ble_eq_true rfl) rfl (Nat.le_of_ble_eq_true rfl) he rfl
theorem X9_says_85 : iWp d mX9_says 85 [a0, a1, a2, a3] st h Q = iWp d mX9_says 86 [a0, a1, a2, a3] (.int 3 :: st) h Q := w_iconst dX9_says_85 rfl
theorem X9_says_86 : iWp d mX9_says 86 [a0, a1, a2, a3] (.int y :: .int x :: st) h Q = if x = y then iWp d mX9_says 96 [a0, a1, a2, a3] st h Q else iWp d mX9_says 89 [a0, a1, a2, a3] st h Q := w_icmp_eq dX9_says_86 rfl
theorem X9_says_89 : iWp d mX9_says 89 [.ref p, a1, a2, a3] st h Q = iWp d mX9_says 90 [.ref p, a1, a2, a3] (.ref p :: st) h Q := w_aload_n dX9_says_89 rfl
theorem X9_says_90 : iWp d mX9_says 90 [a0, a1, a2, a3] st h Q = iWp d mX9_says 92 [a0, a1, a2, a3] (.int (-2) :: st) h Q := w_bipush dX9_says_90 rfl
theorem X9_says_92 (he : iEv mX9_no [.ref p, .int x0] h (some (.int rv)) h2) (ho : iObj h p 9 = true) : iWp 2 mX9_says 92 [a0, a1, a2, a3] [.int x0, .ref p] h Q = iWp 2 mX9_says 95 [a0, a1, a2, a3] [.int rv] h2 Q := iWp_cV dX9_says_92 fK_9_99 rfl rfl ho (Nat.le_of_ble_eq_true rfl) (Nat.le_of_ble_eq_true rfl) rfl (Nat.le_of_ble_eq_true rfl) he rfl
theorem X9_says_95 : iWp d mX9_says 95 [a0, a1, a2, a3] [.int x] h Q = Q (some (.int x)) h := w_ireti dX9_says_95 rfl
theorem X9_says_96 : iWp d mX9_says 96 [a0, a1, a2, .int x] st h Q = iWp d mX9_says 97 [a0, a1, a2, .int x] (.int x :: st) h Q := w_iload_n dX9_says_96 rfl
theorem X9_says_97 : iWp d mX9_says 97 [a0, a1, a2, a3] (.int x :: st) h Q = if 0 ≤ x then iWp d mX9_says 107 [a0, a1, a2, a3] st h Q else iWp d mX9_says 100 [a0, a1, a2, a3] st h Q := w_ifc_ge dX9_says_97 rfl
theorem X9_says_100 : iWp d mX9_says 100 [.ref p, a1, a2, a3] st h Q = iWp d mX9_says 101 [.ref p, a1, a2, a3] (.ref p :: st) h Q := w_aload_n dX9_says_100 rfl
theorem X9_says_101 : iWp d mX9_says 101 [a0, a1, a2, a3] st h Q = iWp d mX9_says 103 [a0, a1, a2, a3] (.int (-3) :: st) h Q := w_bipush dX9_says_101 rfl
theorem X9_says_103 (he : iEv mX9_no [.ref p, .int x0] h (some (.int rv)) h2) (ho : iObj h p 9 = true) : iWp 2 mX9_says 103 [a0, a1, a2, a3] [.int x0, .ref p] h Q = iWp 2 mX9_says 106 [a0, a1, a2, a3] [.int rv] h2 Q := iWp_cV dX9_says_103 fK_9_99 rfl rfl ho (Nat.le_of_ble_eq_true rfl) (Nat.le_of_ble_eq_true rfl) rfl (Nat.le_of_ble_eq_true rfl) he rfl
theorem X9_says_106 : iWp d mX9_says 106 [a0, a1, a2, a3] [.int x] h Q = Q (some (.int x)) h := w_ireti dX9_says_106 rfl
theorem X9_says_107 : iWp d mX9_says 107 [a0, a1, .int x, a3] st h Q = iWp d mX9_says 108 [a0, a1, .int x, a3] (.int x :: st) h Q := w_iload_n dX9_says_107 rfl
theorem X9_says_108 : iWp d mX9_says 108 [a0, a1, a2, a3] st h Q = iWp d mX9_says 109 [a0, a1, a2, a3] (.int 2 :: st) h Q := w_iconst dX9_says_108 rfl
theorem X9_says_109 : iWp d mX9_says 109 [a0, a1, a2, a3] (.int y :: .int x :: st) h Q = if y ≤ x then iWp d mX9_says 121 [a0, a1, a2, a3] st h Q else iWp d mX9_says 112 [a0, a1, a2, a3] st h Q := w_icmp_ge dX9_says_109 rfl
theorem X9_says_112 : iWp d mX9_says 112 [.ref p, a1, a2, a3] st h Q = iWp d mX9_says 113 [.ref p, a1, a2, a3] (.ref p :: st) h Q := w_aload_n dX9_says_112 rfl
theorem X9_says_113 : iWp d mX9_says 113 [a0, a1, a2, a3] st h Q = iWp d mX9_says 114 [a0, a1, a2, a3] (.int 0 :: st) h Q := w_iconst dX9_says_113 rfl
theorem X9_says_114 : iWp d mX9_says 114 [a0, a1, a2, .int x] st h Q = iWp d mX9_says 115 [a0, a1, a2, .int x] (.int x :: st) h Q := w_iload_n dX9_says_114 rfl
theorem X9_says_115 (he : iEv mX9_of [.ref p, .int x0, .int x1] h (some (.int rv)) h2) (ho : iObj h p 9 = true) : iWp 2 mX9_says 115 [a0, a1, a2, a3] [.int x1, .int x0, .ref p] h Q = iWp 2 mX9_says 118 [a0, a1, a2, a3] [.int rv] h2 Q := iWp_cV dX9_says_115 fK_9_123 rfl rfl ho (Nat.le_of_ble_eq_true rfl) (Nat.le_of_ble_eq_true rfl) rfl (Nat.le_of_ble_eq_true rfl) he rfl
theorem X9_says_118 : iWp d mX9_says 118 [a0, a1, a2, a3] st h Q = iWp d mX9_says 141 [a0, a1, a2, a3] st h Q := w_goto dX9_says_118 rfl
theorem X9_says_121 : iWp d mX9_says 121 [a0, a1, .int x, a3] st h Q = iWp d mX9_says 122 [a0, a1, .int x, a3] (.int x :: st) h Q := w_iload_n dX9_says_121 rfl
theorem X9_says_122 : iWp d mX9_says 122 [a0, a1, a2, a3] st h Q = iWp d mX9_says 123 [a0, a1, a2, a3] (.int 2 :: st) h Q := w_iconst dX9_says_122 rfl
theorem X9_says_123 : iWp d mX9_says 123 [a0, a1, a2, a3] (.int y :: .int x :: st) h Q = if x = y then iWp d mX9_says 126 [a0, a1, a2, a3] st h Q else iWp d mX9_says 135 [a0, a1, a2, a3] st h Q := w_icmp_ne dX9_says_123 rfl
theorem X9_says_126 : iWp d mX9_says 126 [.ref p, a1, a2, a3] st h Q = iWp d mX9_says 127 [.ref p, a1, a2, a3] (.ref p :: st) h Q := w_aload_n dX9_says_126 rfl
theorem X9_says_127 : iWp d mX9_says 127 [a0, a1, a2, a3] st h Q = iWp d mX9_says 128 [a0, a1, a2, a3] (.int 3 :: st) h Q := w_iconst dX9_says_127 rfl
theorem X9_says_128 : iWp d mX9_says 128 [a0, a1, a2, .int x] st h Q = iWp d mX9_says 129 [a0, a1, a2, .int x] (.int x :: st) h Q := w_iload_n dX9_says_128 rfl
theorem X9_says_129 (he : iEv mX9_of [.ref p, .int x0, .int x1] h (some (.int rv)) h2) (ho : iObj h p 9 = true) : iWp 2 mX9_says 129 [a0, a1, a2, a3] [.int x1, .int x0, .ref p] h Q = iWp 2 mX9_says 132 [a0, a1, a2, a3] [.int rv] h2 Q := iWp_cV dX9_says_129 fK_9_123 rfl rfl ho (Nat.le_of_ble_eq_true rfl) (Nat.le_of_ble_eq_true rfl) rfl (Nat.le_of_ble_eq_true rfl) he rfl
theorem X9_says_132 : iWp d mX9_says 132 [a0, a1, a2, a3] st h Q = iWp d mX9_says 141 [a0, a1, a2, a3] st h Q := w_goto dX9_says_132 rfl
theorem X9_says_135 : iWp d mX9_says 135 [.ref p, a1, a2, a3] st h Q = iWp d mX9_says 136 [.ref p, a1, a2, a3] (.ref p :: st) h Q := w_aload_n dX9_says_135 rfl
theorem X9_says_136 : iWp d mX9_says 136 [a0, a1, a2, a3] st h Q = iWp d mX9_says 137 [a0, a1, a2, a3] (.int 4 :: st) h Q := w_iconst dX9_says_136 rfl
theorem X9_says_137 : iWp d mX9_says 137 [a0, a1, a2, .int x] st h Q = iWp d mX9_says 138 [a0, a1, a2, .int x] (.int x :: st) h Q := w_iload_n dX9_says_137 rfl
theorem X9_says_138 (he : iEv mX9_of [.ref p, .int x0, .int x1] h (some (.int rv)) h2) (ho : iObj h p 9 = true) : iWp 2 mX9_says 138 [a0, a1, a2, a3] [.int x1, .int x0, .ref p] h Q = iWp 2 mX9_says 141 [a0, a1, a2, a3] [.int rv] h2 Q := iWp_cV dX9_says_138 fK_9_123 rfl rfl ho (Nat.le_of_ble_eq_true rfl) (Nat.le_of_ble_eq_true rfl) rfl (Nat.le_of_ble_eq_true rfl) he rfl
theorem X9_says_141 : iWp d mX9_says 141 [a0, a1, a2, a3] [.int x] h Q = Q (some (.int x)) h := w_ireti dX9_says_141 rfl
theorem I9_says {Q : Option Value → iHp → Prop} (hw : iWp 2 mX9_says 0 [.ref p, .int x0, .int x1, iU] [] h Q) : ∃ r h1, iEv mX9_says [.ref p, .int x0, .int x1] h r h1 ∧ Q r h1 := iEv_of (by rfl) rfl hw
theorem J9_says {r : Option Value} {h1 : iHp} (hw : iWp 2 mX9_says 0 [.ref p, .int x0, .int x1, iU] [] h (fun r' h' => r' = r ∧ h' = h1)) : iEv mX9_says [.ref p, .int x0, .int x1] h r h1 := iEv_ev (by rfl) rfl hw
theorem X9_seed_0 : iWp d mX9_seed 0 [.ref p, a1, a2] st h Q = iWp d mX9_seed 1 [.ref p, a1, a2] (.ref p :: st) h Q := w_aload_n dX9_seed_0 rfl
theorem X9_seed_1 : iWp d mX9_seed 1 [a0, a1, a2] (.ref p :: st) h Q = iOb (iGet h p 9 10) (fun v => iWp d mX9_seed 4 [a0, a1, a2] (v :: st) h Q) := w_getf dX9_seed_1 fF_9_92
theorem X9_seed_4 : iWp d mX9_seed 4 [a0, a1, a2] (.int x :: st) h Q = iWp d mX9_seed 5 [a0, iClr a1, .int x] st h Q := w_istore_n dX9_seed_4 (Nat.le_of_ble_eq_true rfl) rfl
theorem X9_seed_5 : iWp d mX9_seed 5 [.ref p, a1, a2] st h Q = iWp d mX9_seed 6 [.ref p, a1, a2] (.ref p :: st) h Q := w_aload_n dX9_seed_5 rfl
theorem X9_seed_6 : iWp d mX9_seed 6 [a0, .int x, a2] st h Q = iWp d mX9_seed 7 [a0, .int x, a2] (.int x :: st) h Q := w_iload_n dX9_seed_6 rfl
theorem X9_seed_7 : iWp d mX9_seed 7 [a0, a1, a2] (.int x :: .ref p :: st) h Q = iOb (iPut h p 9 10 (.int x)) (fun g => iWp d mX9_seed 10 [a0, a1, a2] st g Q) := w_putf dX9_seed_7 fF_9_92 ⟨rfl, (Or.inl rfl)⟩
theorem X9_seed_10 : iWp d mX9_seed 10 [a0, a1, .int x] st h Q = iWp d mX9_seed 11 [a0, a1, .int x] (.int x :: st) h Q := w_iload_n dX9_seed_10 rfl
theorem X9_seed_11 : iWp d mX9_seed 11 [a0, a1, a2] [.int x] h Q = Q (some (.int x)) h := w_ireti dX9_seed_11 rfl
theorem I9_seed {Q : Option Value → iHp → Prop} (hw : iWp 1 mX9_seed 0 [.ref p, .int x0, iU] [] h Q) : ∃ r h1, iEv mX9_seed [.ref p, .int x0] h r h1 ∧ Q r h1 := iEv_of (by rfl) rfl hw
theorem J9_seed {r : Option Value} {h1 : iHp} (hw : iWp 1 mX9_seed 0 [.ref p, .int x0, iU] [] h (fun r' h' => r' = r ∧ h' = h1)) : iEv mX9_seed [.ref p, .int x0] h r h1 := iEv_ev (by rfl) rfl hw
theorem X9_set_0 : iWp d mX9_set 0 [.ref p, a1, a2, a3, a4, a5, a6] st h Q = iWp d mX9_set 1 [.ref p, a1, a2, a3, a4, a5, a6] (.ref p :: st) h Q := w_aload_n dX9_set_0 rfl
theorem X9_set_1 : iWp d mX9_set 1 [a0, .int x, a2, a3, a4, a5, a6] st h Q = iWp d mX9_set 2 [a0, .int x, a2, a3, a4, a5, a6] (.int x :: st) h Q := w_iload_n dX9_set_1 rfl
theorem X9_set_2 (he : iEv mX9_noRow [.ref p, .int x0] h (some (.int rv)) h2) (ho : iObj h p 9 = true) : iWp 3 mX9_set 2 [a0, a1, a2, a3, a4, a5, a6] [.int x0, .ref p] h Q = iWp 3 mX9_set 5 [a0, a1, a2, a3, a4, a5, a6] [.int rv] h2 Q := iWp_cV dX9_set_2 fK_9_117 rfl rfl ho (Nat.le_of_ble_eq_true rfl) (Nat.le_of_ble_eq_true rfl) rfl (Nat.le_of_ble_eq_true rfl) he rfl
theorem X9_set_5 : iWp d mX9_set 5 [a0, a1, a2, a3, a4, a5, a6] (.int x :: st) h Q = iWp d mX9_set 7 [a0, a1, a2, a3, iClr a4, .int x, a6] st h Q := w_istore dX9_set_5 (Nat.le_of_ble_eq_true rfl) rfl
theorem X9_set_7 : iWp d mX9_set 7 [a0, a1, a2, a3, a4, .int x, a6] st h Q = iWp d mX9_set 9 [a0, a1, a2, a3, a4, .int x, a6] (.int x :: st) h Q := w_iload dX9_set_7 rfl
theorem X9_set_9 : iWp d mX9_set 9 [a0, a1, a2, a3, a4, a5, a6] (.int x :: st) h Q = if 0 ≤ x then iWp d mX9_set 19 [a0, a1, a2, a3, a4, a5, a6] st h Q else iWp d mX9_set 12 [a0, a1, a2, a3, a4, a5, a6] st h Q := w_ifc_ge dX9_set_9 rfl
theorem X9_set_12 : iWp d mX9_set 12 [.ref p, a1, a2, a3, a4, a5, a6] st h Q = iWp d mX9_set 13 [.ref p, a1, a2, a3, a4, a5, a6] (.ref p :: st) h Q := w_aload_n dX9_set_12 rfl
theorem X9_set_13 : iWp d mX9_set 13 [a0, a1, a2, a3, a4, .int x, a6] st h Q = iWp d mX9_set 15 [a0, a1, a2, a3, a4, .int x, a6] (.int x :: st) h Q := w_iload dX9_set_13 rfl
theorem X9_set_15 (he : iEv mX9_no [.ref p, .int x0] h (some (.int rv)) h2) (ho : iObj h p 9 = true) : iWp 3 mX9_set 15 [a0, a1, a2, a3, a4, a5, a6] [.int x0, .ref p] h Q = iWp 3 mX9_set 18 [a0, a1, a2, a3, a4, a5, a6] [.int rv] h2 Q := iWp_cV dX9_set_15 fK_9_99 rfl rfl ho (Nat.le_of_ble_eq_true rfl) (Nat.le_of_ble_eq_true rfl) rfl (Nat.le_of_ble_eq_true rfl) he rfl
theorem X9_set_18 : iWp d mX9_set 18 [a0, a1, a2, a3, a4, a5, a6] [.int x] h Q = Q (some (.int x)) h := w_ireti dX9_set_18 rfl
theorem X9_set_19 : iWp d mX9_set 19 [a0, a1, .int x, a3, a4, a5, a6] st h Q = iWp d mX9_set 20 [a0, a1, .int x, a3, a4, a5, a6] (.int x :: st) h Q := w_iload_n dX9_set_19 rfl
theorem X9_set_20 : iWp d mX9_set 20 [a0, a1, a2, a3, a4, a5, a6] st h Q = iWp d mX9_set 21 [a0, a1, a2, a3, a4, a5, a6] (.int 0 :: st) h Q := w_iconst dX9_set_20 rfl
theorem X9_set_21 : iWp d mX9_set 21 [.ref p, a1, a2, a3, a4, a5, a6] st h Q = iWp d mX9_set 22 [.ref p, a1, a2, a3, a4, a5, a6] (.ref p :: st) h Q := w_aload_n dX9_set_21 rfl
theorem X9_set_22 : iWp d mX9_set 22 [a0, a1, a2, a3, a4, a5, a6] (.ref p :: st) h Q = iOb (iGet h p 9 12) (fun v => iWp d mX9_set 25 [a0, a1, a2, a3, a4, a5, a6] (v :: st) h Q) := w_getf dX9_set_22 fF_9_34
theorem X9_set_25 : iWp d mX9_set 25 [a0, .int x, a2, a3, a4, a5, a6] st h Q = iWp d mX9_set 26 [a0, .int x, a2, a3, a4, a5, a6] (.int x :: st) h Q := w_iload_n dX9_set_25 rfl
theorem X9_set_26 : iWp d mX9_set 26 [a0, a1, a2, a3, a4, a5, a6] (.int x :: .ref p :: st) h Q = iOb (iLdI h p x) (fun v => iWp d mX9_set 27 [a0, a1, a2, a3, a4, a5, a6] (.int v :: st) h Q) := w_iaload dX9_set_26
theorem X9_set_27 : iWp d mX9_set 27 [a0, a1, a2, a3, a4, a5, a6] st h Q = iWp d mX9_set 28 [a0, a1, a2, a3, a4, a5, a6] (.int 1 :: st) h Q := w_iconst dX9_set_27 rfl
theorem X9_set_28 : iWp d mX9_set 28 [a0, a1, a2, a3, a4, a5, a6] (.int y :: .int x :: st) h Q = iWp d mX9_set 29 [a0, a1, a2, a3, a4, a5, a6] (.int (x - y) :: st) h Q := w_isub dX9_set_28
theorem X9_set_29 (he : iEv mX9_within [.int x0, .int x1, .int x2] h (some (.int rv)) h2) : iWp 3 mX9_set 29 [a0, a1, a2, a3, a4, a5, a6] [.int x2, .int x1, .int x0] h Q = iWp 3 mX9_set 32 [a0, a1, a2, a3, a4, a5, a6] [.int rv] h2 Q := iWp_cS dX9_set_29 fK_9_106 rfl rfl (Nat.le_of_ble_eq_true rfl) (Nat.le_of_ble_eq_true rfl) rfl (Nat.le_of_ble_eq_true rfl) he rfl
theorem X9_set_32 : iWp d mX9_set 32 [a0, a1, a2, a3, a4, a5, a6] (.int x :: st) h Q = if x = 0 then iWp d mX9_set 35 [a0, a1, a2, a3, a4, a5, a6] st h Q else iWp d mX9_set 42 [a0, a1, a2, a3, a4, a5, a6] st h Q := w_ifc_ne dX9_set_32 rfl
theorem X9_set_35 : iWp d mX9_set 35 [.ref p, a1, a2, a3, a4, a5, a6] st h Q = iWp d mX9_set 36 [.ref p, a1, a2, a3, a4, a5, a6] (.ref p :: st) h Q := w_aload_n dX9_set_35 rfl
theorem X9_set_36 : iWp d mX9_set 36 [a0, a1, a2, a3, a4, a5, a6] st h Q = iWp d mX9_set 38 [a0, a1, a2, a3, a4, a5, a6] (.int (-5) :: st) h Q := w_bipush dX9_set_36 rfl
theorem X9_set_38 (he : iEv mX9_no [.ref p, .int x0] h (some (.int rv)) h2) (ho : iObj h p 9 = true) : iWp 3 mX9_set 38 [a0, a1, a2, a3, a4, a5, a6] [.int x0, .ref p] h Q = iWp 3 mX9_set 41 [a0, a1, a2, a3, a4, a5, a6] [.int rv] h2 Q := iWp_cV dX9_set_38 fK_9_99 rfl rfl ho (Nat.le_of_ble_eq_true rfl) (Nat.le_of_ble_eq_true rfl) rfl (Nat.le_of_ble_eq_true rfl) he rfl
theorem X9_set_41 : iWp d mX9_set 41 [a0, a1, a2, a3, a4, a5, a6] [.int x] h Q = Q (some (.int x)) h := w_ireti dX9_set_41 rfl
theorem X9_set_42 : iWp d mX9_set 42 [.ref p, a1, a2, a3, a4, a5, a6] st h Q = iWp d mX9_set 43 [.ref p, a1, a2, a3, a4, a5, a6] (.ref p :: st) h Q := w_aload_n dX9_set_42 rfl
theorem X9_set_43 : iWp d mX9_set 43 [a0, a1, a2, a3, a4, a5, a6] (.ref p :: st) h Q = iOb (iGet h p 9 11) (fun v => iWp d mX9_set 46 [a0, a1, a2, a3, a4, a5, a6] (v :: st) h Q) := w_getf dX9_set_43 fF_9_31
theorem X9_set_46 : iWp d mX9_set 46 [a0, .int x, a2, a3, a4, a5, a6] st h Q = iWp d mX9_set 47 [a0, .int x, a2, a3, a4, a5, a6] (.int x :: st) h Q := w_iload_n dX9_set_46 rfl
theorem X9_set_47 : iWp d mX9_set 47 [a0, a1, a2, a3, a4, a5, a6] (.int x :: .ref p :: st) h Q = iOb (iLdI h p x) (fun v => iWp d mX9_set 48 [a0, a1, a2, a3, a4, a5, a6] (.int v :: st) h Q) := w_iaload dX9_set_47
theorem X9_set_48 : iWp d mX9_set 48 [a0, a1, a2, a3, a4, a5, a6] st h Q = iWp d mX9_set 50 [a0, a1, a2, a3, a4, a5, a6] (.int 100 :: st) h Q := w_bipush dX9_set_48 rfl
theorem X9_set_50 : iWp d mX9_set 50 [a0, a1, a2, a3, a4, a5, a6] (.int y :: .int x :: st) h Q = iWp d mX9_set 51 [a0, a1, a2, a3, a4, a5, a6] (.int (x - y) :: st) h Q := w_isub dX9_set_50
theorem X9_set_51 : iWp d mX9_set 51 [a0, a1, a2, a3, a4, a5, a6] (.int x :: st) h Q = iWp d mX9_set 53 [a0, a1, a2, a3, a4, iClr a5, .int x] st h Q := w_istore dX9_set_51 (Nat.le_of_ble_eq_true rfl) rfl
theorem X9_set_53 : iWp d mX9_set 53 [.ref p, a1, a2, a3, a4, a5, a6] st h Q = iWp d mX9_set 54 [.ref p, a1, a2, a3, a4, a5, a6] (.ref p :: st) h Q := w_aload_n dX9_set_53 rfl
theorem X9_set_54 : iWp d mX9_set 54 [a0, a1, a2, a3, a4, a5, a6] (.ref p :: st) h Q = iOb (iGet h p 9 13) (fun v => iWp d mX9_set 57 [a0, a1, a2, a3, a4, a5, a6] (v :: st) h Q) := w_getf dX9_set_54 fF_9_37
theorem X9_set_57 : iWp d mX9_set 57 [a0, a1, a2, a3, a4, a5, a6] st h Q = iWp d mX9_set 60 [a0, a1, a2, a3, a4, a5, a6] (.int 160 :: st) h Q := w_sipush dX9_set_57 rfl
theorem X9_set_60 : iWp d mX9_set 60 [a0, .int x, a2, a3, a4, a5, a6] st h Q = iWp d mX9_set 61 [a0, .int x, a2, a3, a4, a5, a6] (.int x :: st) h Q := w_iload_n dX9_set_60 rfl
theorem X9_set_61 : iWp d mX9_set 61 [a0, a1, a2, a3, a4, a5, a6] (.int y :: .int x :: st) h Q = iWp d mX9_set 62 [a0, a1, a2, a3, a4, a5, a6] (.int (x * y) :: st) h Q := w_imul dX9_set_61
theorem X9_set_62 : iWp d mX9_set 62 [a0, a1, .int x, a3, a4, a5, a6] st h Q = iWp d mX9_set 63 [a0, a1, .int x, a3, a4, a5, a6] (.int x :: st) h Q := w_iload_n dX9_set_62 rfl
theorem X9_set_63 : iWp d mX9_set 63 [a0, a1, a2, a3, a4, a5, a6] (.int y :: .int x :: st) h Q = iWp d mX9_set 64 [a0, a1, a2, a3, a4, a5, a6] (.int (x + y) :: st) h Q := w_iadd dX9_set_63
theorem X9_set_64 : iWp d mX9_set 64 [a0, a1, a2, a3, a4, a5, .int x] st h Q = iWp d mX9_set 66 [a0, a1, a2, a3, a4, a5, .int x] (.int x :: st) h Q := w_iload dX9_set_64 rfl
theorem X9_set_66 : iWp d mX9_set 66 [a0, a1, a2, a3, a4, a5, a6] (.int x :: st) h Q = if x = 0 then iWp d mX9_set 69 [a0, a1, a2, a3, a4, a5, a6] st h Q else iWp d mX9_set 76 [a0, a1, a2, a3, a4, a5, a6] st h Q := w_ifc_ne dX9_set_66 rfl
theorem X9_set_69 : iWp d mX9_set 69 [a0, a1, a2, .long u, a4, a5, a6] st h Q = iWp d mX9_set 70 [a0, a1, a2, .long u, a4, a5, a6] (.long u :: st) h Q := w_lload_n dX9_set_69 rfl
theorem X9_set_70 : iWp d mX9_set 70 [a0, a1, a2, a3, a4, a5, a6] (.long u :: st) h Q = iWp d mX9_set 71 [a0, a1, a2, a3, a4, a5, a6] (.int u.toInt32 :: st) h Q := w_l2i dX9_set_70
theorem X9_set_71 : iWp d mX9_set 71 [a0, a1, a2, a3, a4, a5, a6] (.int x :: st) h Q = iWp d mX9_set 72 [a0, a1, a2, a3, a4, a5, a6] (.int x.toInt8.toInt32 :: st) h Q := w_i2b dX9_set_71
theorem X9_set_72 : iWp d mX9_set 72 [a0, a1, a2, a3, a4, a5, a6] (.int x :: st) h Q = iWp d mX9_set 73 [a0, a1, a2, a3, a4, a5, a6] (.long x.toInt64 :: st) h Q := w_i2l dX9_set_72
theorem X9_set_73 : iWp d mX9_set 73 [a0, a1, a2, a3, a4, a5, a6] st h Q = iWp d mX9_set 102 [a0, a1, a2, a3, a4, a5, a6] st h Q := w_goto dX9_set_73 rfl
theorem X9_set_76 : iWp d mX9_set 76 [a0, a1, a2, a3, a4, a5, .int x] st h Q = iWp d mX9_set 78 [a0, a1, a2, a3, a4, a5, .int x] (.int x :: st) h Q := w_iload dX9_set_76 rfl
theorem X9_set_78 : iWp d mX9_set 78 [a0, a1, a2, a3, a4, a5, a6] st h Q = iWp d mX9_set 79 [a0, a1, a2, a3, a4, a5, a6] (.int 1 :: st) h Q := w_iconst dX9_set_78 rfl
theorem X9_set_79 : iWp d mX9_set 79 [a0, a1, a2, a3, a4, a5, a6] (.int y :: .int x :: st) h Q = if x = y then iWp d mX9_set 82 [a0, a1, a2, a3, a4, a5, a6] st h Q else iWp d mX9_set 89 [a0, a1, a2, a3, a4, a5, a6] st h Q := w_icmp_ne dX9_set_79 rfl
theorem X9_set_82 : iWp d mX9_set 82 [a0, a1, a2, .long u, a4, a5, a6] st h Q = iWp d mX9_set 83 [a0, a1, a2, .long u, a4, a5, a6] (.long u :: st) h Q := w_lload_n dX9_set_82 rfl
theorem X9_set_83 : iWp d mX9_set 83 [a0, a1, a2, a3, a4, a5, a6] (.long u :: st) h Q = iWp d mX9_set 84 [a0, a1, a2, a3, a4, a5, a6] (.int u.toInt32 :: st) h Q := w_l2i dX9_set_83
theorem X9_set_84 : iWp d mX9_set 84 [a0, a1, a2, a3, a4, a5, a6] (.int x :: st) h Q = iWp d mX9_set 85 [a0, a1, a2, a3, a4, a5, a6] (.int x.toInt16.toInt32 :: st) h Q := w_i2s dX9_set_84
theorem X9_set_85 : iWp d mX9_set 85 [a0, a1, a2, a3, a4, a5, a6] (.int x :: st) h Q = iWp d mX9_set 86 [a0, a1, a2, a3, a4, a5, a6] (.long x.toInt64 :: st) h Q := w_i2l dX9_set_85
theorem X9_set_86 : iWp d mX9_set 86 [a0, a1, a2, a3, a4, a5, a6] st h Q = iWp d mX9_set 102 [a0, a1, a2, a3, a4, a5, a6] st h Q := w_goto dX9_set_86 rfl
theorem X9_set_89 : iWp d mX9_set 89 [a0, a1, a2, a3, a4, a5, .int x] st h Q = iWp d mX9_set 91 [a0, a1, a2, a3, a4, a5, .int x] (.int x :: st) h Q := w_iload dX9_set_89 rfl
theorem X9_set_91 : iWp d mX9_set 91 [a0, a1, a2, a3, a4, a5, a6] st h Q = iWp d mX9_set 92 [a0, a1, a2, a3, a4, a5, a6] (.int 2 :: st) h Q := w_iconst dX9_set_91 rfl
theorem X9_set_92 : iWp d mX9_set 92 [a0, a1, a2, a3, a4, a5, a6] (.int y :: .int x :: st) h Q = if x = y then iWp d mX9_set 95 [a0, a1, a2, a3, a4, a5, a6] st h Q else iWp d mX9_set 101 [a0, a1, a2, a3, a4, a5, a6] st h Q := w_icmp_ne dX9_set_92 rfl
theorem X9_set_95 : iWp d mX9_set 95 [a0, a1, a2, .long u, a4, a5, a6] st h Q = iWp d mX9_set 96 [a0, a1, a2, .long u, a4, a5, a6] (.long u :: st) h Q := w_lload_n dX9_set_95 rfl
theorem X9_set_96 : iWp d mX9_set 96 [a0, a1, a2, a3, a4, a5, a6] (.long u :: st) h Q = iWp d mX9_set 97 [a0, a1, a2, a3, a4, a5, a6] (.int u.toInt32 :: st) h Q := w_l2i dX9_set_96
theorem X9_set_97 : iWp d mX9_set 97 [a0, a1, a2, a3, a4, a5, a6] (.int x :: st) h Q = iWp d mX9_set 98 [a0, a1, a2, a3, a4, a5, a6] (.long x.toInt64 :: st) h Q := w_i2l dX9_set_97
theorem X9_set_98 : iWp d mX9_set 98 [a0, a1, a2, a3, a4, a5, a6] st h Q = iWp d mX9_set 102 [a0, a1, a2, a3, a4, a5, a6] st h Q := w_goto dX9_set_98 rfl
theorem X9_set_101 : iWp d mX9_set 101 [a0, a1, a2, .long u, a4, a5, a6] st h Q = iWp d mX9_set 102 [a0, a1, a2, .long u, a4, a5, a6] (.long u :: st) h Q := w_lload_n dX9_set_101 rfl
theorem X9_set_102 : iWp d mX9_set 102 [a0, a1, a2, a3, a4, a5, a6] (.long u :: .int x :: .ref p :: st) h Q = iOb (iStL h p x u) (fun g => iWp d mX9_set 103 [a0, a1, a2, a3, a4, a5, a6] st g Q) := w_lastore dX9_set_102
theorem X9_set_103 : iWp d mX9_set 103 [a0, a1, a2, a3, a4, a5, a6] st h Q = iWp d mX9_set 104 [a0, a1, a2, a3, a4, a5, a6] (.int 1 :: st) h Q := w_iconst dX9_set_103 rfl
theorem X9_set_104 : iWp d mX9_set 104 [a0, a1, a2, a3, a4, a5, a6] [.int x] h Q = Q (some (.int x)) h := w_ireti dX9_set_104 rfl
theorem I9_set {Q : Option Value → iHp → Prop} (hw : iWp 3 mX9_set 0 [.ref p, .int x0, .int x1, .long u2, iU, iU, iU] [] h Q) : ∃ r h1, iEv mX9_set [.ref p, .int x0, .int x1, .long u2] h r h1 ∧ Q r h1 := iEv_of (by rfl) rfl hw
theorem J9_set {r : Option Value} {h1 : iHp} (hw : iWp 3 mX9_set 0 [.ref p, .int x0, .int x1, .long u2, iU, iU, iU] [] h (fun r' h' => r' = r ∧ h' = h1)) : iEv mX9_set [.ref p, .int x0, .int x1, .long u2] h r h1 := iEv_ev (by rfl) rfl hw
theorem X9_show_0 : iWp d mX9_show 0 [a0, .int x, a2] st h Q = iWp d mX9_show 1 [a0, .int x, a2] (.int x :: st) h Q := w_iload_n dX9_show_0 rfl
theorem X9_show_1 : iWp d mX9_show 1 [a0, a1, a2] st h Q = iWp d mX9_show 2 [a0, a1, a2] (.int 0 :: st) h Q := w_iconst dX9_show_1 rfl
theorem X9_show_2 : iWp d mX9_show 2 [a0, a1, a2] st h Q = iWp d mX9_show 4 [a0, a1, a2] (.int 7 :: st) h Q := w_bipush dX9_show_2 rfl
theorem X9_show_4 (he : iEv mX9_within [.int x0, .int x1, .int x2] h (some (.int rv)) h2) : iWp 3 mX9_show 4 [a0, a1, a2] [.int x2, .int x1, .int x0] h Q = iWp 3 mX9_show 7 [a0, a1, a2] [.int rv] h2 Q := iWp_cS dX9_show_4 fK_9_106 rfl rfl (Nat.le_of_ble_eq_true rfl) (Nat.le_of_ble_eq_true rfl) rfl (Nat.le_of_ble_eq_true rfl) he rfl
theorem X9_show_7 : iWp d mX9_show 7 [a0, a1, a2] (.int x :: st) h Q = if x = 0 then iWp d mX9_show 23 [a0, a1, a2] st h Q else iWp d mX9_show 10 [a0, a1, a2] st h Q := w_ifc_eq dX9_show_7 rfl
theorem X9_show_10 : iWp d mX9_show 10 [a0, a1, .int x] st h Q = iWp d mX9_show 11 [a0, a1, .int x] (.int x :: st) h Q := w_iload_n dX9_show_10 rfl
theorem X9_show_11 : iWp d mX9_show 11 [a0, a1, a2] st h Q = iWp d mX9_show 12 [a0, a1, a2] (.int (-1) :: st) h Q := w_iconst dX9_show_11 rfl
theorem X9_show_12 : iWp d mX9_show 12 [a0, a1, a2] (.int y :: .int x :: st) h Q = if x = y then iWp d mX9_show 29 [a0, a1, a2] st h Q else iWp d mX9_show 15 [a0, a1, a2] st h Q := w_icmp_eq dX9_show_12 rfl
theorem X9_show_15 : iWp d mX9_show 15 [.ref p, a1, a2] st h Q = iWp d mX9_show 16 [.ref p, a1, a2] (.ref p :: st) h Q := w_aload_n dX9_show_15 rfl
theorem X9_show_16 : iWp d mX9_show 16 [a0, a1, .int x] st h Q = iWp d mX9_show 17 [a0, a1, .int x] (.int x :: st) h Q := w_iload_n dX9_show_16 rfl
theorem X9_show_17 (he : iEv mX9_isPatch [.ref p, .int x0] h (some (.int rv)) h2) (ho : iObj h p 9 = true) : iWp 3 mX9_show 17 [a0, a1, a2] [.int x0, .ref p] h Q = iWp 3 mX9_show 20 [a0, a1, a2] [.int rv] h2 Q := iWp_cV dX9_show_17 fK_9_120 rfl rfl ho (Nat.le_of_ble_eq_true rfl) (Nat.le_of_ble_eq_true rfl) rfl (Nat.le_of_ble_eq_true rfl) he rfl
theorem X9_show_20 : iWp d mX9_show 20 [a0, a1, a2] (.int x :: st) h Q = if x = 0 then iWp d mX9_show 23 [a0, a1, a2] st h Q else iWp d mX9_show 29 [a0, a1, a2] st h Q := w_ifc_ne dX9_show_20 rfl
theorem X9_show_23 : iWp d mX9_show 23 [.ref p, a1, a2] st h Q = iWp d mX9_show 24 [.ref p, a1, a2] (.ref p :: st) h Q := w_aload_n dX9_show_23 rfl
theorem X9_show_24 : iWp d mX9_show 24 [a0, a1, a2] st h Q = iWp d mX9_show 25 [a0, a1, a2] (.int (-1) :: st) h Q := w_iconst dX9_show_24 rfl
theorem X9_show_25 (he : iEv mX9_no [.ref p, .int x0] h (some (.int rv)) h2) (ho : iObj h p 9 = true) : iWp 3 mX9_show 25 [a0, a1, a2] [.int x0, .ref p] h Q = iWp 3 mX9_show 28 [a0, a1, a2] [.int rv] h2 Q := iWp_cV dX9_show_25 fK_9_99 rfl rfl ho (Nat.le_of_ble_eq_true rfl) (Nat.le_of_ble_eq_true rfl) rfl (Nat.le_of_ble_eq_true rfl) he rfl
theorem X9_show_28 : iWp d mX9_show 28 [a0, a1, a2] [.int x] h Q = Q (some (.int x)) h := w_ireti dX9_show_28 rfl
theorem X9_show_29 : iWp d mX9_show 29 [.ref p, a1, a2] st h Q = iWp d mX9_show 30 [.ref p, a1, a2] (.ref p :: st) h Q := w_aload_n dX9_show_29 rfl
theorem X9_show_30 : iWp d mX9_show 30 [a0, a1, a2] (.ref p :: st) h Q = iOb (iGet h p 9 11) (fun v => iWp d mX9_show 33 [a0, a1, a2] (v :: st) h Q) := w_getf dX9_show_30 fF_9_31
theorem X9_show_33 : iWp d mX9_show 33 [a0, .int x, a2] st h Q = iWp d mX9_show 34 [a0, .int x, a2] (.int x :: st) h Q := w_iload_n dX9_show_33 rfl
theorem X9_show_34 : iWp d mX9_show 34 [a0, a1, .int x] st h Q = iWp d mX9_show 35 [a0, a1, .int x] (.int x :: st) h Q := w_iload_n dX9_show_34 rfl
theorem X9_show_35 : iWp d mX9_show 35 [a0, a1, a2] (.int y :: .int x :: .ref p :: st) h Q = iOb (iStI h p x y) (fun g => iWp d mX9_show 36 [a0, a1, a2] st g Q) := w_iastore dX9_show_35
theorem X9_show_36 : iWp d mX9_show 36 [a0, a1, .int x] st h Q = iWp d mX9_show 37 [a0, a1, .int x] (.int x :: st) h Q := w_iload_n dX9_show_36 rfl
theorem X9_show_37 : iWp d mX9_show 37 [a0, a1, a2] st h Q = iWp d mX9_show 38 [a0, a1, a2] (.int (-1) :: st) h Q := w_iconst dX9_show_37 rfl
theorem X9_show_38 : iWp d mX9_show 38 [a0, a1, a2] (.int y :: .int x :: st) h Q = if x = y then iWp d mX9_show 41 [a0, a1, a2] st h Q else iWp d mX9_show 45 [a0, a1, a2] st h Q := w_icmp_ne dX9_show_38 rfl
theorem X9_show_41 : iWp d mX9_show 41 [a0, a1, a2] st h Q = iWp d mX9_show 42 [a0, a1, a2] (.int 0 :: st) h Q := w_iconst dX9_show_41 rfl
theorem X9_show_42 : iWp d mX9_show 42 [a0, a1, a2] st h Q = iWp d mX9_show 46 [a0, a1, a2] st h Q := w_goto dX9_show_42 rfl
theorem X9_show_45 : iWp d mX9_show 45 [a0, a1, a2] st h Q = iWp d mX9_show 46 [a0, a1, a2] (.int 1 :: st) h Q := w_iconst dX9_show_45 rfl
theorem X9_show_46 : iWp d mX9_show 46 [a0, a1, a2] [.int x] h Q = Q (some (.int x)) h := w_ireti dX9_show_46 rfl
theorem I9_show {Q : Option Value → iHp → Prop} (hw : iWp 3 mX9_show 0 [.ref p, .int x0, .int x1] [] h Q) : ∃ r h1, iEv mX9_show [.ref p, .int x0, .int x1] h r h1 ∧ Q r h1 := iEv_of (by rfl) rfl hw
theorem J9_show {r : Option Value} {h1 : iHp} (hw : iWp 3 mX9_show 0 [.ref p, .int x0, .int x1] [] h (fun r' h' => r' = r ∧ h' = h1)) : iEv mX9_show [.ref p, .int x0, .int x1] h r h1 := iEv_ev (by rfl) rfl hw
theorem X9_sign_0 : iWp d mX9_sign 0 [.ref p] st h Q = iWp d mX9_sign 1 [.ref p] (.ref p :: st) h Q := w_aload_n dX9_sign_0 rfl
theorem X9_sign_1 : iWp d mX9_sign 1 [a0] (.ref p :: st) h Q = iOb (iGet h p 9 16) (fun v => iWp d mX9_sign 4 [a0] (v :: st) h Q) := w_getf dX9_sign_1 fF_9_139
theorem X9_sign_4 : iWp d mX9_sign 4 [.ref p] st h Q = iWp d mX9_sign 5 [.ref p] (.ref p :: st) h Q := w_aload_n dX9_sign_4 rfl
theorem X9_sign_5 : iWp d mX9_sign 5 [a0] (.ref p :: st) h Q = iOb (iGet h p 9 12) (fun v => iWp d mX9_sign 8 [a0] (v :: st) h Q) := w_getf dX9_sign_5 fF_9_34
theorem X9_sign_8 : iWp d mX9_sign 8 [.ref p] st h Q = iWp d mX9_sign 9 [.ref p] (.ref p :: st) h Q := w_aload_n dX9_sign_8 rfl
theorem X9_sign_9 : iWp d mX9_sign 9 [a0] (.ref p :: st) h Q = iOb (iGet h p 9 15) (fun v => iWp d mX9_sign 12 [a0] (v :: st) h Q) := w_getf dX9_sign_9 fF_9_142
theorem X9_sign_12 : iWp d mX9_sign 12 [a0] (.int x :: .ref p :: st) h Q = iOb (iLdI h p x) (fun v => iWp d mX9_sign 13 [a0] (.int v :: st) h Q) := w_iaload dX9_sign_12
theorem X9_sign_13 : iWp d mX9_sign 13 [a0] (.int y :: .int x :: st) h Q = if y ≤ x then iWp d mX9_sign 38 [a0] st h Q else iWp d mX9_sign 16 [a0] st h Q := w_icmp_ge dX9_sign_13 rfl
theorem X9_sign_16 : iWp d mX9_sign 16 [.ref p] st h Q = iWp d mX9_sign 17 [.ref p] (.ref p :: st) h Q := w_aload_n dX9_sign_16 rfl
theorem X9_sign_17 : iWp d mX9_sign 17 [a0] (.ref p :: st) h Q = iOb (iGet h p 9 13) (fun v => iWp d mX9_sign 20 [a0] (v :: st) h Q) := w_getf dX9_sign_17 fF_9_37
theorem X9_sign_20 : iWp d mX9_sign 20 [a0] st h Q = iWp d mX9_sign 23 [a0] (.int 160 :: st) h Q := w_sipush dX9_sign_20 rfl
theorem X9_sign_23 : iWp d mX9_sign 23 [.ref p] st h Q = iWp d mX9_sign 24 [.ref p] (.ref p :: st) h Q := w_aload_n dX9_sign_23 rfl
theorem X9_sign_24 : iWp d mX9_sign 24 [a0] (.ref p :: st) h Q = iOb (iGet h p 9 15) (fun v => iWp d mX9_sign 27 [a0] (v :: st) h Q) := w_getf dX9_sign_24 fF_9_142
theorem X9_sign_27 : iWp d mX9_sign 27 [a0] (.int y :: .int x :: st) h Q = iWp d mX9_sign 28 [a0] (.int (x * y) :: st) h Q := w_imul dX9_sign_27
theorem X9_sign_28 : iWp d mX9_sign 28 [.ref p] st h Q = iWp d mX9_sign 29 [.ref p] (.ref p :: st) h Q := w_aload_n dX9_sign_28 rfl
theorem X9_sign_29 : iWp d mX9_sign 29 [a0] (.ref p :: st) h Q = iOb (iGet h p 9 16) (fun v => iWp d mX9_sign 32 [a0] (v :: st) h Q) := w_getf dX9_sign_29 fF_9_139
theorem X9_sign_32 : iWp d mX9_sign 32 [a0] (.int y :: .int x :: st) h Q = iWp d mX9_sign 33 [a0] (.int (x + y) :: st) h Q := w_iadd dX9_sign_32
theorem X9_sign_33 : iWp d mX9_sign 33 [a0] (.int x :: .ref p :: st) h Q = iOb (iLdL h p x) (fun v => iWp d mX9_sign 34 [a0] (.long v :: st) h Q) := w_laload dX9_sign_33
theorem X9_sign_34 : iWp d mX9_sign 34 [a0] (.long u :: st) h Q = iWp d mX9_sign 35 [a0] (.int u.toInt32 :: st) h Q := w_l2i dX9_sign_34
theorem X9_sign_35 : iWp d mX9_sign 35 [a0] st h Q = iWp d mX9_sign 39 [a0] st h Q := w_goto dX9_sign_35 rfl
theorem X9_sign_38 : iWp d mX9_sign 38 [a0] st h Q = iWp d mX9_sign 39 [a0] (.int (-1) :: st) h Q := w_iconst dX9_sign_38 rfl
theorem X9_sign_39 : iWp d mX9_sign 39 [a0] [.int x] h Q = Q (some (.int x)) h := w_ireti dX9_sign_39 rfl
theorem I9_sign {Q : Option Value → iHp → Prop} (hw : iWp 1 mX9_sign 0 [.ref p] [] h Q) : ∃ r h1, iEv mX9_sign [.ref p] h r h1 ∧ Q r h1 := iEv_of (by rfl) rfl hw
theorem J9_sign {r : Option Value} {h1 : iHp} (hw : iWp 1 mX9_sign 0 [.ref p] [] h (fun r' h' => r' = r ∧ h' = h1)) : iEv mX9_sign [.ref p] h r h1 := iEv_ev (by rfl) rfl hw
theorem X9_squeeze_0 : iWp d mX9_squeeze 0 [.ref p, a1, a2] st h Q = iWp d mX9_squeeze 1 [.ref p, a1, a2] (.ref p :: st) h Q := w_aload_n dX9_squeeze_0 rfl
theorem X9_squeeze_1 : iWp d mX9_squeeze 1 [a0, .int x, a2] st h Q = iWp d mX9_squeeze 2 [a0, .int x, a2] (.int x :: st) h Q := w_iload_n dX9_squeeze_1 rfl
theorem X9_squeeze_2 (he : iEv mX9_isPatch [.ref p, .int x0] h (some (.int rv)) h2) (ho : iObj h p 9 = true) : iWp 5 mX9_squeeze 2 [a0, a1, a2] [.int x0, .ref p] h Q = iWp 5 mX9_squeeze 5 [a0, a1, a2] [.int rv] h2 Q := iWp_cV dX9_squeeze_2 fK_9_120 rfl rfl ho (Nat.le_of_ble_eq_true rfl) (Nat.le_of_ble_eq_true rfl) rfl (Nat.le_of_ble_eq_true rfl) he rfl
theorem X9_squeeze_5 : iWp d mX9_squeeze 5 [a0, a1, a2] (.int x :: st) h Q = if x = 0 then iWp d mX9_squeeze 8 [a0, a1, a2] st h Q else iWp d mX9_squeeze 14 [a0, a1, a2] st h Q := w_ifc_ne dX9_squeeze_5 rfl
theorem X9_squeeze_8 : iWp d mX9_squeeze 8 [.ref p, a1, a2] st h Q = iWp d mX9_squeeze 9 [.ref p, a1, a2] (.ref p :: st) h Q := w_aload_n dX9_squeeze_8 rfl
theorem X9_squeeze_9 : iWp d mX9_squeeze 9 [a0, a1, a2] st h Q = iWp d mX9_squeeze 10 [a0, a1, a2] (.int (-1) :: st) h Q := w_iconst dX9_squeeze_9 rfl
theorem X9_squeeze_10 (he : iEv mX9_no [.ref p, .int x0] h (some (.int rv)) h2) (ho : iObj h p 9 = true) : iWp 5 mX9_squeeze 10 [a0, a1, a2] [.int x0, .ref p] h Q = iWp 5 mX9_squeeze 13 [a0, a1, a2] [.int rv] h2 Q := iWp_cV dX9_squeeze_10 fK_9_99 rfl rfl ho (Nat.le_of_ble_eq_true rfl) (Nat.le_of_ble_eq_true rfl) rfl (Nat.le_of_ble_eq_true rfl) he rfl
theorem X9_squeeze_13 : iWp d mX9_squeeze 13 [a0, a1, a2] [.int x] h Q = Q (some (.int x)) h := w_ireti dX9_squeeze_13 rfl
theorem X9_squeeze_14 : iWp d mX9_squeeze 14 [.ref p, a1, a2] st h Q = iWp d mX9_squeeze 15 [.ref p, a1, a2] (.ref p :: st) h Q := w_aload_n dX9_squeeze_14 rfl
theorem X9_squeeze_15 : iWp d mX9_squeeze 15 [a0, a1, a2] st h Q = iWp d mX9_squeeze 16 [a0, a1, a2] (.int 0 :: st) h Q := w_iconst dX9_squeeze_15 rfl
theorem X9_squeeze_16 : iWp d mX9_squeeze 16 [a0, a1, a2] (.int x :: .ref p :: st) h Q = iOb (iPut h p 9 25 (.int x)) (fun g => iWp d mX9_squeeze 19 [a0, a1, a2] st g Q) := w_putf dX9_squeeze_16 fF_9_200 ⟨rfl, (Or.inl rfl)⟩
theorem X9_squeeze_19 : iWp d mX9_squeeze 19 [.ref p, a1, a2] st h Q = iWp d mX9_squeeze 20 [.ref p, a1, a2] (.ref p :: st) h Q := w_aload_n dX9_squeeze_19 rfl
theorem X9_squeeze_20 : iWp d mX9_squeeze 20 [a0, .int x, a2] st h Q = iWp d mX9_squeeze 21 [a0, .int x, a2] (.int x :: st) h Q := w_iload_n dX9_squeeze_20 rfl
theorem X9_squeeze_21 (he : iEv mX9_all [.ref p, .int x0] h none h2) (ho : iObj h p 9 = true) : iWp 5 mX9_squeeze 21 [a0, a1, a2] [.int x0, .ref p] h Q = iWp 5 mX9_squeeze 24 [a0, a1, a2] [] h2 Q := iWp_cV dX9_squeeze_21 fK_9_264 rfl rfl ho (Nat.le_of_ble_eq_true rfl) (Nat.le_of_ble_eq_true rfl) rfl (Nat.le_of_ble_eq_true rfl) he rfl
theorem X9_squeeze_24 : iWp d mX9_squeeze 24 [a0, a1, a2] st h Q = iWp d mX9_squeeze 25 [a0, a1, a2] (.int 1 :: st) h Q := w_iconst dX9_squeeze_24 rfl
theorem X9_squeeze_25 : iWp d mX9_squeeze 25 [a0, a1, a2] (.int x :: st) h Q = iWp d mX9_squeeze 26 [a0, iClr a1, .int x] st h Q := w_istore_n dX9_squeeze_25 (Nat.le_of_ble_eq_true rfl) rfl
theorem X9_squeeze_26 : iWp d mX9_squeeze 26 [a0, a1, .int x] st h Q = iWp d mX9_squeeze 27 [a0, a1, .int x] (.int x :: st) h Q := w_iload_n dX9_squeeze_26 rfl
theorem X9_squeeze_27 : iWp d mX9_squeeze 27 [a0, a1, a2] (.int x :: st) h Q = if x = 0 then iWp d mX9_squeeze 38 [a0, a1, a2] st h Q else iWp d mX9_squeeze 30 [a0, a1, a2] st h Q := w_ifc_eq dX9_squeeze_27 rfl
theorem X9_squeeze_30 : iWp d mX9_squeeze 30 [.ref p, a1, a2] st h Q = iWp d mX9_squeeze 31 [.ref p, a1, a2] (.ref p :: st) h Q := w_aload_n dX9_squeeze_30 rfl
theorem X9_squeeze_31 (he : iEv mX9_squeezes [.ref p] h (some (.int rv)) h2) (ho : iObj h p 9 = true) : iWp 5 mX9_squeeze 31 [a0, a1, a2] [.ref p] h Q = iWp 5 mX9_squeeze 34 [a0, a1, a2] [.int rv] h2 Q := iWp_cV dX9_squeeze_31 fK_9_273 rfl rfl ho (Nat.le_of_ble_eq_true rfl) (Nat.le_of_ble_eq_true rfl) rfl (Nat.le_of_ble_eq_true rfl) he rfl
theorem X9_squeeze_34 : iWp d mX9_squeeze 34 [a0, a1, a2] (.int x :: st) h Q = iWp d mX9_squeeze 35 [a0, iClr a1, .int x] st h Q := w_istore_n dX9_squeeze_34 (Nat.le_of_ble_eq_true rfl) rfl
theorem X9_squeeze_35 : iWp d mX9_squeeze 35 [a0, a1, a2] st h Q = iWp d mX9_squeeze 26 [a0, a1, a2] st h Q := w_goto dX9_squeeze_35 rfl
theorem X9_squeeze_38 : iWp d mX9_squeeze 38 [.ref p, a1, a2] st h Q = iWp d mX9_squeeze 39 [.ref p, a1, a2] (.ref p :: st) h Q := w_aload_n dX9_squeeze_38 rfl
theorem X9_squeeze_39 : iWp d mX9_squeeze 39 [a0, a1, a2] st h Q = iWp d mX9_squeeze 40 [a0, a1, a2] (.int 2 :: st) h Q := w_iconst dX9_squeeze_39 rfl
theorem X9_squeeze_40 : iWp d mX9_squeeze 40 [a0, .int x, a2] st h Q = iWp d mX9_squeeze 41 [a0, .int x, a2] (.int x :: st) h Q := w_iload_n dX9_squeeze_40 rfl
theorem X9_squeeze_41 (he : iEv mX9_newPatch [.ref p, .int x0, .int x1] h (some (.int rv)) h2) (ho : iObj h p 9 = true) : iWp 5 mX9_squeeze 41 [a0, a1, a2] [.int x1, .int x0, .ref p] h Q = iWp 5 mX9_squeeze 44 [a0, a1, a2] [.int rv] h2 Q := iWp_cV dX9_squeeze_41 fK_9_251 rfl rfl ho (Nat.le_of_ble_eq_true rfl) (Nat.le_of_ble_eq_true rfl) rfl (Nat.le_of_ble_eq_true rfl) he rfl
theorem X9_squeeze_44 : iWp d mX9_squeeze 44 [a0, a1, a2] [.int x] h Q = Q (some (.int x)) h := w_ireti dX9_squeeze_44 rfl
theorem I9_squeeze {Q : Option Value → iHp → Prop} (hw : iWp 5 mX9_squeeze 0 [.ref p, .int x0, iU] [] h Q) : ∃ r h1, iEv mX9_squeeze [.ref p, .int x0] h r h1 ∧ Q r h1 := iEv_of (by rfl) rfl hw
theorem J9_squeeze {r : Option Value} {h1 : iHp} (hw : iWp 5 mX9_squeeze 0 [.ref p, .int x0, iU] [] h (fun r' h' => r' = r ∧ h' = h1)) : iEv mX9_squeeze [.ref p, .int x0] h r h1 := iEv_ev (by rfl) rfl hw
theorem X9_squeezes_0 : iWp d mX9_squeezes 0 [a0, a1, a2] st h Q = iWp d mX9_squeezes 1 [a0, a1, a2] (.int 0 :: st) h Q := w_iconst dX9_squeezes_0 rfl
theorem X9_squeezes_1 : iWp d mX9_squeezes 1 [a0, a1, a2] (.int x :: st) h Q = iWp d mX9_squeezes 2 [iClr a0, .int x, a2] st h Q := w_istore_n dX9_squeezes_1 (Nat.le_of_ble_eq_true rfl) rfl
theorem X9_squeezes_2 : iWp d mX9_squeezes 2 [a0, .int x, a2] st h Q = iWp d mX9_squeezes 3 [a0, .int x, a2] (.int x :: st) h Q := w_iload_n dX9_squeezes_2 rfl
theorem X9_squeezes_3 : iWp d mX9_squeezes 3 [a0, a1, a2] st h Q = iWp d mX9_squeezes 4 [a0, a1, a2] (.int 1 :: st) h Q := w_iconst dX9_squeezes_3 rfl
theorem X9_squeezes_4 : iWp d mX9_squeezes 4 [a0, a1, a2] (.int y :: .int x :: st) h Q = iWp d mX9_squeezes 5 [a0, a1, a2] (.int (x + y) :: st) h Q := w_iadd dX9_squeezes_4
theorem X9_squeezes_5 : iWp d mX9_squeezes 5 [.ref p, a1, a2] st h Q = iWp d mX9_squeezes 6 [.ref p, a1, a2] (.ref p :: st) h Q := w_aload_n dX9_squeezes_5 rfl
theorem X9_squeezes_6 : iWp d mX9_squeezes 6 [a0, a1, a2] (.ref p :: st) h Q = iOb (iGet h p 9 25) (fun v => iWp d mX9_squeezes 9 [a0, a1, a2] (v :: st) h Q) := w_getf dX9_squeezes_6 fF_9_200
theorem X9_squeezes_9 : iWp d mX9_squeezes 9 [a0, a1, a2] (.int y :: .int x :: st) h Q = if y ≤ x then iWp d mX9_squeezes 135 [a0, a1, a2] st h Q else iWp d mX9_squeezes 12 [a0, a1, a2] st h Q := w_icmp_ge dX9_squeezes_9 rfl
theorem X9_squeezes_12 : iWp d mX9_squeezes 12 [a0, a1, a2] st h Q = iWp d mX9_squeezes 14 [a0, a1, a2] (.int 7 :: st) h Q := w_bipush dX9_squeezes_12 rfl
theorem X9_squeezes_14 : iWp d mX9_squeezes 14 [a0, .int x, a2] st h Q = iWp d mX9_squeezes 15 [a0, .int x, a2] (.int x :: st) h Q := w_iload_n dX9_squeezes_14 rfl
theorem X9_squeezes_15 : iWp d mX9_squeezes 15 [a0, a1, a2] (.int y :: .int x :: st) h Q = iWp d mX9_squeezes 16 [a0, a1, a2] (.int (x * y) :: st) h Q := w_imul dX9_squeezes_15
theorem X9_squeezes_16 : iWp d mX9_squeezes 16 [a0, a1, a2] (.int x :: st) h Q = iWp d mX9_squeezes 17 [a0, iClr a1, .int x] st h Q := w_istore_n dX9_squeezes_16 (Nat.le_of_ble_eq_true rfl) rfl
theorem X9_squeezes_17 : iWp d mX9_squeezes 17 [.ref p, a1, a2] st h Q = iWp d mX9_squeezes 18 [.ref p, a1, a2] (.ref p :: st) h Q := w_aload_n dX9_squeezes_17 rfl
theorem X9_squeezes_18 : iWp d mX9_squeezes 18 [a0, .int x, a2] st h Q = iWp d mX9_squeezes 19 [a0, .int x, a2] (.int x :: st) h Q := w_iload_n dX9_squeezes_18 rfl
theorem X9_squeezes_19 (he : iEv mX9_undoes [.ref p, .int x0] h (some (.int rv)) h2) (ho : iObj h p 9 = true) : iWp 4 mX9_squeezes 19 [a0, a1, a2] [.int x0, .ref p] h Q = iWp 4 mX9_squeezes 22 [a0, a1, a2] [.int rv] h2 Q := iWp_cV dX9_squeezes_19 fK_9_267 rfl rfl ho (Nat.le_of_ble_eq_true rfl) (Nat.le_of_ble_eq_true rfl) rfl (Nat.le_of_ble_eq_true rfl) he rfl
theorem X9_squeezes_22 : iWp d mX9_squeezes 22 [a0, a1, a2] (.int x :: st) h Q = if x = 0 then iWp d mX9_squeezes 33 [a0, a1, a2] st h Q else iWp d mX9_squeezes 25 [a0, a1, a2] st h Q := w_ifc_eq dX9_squeezes_22 rfl
theorem X9_squeezes_25 : iWp d mX9_squeezes 25 [.ref p, a1, a2] st h Q = iWp d mX9_squeezes 26 [.ref p, a1, a2] (.ref p :: st) h Q := w_aload_n dX9_squeezes_25 rfl
theorem X9_squeezes_26 : iWp d mX9_squeezes 26 [a0, .int x, a2] st h Q = iWp d mX9_squeezes 27 [a0, .int x, a2] (.int x :: st) h Q := w_iload_n dX9_squeezes_26 rfl
theorem X9_squeezes_27 : iWp d mX9_squeezes 27 [a0, a1, a2] st h Q = iWp d mX9_squeezes 28 [a0, a1, a2] (.int 2 :: st) h Q := w_iconst dX9_squeezes_27 rfl
theorem X9_squeezes_28 (he : iEv mX9_vanish [.ref p, .int x0, .int x1] h none h2) (ho : iObj h p 9 = true) : iWp 4 mX9_squeezes 28 [a0, a1, a2] [.int x1, .int x0, .ref p] h Q = iWp 4 mX9_squeezes 31 [a0, a1, a2] [] h2 Q := iWp_cV dX9_squeezes_28 fK_9_270 rfl rfl ho (Nat.le_of_ble_eq_true rfl) (Nat.le_of_ble_eq_true rfl) rfl (Nat.le_of_ble_eq_true rfl) he rfl
theorem X9_squeezes_31 : iWp d mX9_squeezes 31 [a0, a1, a2] st h Q = iWp d mX9_squeezes 32 [a0, a1, a2] (.int 1 :: st) h Q := w_iconst dX9_squeezes_31 rfl
theorem X9_squeezes_32 : iWp d mX9_squeezes 32 [a0, a1, a2] [.int (iB b)] h Q = Q (some (.int (iB b))) h := w_iretb dX9_squeezes_32 rfl
theorem X9_squeezes_32z : iWp d mX9_squeezes 32 [a0, a1, a2] [.int 0] h Q = Q (some (.int (iB false))) h := w_iretb (bb := false) dX9_squeezes_32 rfl
theorem X9_squeezes_32o : iWp d mX9_squeezes 32 [a0, a1, a2] [.int 1] h Q = Q (some (.int (iB true))) h := w_iretb (bb := true) dX9_squeezes_32 rfl
theorem X9_squeezes_33 : iWp d mX9_squeezes 33 [.ref p, a1, a2] st h Q = iWp d mX9_squeezes 34 [.ref p, a1, a2] (.ref p :: st) h Q := w_aload_n dX9_squeezes_33 rfl
theorem X9_squeezes_34 : iWp d mX9_squeezes 34 [a0, a1, a2] (.ref p :: st) h Q = iOb (iGet h p 9 26) (fun v => iWp d mX9_squeezes 37 [a0, a1, a2] (v :: st) h Q) := w_getf dX9_squeezes_34 fF_9_62
theorem X9_squeezes_37 : iWp d mX9_squeezes 37 [a0, a1, .int x] st h Q = iWp d mX9_squeezes 38 [a0, a1, .int x] (.int x :: st) h Q := w_iload_n dX9_squeezes_37 rfl
theorem X9_squeezes_38 : iWp d mX9_squeezes 38 [a0, a1, a2] (.int x :: .ref p :: st) h Q = iOb (iLdI h p x) (fun v => iWp d mX9_squeezes 39 [a0, a1, a2] (.int v :: st) h Q) := w_iaload dX9_squeezes_38
theorem X9_squeezes_39 : iWp d mX9_squeezes 39 [a0, a1, a2] (.int x :: st) h Q = if x = 0 then iWp d mX9_squeezes 42 [a0, a1, a2] st h Q else iWp d mX9_squeezes 129 [a0, a1, a2] st h Q := w_ifc_ne dX9_squeezes_39 rfl
theorem X9_squeezes_42 : iWp d mX9_squeezes 42 [.ref p, a1, a2] st h Q = iWp d mX9_squeezes 43 [.ref p, a1, a2] (.ref p :: st) h Q := w_aload_n dX9_squeezes_42 rfl
theorem X9_squeezes_43 : iWp d mX9_squeezes 43 [a0, a1, a2] (.ref p :: st) h Q = iOb (iGet h p 9 26) (fun v => iWp d mX9_squeezes 46 [a0, a1, a2] (v :: st) h Q) := w_getf dX9_squeezes_43 fF_9_62
theorem X9_squeezes_46 : iWp d mX9_squeezes 46 [a0, a1, .int x] st h Q = iWp d mX9_squeezes 47 [a0, a1, .int x] (.int x :: st) h Q := w_iload_n dX9_squeezes_46 rfl
theorem X9_squeezes_47 : iWp d mX9_squeezes 47 [a0, a1, a2] st h Q = iWp d mX9_squeezes 49 [a0, a1, a2] (.int 7 :: st) h Q := w_bipush dX9_squeezes_47 rfl
theorem X9_squeezes_49 : iWp d mX9_squeezes 49 [a0, a1, a2] (.int y :: .int x :: st) h Q = iWp d mX9_squeezes 50 [a0, a1, a2] (.int (x + y) :: st) h Q := w_iadd dX9_squeezes_49
theorem X9_squeezes_50 : iWp d mX9_squeezes 50 [a0, a1, a2] (.int x :: .ref p :: st) h Q = iOb (iLdI h p x) (fun v => iWp d mX9_squeezes 51 [a0, a1, a2] (.int v :: st) h Q) := w_iaload dX9_squeezes_50
theorem X9_squeezes_51 : iWp d mX9_squeezes 51 [a0, a1, a2] (.int x :: st) h Q = if x = 0 then iWp d mX9_squeezes 54 [a0, a1, a2] st h Q else iWp d mX9_squeezes 129 [a0, a1, a2] st h Q := w_ifc_ne dX9_squeezes_51 rfl
theorem X9_squeezes_54 : iWp d mX9_squeezes 54 [.ref p, a1, a2] st h Q = iWp d mX9_squeezes 55 [.ref p, a1, a2] (.ref p :: st) h Q := w_aload_n dX9_squeezes_54 rfl
theorem X9_squeezes_55 : iWp d mX9_squeezes 55 [a0, a1, a2] (.ref p :: st) h Q = iOb (iGet h p 9 26) (fun v => iWp d mX9_squeezes 58 [a0, a1, a2] (v :: st) h Q) := w_getf dX9_squeezes_55 fF_9_62
theorem X9_squeezes_58 : iWp d mX9_squeezes 58 [a0, a1, .int x] st h Q = iWp d mX9_squeezes 59 [a0, a1, .int x] (.int x :: st) h Q := w_iload_n dX9_squeezes_58 rfl
theorem X9_squeezes_59 : iWp d mX9_squeezes 59 [a0, a1, a2] st h Q = iWp d mX9_squeezes 60 [a0, a1, a2] (.int 1 :: st) h Q := w_iconst dX9_squeezes_59 rfl
theorem X9_squeezes_60 : iWp d mX9_squeezes 60 [a0, a1, a2] (.int y :: .int x :: st) h Q = iWp d mX9_squeezes 61 [a0, a1, a2] (.int (x + y) :: st) h Q := w_iadd dX9_squeezes_60
theorem X9_squeezes_61 : iWp d mX9_squeezes 61 [a0, a1, a2] (.int x :: .ref p :: st) h Q = iOb (iLdI h p x) (fun v => iWp d mX9_squeezes 62 [a0, a1, a2] (.int v :: st) h Q) := w_iaload dX9_squeezes_61
theorem X9_squeezes_62 : iWp d mX9_squeezes 62 [.ref p, a1, a2] st h Q = iWp d mX9_squeezes 63 [.ref p, a1, a2] (.ref p :: st) h Q := w_aload_n dX9_squeezes_62 rfl
theorem X9_squeezes_63 : iWp d mX9_squeezes 63 [a0, a1, a2] (.ref p :: st) h Q = iOb (iGet h p 9 26) (fun v => iWp d mX9_squeezes 66 [a0, a1, a2] (v :: st) h Q) := w_getf dX9_squeezes_63 fF_9_62
theorem X9_squeezes_66 : iWp d mX9_squeezes 66 [a0, a1, .int x] st h Q = iWp d mX9_squeezes 67 [a0, a1, .int x] (.int x :: st) h Q := w_iload_n dX9_squeezes_66 rfl
theorem X9_squeezes_67 : iWp d mX9_squeezes 67 [a0, a1, a2] st h Q = iWp d mX9_squeezes 69 [a0, a1, a2] (.int 8 :: st) h Q := w_bipush dX9_squeezes_67 rfl
theorem X9_squeezes_69 : iWp d mX9_squeezes 69 [a0, a1, a2] (.int y :: .int x :: st) h Q = iWp d mX9_squeezes 70 [a0, a1, a2] (.int (x + y) :: st) h Q := w_iadd dX9_squeezes_69
theorem X9_squeezes_70 : iWp d mX9_squeezes 70 [a0, a1, a2] (.int x :: .ref p :: st) h Q = iOb (iLdI h p x) (fun v => iWp d mX9_squeezes 71 [a0, a1, a2] (.int v :: st) h Q) := w_iaload dX9_squeezes_70
theorem X9_squeezes_71 : iWp d mX9_squeezes 71 [a0, a1, a2] (.int y :: .int x :: st) h Q = if x = y then iWp d mX9_squeezes 77 [a0, a1, a2] st h Q else iWp d mX9_squeezes 74 [a0, a1, a2] st h Q := w_icmp_eq dX9_squeezes_71 rfl
theorem X9_squeezes_74 : iWp d mX9_squeezes 74 [a0, a1, a2] st h Q = iWp d mX9_squeezes 129 [a0, a1, a2] st h Q := w_goto dX9_squeezes_74 rfl
theorem X9_squeezes_77 : iWp d mX9_squeezes 77 [.ref p, a1, a2] st h Q = iWp d mX9_squeezes 78 [.ref p, a1, a2] (.ref p :: st) h Q := w_aload_n dX9_squeezes_77 rfl
theorem X9_squeezes_78 : iWp d mX9_squeezes 78 [a0, a1, a2] (.ref p :: st) h Q = iOb (iGet h p 9 26) (fun v => iWp d mX9_squeezes 81 [a0, a1, a2] (v :: st) h Q) := w_getf dX9_squeezes_78 fF_9_62
theorem X9_squeezes_81 : iWp d mX9_squeezes 81 [a0, a1, .int x] st h Q = iWp d mX9_squeezes 82 [a0, a1, .int x] (.int x :: st) h Q := w_iload_n dX9_squeezes_81 rfl
theorem X9_squeezes_82 : iWp d mX9_squeezes 82 [a0, a1, a2] st h Q = iWp d mX9_squeezes 83 [a0, a1, a2] (.int 3 :: st) h Q := w_iconst dX9_squeezes_82 rfl
theorem X9_squeezes_83 : iWp d mX9_squeezes 83 [a0, a1, a2] (.int y :: .int x :: st) h Q = iWp d mX9_squeezes 84 [a0, a1, a2] (.int (x + y) :: st) h Q := w_iadd dX9_squeezes_83
theorem X9_squeezes_84 : iWp d mX9_squeezes 84 [.ref p, a1, a2] st h Q = iWp d mX9_squeezes 85 [.ref p, a1, a2] (.ref p :: st) h Q := w_aload_n dX9_squeezes_84 rfl
theorem X9_squeezes_85 : iWp d mX9_squeezes 85 [a0, a1, a2] (.ref p :: st) h Q = iOb (iGet h p 9 26) (fun v => iWp d mX9_squeezes 88 [a0, a1, a2] (v :: st) h Q) := w_getf dX9_squeezes_85 fF_9_62
theorem X9_squeezes_88 : iWp d mX9_squeezes 88 [a0, a1, .int x] st h Q = iWp d mX9_squeezes 89 [a0, a1, .int x] (.int x :: st) h Q := w_iload_n dX9_squeezes_88 rfl
theorem X9_squeezes_89 : iWp d mX9_squeezes 89 [a0, a1, a2] st h Q = iWp d mX9_squeezes 91 [a0, a1, a2] (.int 10 :: st) h Q := w_bipush dX9_squeezes_89 rfl
theorem X9_squeezes_91 : iWp d mX9_squeezes 91 [a0, a1, a2] (.int y :: .int x :: st) h Q = iWp d mX9_squeezes 92 [a0, a1, a2] (.int (x + y) :: st) h Q := w_iadd dX9_squeezes_91
theorem X9_squeezes_92 : iWp d mX9_squeezes 92 [a0, a1, a2] (.int x :: .ref p :: st) h Q = iOb (iLdI h p x) (fun v => iWp d mX9_squeezes 93 [a0, a1, a2] (.int v :: st) h Q) := w_iaload dX9_squeezes_92
theorem X9_squeezes_93 : iWp d mX9_squeezes 93 [a0, a1, a2] (.int y :: .int x :: .ref p :: st) h Q = iOb (iStI h p x y) (fun g => iWp d mX9_squeezes 94 [a0, a1, a2] st g Q) := w_iastore dX9_squeezes_93
theorem X9_squeezes_94 : iWp d mX9_squeezes 94 [.ref p, a1, a2] st h Q = iWp d mX9_squeezes 95 [.ref p, a1, a2] (.ref p :: st) h Q := w_aload_n dX9_squeezes_94 rfl
theorem X9_squeezes_95 : iWp d mX9_squeezes 95 [a0, .int x, a2] st h Q = iWp d mX9_squeezes 96 [a0, .int x, a2] (.int x :: st) h Q := w_iload_n dX9_squeezes_95 rfl
theorem X9_squeezes_96 : iWp d mX9_squeezes 96 [a0, a1, a2] st h Q = iWp d mX9_squeezes 97 [a0, a1, a2] (.int 1 :: st) h Q := w_iconst dX9_squeezes_96 rfl
theorem X9_squeezes_97 : iWp d mX9_squeezes 97 [a0, a1, a2] (.int y :: .int x :: st) h Q = iWp d mX9_squeezes 98 [a0, a1, a2] (.int (x + y) :: st) h Q := w_iadd dX9_squeezes_97
theorem X9_squeezes_98 : iWp d mX9_squeezes 98 [a0, a1, a2] st h Q = iWp d mX9_squeezes 99 [a0, a1, a2] (.int 1 :: st) h Q := w_iconst dX9_squeezes_98 rfl
theorem X9_squeezes_99 (he : iEv mX9_vanish [.ref p, .int x0, .int x1] h none h2) (ho : iObj h p 9 = true) : iWp 4 mX9_squeezes 99 [a0, a1, a2] [.int x1, .int x0, .ref p] h Q = iWp 4 mX9_squeezes 102 [a0, a1, a2] [] h2 Q := iWp_cV dX9_squeezes_99 fK_9_270 rfl rfl ho (Nat.le_of_ble_eq_true rfl) (Nat.le_of_ble_eq_true rfl) rfl (Nat.le_of_ble_eq_true rfl) he rfl
theorem X9_squeezes_102 : iWp d mX9_squeezes 102 [.ref p, a1, a2] st h Q = iWp d mX9_squeezes 103 [.ref p, a1, a2] (.ref p :: st) h Q := w_aload_n dX9_squeezes_102 rfl
theorem X9_squeezes_103 : iWp d mX9_squeezes 103 [a0, a1, a2] (.ref p :: st) h Q = iOb (iGet h p 9 26) (fun v => iWp d mX9_squeezes 106 [a0, a1, a2] (v :: st) h Q) := w_getf dX9_squeezes_103 fF_9_62
theorem X9_squeezes_106 : iWp d mX9_squeezes 106 [a0, a1, .int x] st h Q = iWp d mX9_squeezes 107 [a0, a1, .int x] (.int x :: st) h Q := w_iload_n dX9_squeezes_106 rfl
theorem X9_squeezes_107 : iWp d mX9_squeezes 107 [a0, a1, a2] st h Q = iWp d mX9_squeezes 108 [a0, a1, a2] (.int 2 :: st) h Q := w_iconst dX9_squeezes_107 rfl
theorem X9_squeezes_108 : iWp d mX9_squeezes 108 [a0, a1, a2] (.int y :: .int x :: st) h Q = iWp d mX9_squeezes 109 [a0, a1, a2] (.int (x + y) :: st) h Q := w_iadd dX9_squeezes_108
theorem X9_squeezes_109 : iWp d mX9_squeezes 109 [a0, a1, a2] (.int x :: .ref p :: st) h Q = iOb (iLdI h p x) (fun v => iWp d mX9_squeezes 110 [a0, a1, a2] (.int v :: st) h Q) := w_iaload dX9_squeezes_109
theorem X9_squeezes_110 : iWp d mX9_squeezes 110 [.ref p, a1, a2] st h Q = iWp d mX9_squeezes 111 [.ref p, a1, a2] (.ref p :: st) h Q := w_aload_n dX9_squeezes_110 rfl
theorem X9_squeezes_111 : iWp d mX9_squeezes 111 [a0, a1, a2] (.ref p :: st) h Q = iOb (iGet h p 9 26) (fun v => iWp d mX9_squeezes 114 [a0, a1, a2] (v :: st) h Q) := w_getf dX9_squeezes_111 fF_9_62
theorem X9_squeezes_114 : iWp d mX9_squeezes 114 [a0, a1, .int x] st h Q = iWp d mX9_squeezes 115 [a0, a1, .int x] (.int x :: st) h Q := w_iload_n dX9_squeezes_114 rfl
theorem X9_squeezes_115 : iWp d mX9_squeezes 115 [a0, a1, a2] st h Q = iWp d mX9_squeezes 116 [a0, a1, a2] (.int 3 :: st) h Q := w_iconst dX9_squeezes_115 rfl
theorem X9_squeezes_116 : iWp d mX9_squeezes 116 [a0, a1, a2] (.int y :: .int x :: st) h Q = iWp d mX9_squeezes 117 [a0, a1, a2] (.int (x + y) :: st) h Q := w_iadd dX9_squeezes_116
theorem X9_squeezes_117 : iWp d mX9_squeezes 117 [a0, a1, a2] (.int x :: .ref p :: st) h Q = iOb (iLdI h p x) (fun v => iWp d mX9_squeezes 118 [a0, a1, a2] (.int v :: st) h Q) := w_iaload dX9_squeezes_117
theorem X9_squeezes_118 : iWp d mX9_squeezes 118 [a0, a1, a2] (.int y :: .int x :: st) h Q = if x = y then iWp d mX9_squeezes 121 [a0, a1, a2] st h Q else iWp d mX9_squeezes 127 [a0, a1, a2] st h Q := w_icmp_ne dX9_squeezes_118 rfl
theorem X9_squeezes_121 : iWp d mX9_squeezes 121 [.ref p, a1, a2] st h Q = iWp d mX9_squeezes 122 [.ref p, a1, a2] (.ref p :: st) h Q := w_aload_n dX9_squeezes_121 rfl
theorem X9_squeezes_122 : iWp d mX9_squeezes 122 [a0, .int x, a2] st h Q = iWp d mX9_squeezes 123 [a0, .int x, a2] (.int x :: st) h Q := w_iload_n dX9_squeezes_122 rfl
theorem X9_squeezes_123 : iWp d mX9_squeezes 123 [a0, a1, a2] st h Q = iWp d mX9_squeezes 124 [a0, a1, a2] (.int 1 :: st) h Q := w_iconst dX9_squeezes_123 rfl
theorem X9_squeezes_124 (he : iEv mX9_vanish [.ref p, .int x0, .int x1] h none h2) (ho : iObj h p 9 = true) : iWp 4 mX9_squeezes 124 [a0, a1, a2] [.int x1, .int x0, .ref p] h Q = iWp 4 mX9_squeezes 127 [a0, a1, a2] [] h2 Q := iWp_cV dX9_squeezes_124 fK_9_270 rfl rfl ho (Nat.le_of_ble_eq_true rfl) (Nat.le_of_ble_eq_true rfl) rfl (Nat.le_of_ble_eq_true rfl) he rfl
theorem X9_squeezes_127 : iWp d mX9_squeezes 127 [a0, a1, a2] st h Q = iWp d mX9_squeezes 128 [a0, a1, a2] (.int 1 :: st) h Q := w_iconst dX9_squeezes_127 rfl
theorem X9_squeezes_128 : iWp d mX9_squeezes 128 [a0, a1, a2] [.int (iB b)] h Q = Q (some (.int (iB b))) h := w_iretb dX9_squeezes_128 rfl
theorem X9_squeezes_128z : iWp d mX9_squeezes 128 [a0, a1, a2] [.int 0] h Q = Q (some (.int (iB false))) h := w_iretb (bb := false) dX9_squeezes_128 rfl
theorem X9_squeezes_128o : iWp d mX9_squeezes 128 [a0, a1, a2] [.int 1] h Q = Q (some (.int (iB true))) h := w_iretb (bb := true) dX9_squeezes_128 rfl
theorem X9_squeezes_129 : iWp d mX9_squeezes 129 [a0, .int x, a2] st h Q = iWp d mX9_squeezes 132 [iClr a0, .int (x + 1), a2] st h Q := w_iinc dX9_squeezes_129 rfl (Nat.le_of_ble_eq_true rfl) rfl
theorem X9_squeezes_132 : iWp d mX9_squeezes 132 [a0, a1, a2] st h Q = iWp d mX9_squeezes 2 [a0, a1, a2] st h Q := w_goto dX9_squeezes_132 rfl
theorem X9_squeezes_135 : iWp d mX9_squeezes 135 [a0, a1, a2] st h Q = iWp d mX9_squeezes 136 [a0, a1, a2] (.int 0 :: st) h Q := w_iconst dX9_squeezes_135 rfl
theorem X9_squeezes_136 : iWp d mX9_squeezes 136 [a0, a1, a2] [.int (iB b)] h Q = Q (some (.int (iB b))) h := w_iretb dX9_squeezes_136 rfl
theorem X9_squeezes_136z : iWp d mX9_squeezes 136 [a0, a1, a2] [.int 0] h Q = Q (some (.int (iB false))) h := w_iretb (bb := false) dX9_squeezes_136 rfl
theorem X9_squeezes_136o : iWp d mX9_squeezes 136 [a0, a1, a2] [.int 1] h Q = Q (some (.int (iB true))) h := w_iretb (bb := true) dX9_squeezes_136 rfl
theorem I9_squeezes {Q : Option Value → iHp → Prop} (hw : iWp 4 mX9_squeezes 0 [.ref p, iU, iU] [] h Q) : ∃ r h1, iEv mX9_squeezes [.ref p] h r h1 ∧ Q r h1 := iEv_of (by rfl) rfl hw
theorem J9_squeezes {r : Option Value} {h1 : iHp} (hw : iWp 4 mX9_squeezes 0 [.ref p, iU, iU] [] h (fun r' h' => r' = r ∧ h' = h1)) : iEv mX9_squeezes [.ref p] h r h1 := iEv_ev (by rfl) rfl hw
theorem X9_status_0 : iWp d mX9_status 0 [a0, .int x, a2, a3] st h Q = iWp d mX9_status 1 [a0, .int x, a2, a3] (.int x :: st) h Q := w_iload_n dX9_status_0 rfl
theorem X9_status_1 : iWp d mX9_status 1 [a0, a1, a2, a3] st h Q = iWp d mX9_status 3 [a0, a1, a2, a3] (.int 11 :: st) h Q := w_bipush dX9_status_1 rfl
theorem X9_status_3 : iWp d mX9_status 3 [a0, a1, a2, a3] st h Q = iWp d mX9_status 5 [a0, a1, a2, a3] (.int 17 :: st) h Q := w_bipush dX9_status_3 rfl
theorem X9_status_5 (he : iEv mX9_within [.int x0, .int x1, .int x2] h (some (.int rv)) h2) : iWp 2 mX9_status 5 [a0, a1, a2, a3] [.int x2, .int x1, .int x0] h Q = iWp 2 mX9_status 8 [a0, a1, a2, a3] [.int rv] h2 Q := iWp_cS dX9_status_5 fK_9_106 rfl rfl (Nat.le_of_ble_eq_true rfl) (Nat.le_of_ble_eq_true rfl) rfl (Nat.le_of_ble_eq_true rfl) he rfl
theorem X9_status_8 : iWp d mX9_status 8 [a0, a1, a2, a3] (.int x :: st) h Q = if x = 0 then iWp d mX9_status 21 [a0, a1, a2, a3] st h Q else iWp d mX9_status 11 [a0, a1, a2, a3] st h Q := w_ifc_eq dX9_status_8 rfl
theorem X9_status_11 : iWp d mX9_status 11 [.ref p, a1, a2, a3] st h Q = iWp d mX9_status 12 [.ref p, a1, a2, a3] (.ref p :: st) h Q := w_aload_n dX9_status_11 rfl
theorem X9_status_12 : iWp d mX9_status 12 [a0, a1, a2, a3] (.ref p :: st) h Q = iOb (iGet h p 9 17) (fun v => iWp d mX9_status 15 [a0, a1, a2, a3] (v :: st) h Q) := w_getf dX9_status_12 fF_9_41
theorem X9_status_15 : iWp d mX9_status 15 [a0, .int x, a2, a3] st h Q = iWp d mX9_status 16 [a0, .int x, a2, a3] (.int x :: st) h Q := w_iload_n dX9_status_15 rfl
theorem X9_status_16 : iWp d mX9_status 16 [a0, a1, a2, a3] st h Q = iWp d mX9_status 18 [a0, a1, a2, a3] (.int 10 :: st) h Q := w_bipush dX9_status_16 rfl
theorem X9_status_18 : iWp d mX9_status 18 [a0, a1, a2, a3] (.int y :: .int x :: st) h Q = iWp d mX9_status 19 [a0, a1, a2, a3] (.int (x - y) :: st) h Q := w_isub dX9_status_18
theorem X9_status_19 : iWp d mX9_status 19 [a0, a1, a2, a3] (.int x :: .ref p :: st) h Q = iOb (iLdI h p x) (fun v => iWp d mX9_status 20 [a0, a1, a2, a3] (.int v :: st) h Q) := w_iaload dX9_status_19
theorem X9_status_20 : iWp d mX9_status 20 [a0, a1, a2, a3] [.int x] h Q = Q (some (.int x)) h := w_ireti dX9_status_20 rfl
theorem X9_status_21 : iWp d mX9_status 21 [a0, a1, a2, a3] st h Q = iWp d mX9_status 22 [a0, a1, a2, a3] (.int 0 :: st) h Q := w_iconst dX9_status_21 rfl
theorem X9_status_22 : iWp d mX9_status 22 [a0, a1, a2, a3] (.int x :: st) h Q = iWp d mX9_status 23 [a0, iClr a1, .int x, a3] st h Q := w_istore_n dX9_status_22 (Nat.le_of_ble_eq_true rfl) rfl
theorem X9_status_23 : iWp d mX9_status 23 [a0, .int x, a2, a3] st h Q = iWp d mX9_status 24 [a0, .int x, a2, a3] (.int x :: st) h Q := w_iload_n dX9_status_23 rfl
theorem X9_status_24_0 : iWp d mX9_status 24 [a0, a1, a2, a3] (.int 0 :: st) h Q = iWp d mX9_status 68 [a0, a1, a2, a3] st h Q := w_switch dX9_status_24 rfl rfl rfl
theorem X9_status_24_1 : iWp d mX9_status 24 [a0, a1, a2, a3] (.int 1 :: st) h Q = iWp d mX9_status 73 [a0, a1, a2, a3] st h Q := w_switch dX9_status_24 rfl rfl rfl
theorem X9_status_24_2 : iWp d mX9_status 24 [a0, a1, a2, a3] (.int 2 :: st) h Q = iWp d mX9_status 78 [a0, a1, a2, a3] st h Q := w_switch dX9_status_24 rfl rfl rfl
theorem X9_status_24_3 : iWp d mX9_status 24 [a0, a1, a2, a3] (.int 3 :: st) h Q = iWp d mX9_status 105 [a0, a1, a2, a3] st h Q := w_switch dX9_status_24 rfl rfl rfl
theorem X9_status_24_4 : iWp d mX9_status 24 [a0, a1, a2, a3] (.int 4 :: st) h Q = iWp d mX9_status 132 [a0, a1, a2, a3] st h Q := w_switch dX9_status_24 rfl rfl rfl
theorem X9_status_24_5 : iWp d mX9_status 24 [a0, a1, a2, a3] (.int 5 :: st) h Q = iWp d mX9_status 137 [a0, a1, a2, a3] st h Q := w_switch dX9_status_24 rfl rfl rfl
theorem X9_status_24_6 : iWp d mX9_status 24 [a0, a1, a2, a3] (.int 6 :: st) h Q = iWp d mX9_status 142 [a0, a1, a2, a3] st h Q := w_switch dX9_status_24 rfl rfl rfl
theorem X9_status_24_d (hx : x.toInt < 0 ∨ 6 < x.toInt) : iWp d mX9_status 24 [a0, a1, a2, a3] (.int x :: st) h Q = iWp d mX9_status 170 [a0, a1, a2, a3] st h Q := w_switchD dX9_status_24 hx rfl
theorem X9_status_68 : iWp d mX9_status 68 [.ref p, a1, a2, a3] st h Q = iWp d mX9_status 69 [.ref p, a1, a2, a3] (.ref p :: st) h Q := w_aload_n dX9_status_68 rfl
theorem X9_status_69 : iWp d mX9_status 69 [a0, a1, a2, a3] (.ref p :: st) h Q = iOb (iGet h p 9 0) (fun v => iWp d mX9_status 72 [a0, a1, a2, a3] (v :: st) h Q) := w_getf dX9_status_69 fF_9_103
theorem X9_status_72 : iWp d mX9_status 72 [a0, a1, a2, a3] [.int x] h Q = Q (some (.int x)) h := w_ireti dX9_status_72 rfl
theorem X9_status_73 : iWp d mX9_status 73 [.ref p, a1, a2, a3] st h Q = iWp d mX9_status 74 [.ref p, a1, a2, a3] (.ref p :: st) h Q := w_aload_n dX9_status_73 rfl
theorem X9_status_74 : iWp d mX9_status 74 [a0, a1, a2, a3] (.ref p :: st) h Q = iOb (iGet h p 9 5) (fun v => iWp d mX9_status 77 [a0, a1, a2, a3] (v :: st) h Q) := w_getf dX9_status_74 fF_9_110
theorem X9_status_77 : iWp d mX9_status 77 [a0, a1, a2, a3] [.int x] h Q = Q (some (.int x)) h := w_ireti dX9_status_77 rfl
theorem X9_status_78 : iWp d mX9_status 78 [a0, a1, a2, a3] st h Q = iWp d mX9_status 79 [a0, a1, a2, a3] (.int 0 :: st) h Q := w_iconst dX9_status_78 rfl
theorem X9_status_79 : iWp d mX9_status 79 [a0, a1, a2, a3] (.int x :: st) h Q = iWp d mX9_status 80 [a0, a1, iClr a2, .int x] st h Q := w_istore_n dX9_status_79 (Nat.le_of_ble_eq_true rfl) rfl
theorem X9_status_80 : iWp d mX9_status 80 [a0, a1, a2, .int x] st h Q = iWp d mX9_status 81 [a0, a1, a2, .int x] (.int x :: st) h Q := w_iload_n dX9_status_80 rfl
theorem X9_status_81 : iWp d mX9_status 81 [.ref p, a1, a2, a3] st h Q = iWp d mX9_status 82 [.ref p, a1, a2, a3] (.ref p :: st) h Q := w_aload_n dX9_status_81 rfl
theorem X9_status_82 : iWp d mX9_status 82 [a0, a1, a2, a3] (.ref p :: st) h Q = iOb (iGet h p 9 0) (fun v => iWp d mX9_status 85 [a0, a1, a2, a3] (v :: st) h Q) := w_getf dX9_status_82 fF_9_103
theorem X9_status_85 : iWp d mX9_status 85 [a0, a1, a2, a3] (.int y :: .int x :: st) h Q = if y ≤ x then iWp d mX9_status 103 [a0, a1, a2, a3] st h Q else iWp d mX9_status 88 [a0, a1, a2, a3] st h Q := w_icmp_ge dX9_status_85 rfl
theorem X9_status_88 : iWp d mX9_status 88 [a0, a1, .int x, a3] st h Q = iWp d mX9_status 89 [a0, a1, .int x, a3] (.int x :: st) h Q := w_iload_n dX9_status_88 rfl
theorem X9_status_89 : iWp d mX9_status 89 [.ref p, a1, a2, a3] st h Q = iWp d mX9_status 90 [.ref p, a1, a2, a3] (.ref p :: st) h Q := w_aload_n dX9_status_89 rfl
theorem X9_status_90 : iWp d mX9_status 90 [a0, a1, a2, a3] (.ref p :: st) h Q = iOb (iGet h p 9 1) (fun v => iWp d mX9_status 93 [a0, a1, a2, a3] (v :: st) h Q) := w_getf dX9_status_90 fF_9_7
theorem X9_status_93 : iWp d mX9_status 93 [a0, a1, a2, .int x] st h Q = iWp d mX9_status 94 [a0, a1, a2, .int x] (.int x :: st) h Q := w_iload_n dX9_status_93 rfl
theorem X9_status_94 : iWp d mX9_status 94 [a0, a1, a2, a3] (.int x :: .ref p :: st) h Q = iOb (iLdI h p x) (fun v => iWp d mX9_status 95 [a0, a1, a2, a3] (.int v :: st) h Q) := w_iaload dX9_status_94
theorem X9_status_95 : iWp d mX9_status 95 [a0, a1, a2, a3] (.int y :: .int x :: st) h Q = iWp d mX9_status 96 [a0, a1, a2, a3] (.int (x + y) :: st) h Q := w_iadd dX9_status_95
theorem X9_status_96 : iWp d mX9_status 96 [a0, a1, a2, a3] (.int x :: st) h Q = iWp d mX9_status 97 [a0, iClr a1, .int x, a3] st h Q := w_istore_n dX9_status_96 (Nat.le_of_ble_eq_true rfl) rfl
theorem X9_status_97 : iWp d mX9_status 97 [a0, a1, a2, .int x] st h Q = iWp d mX9_status 100 [a0, a1, iClr a2, .int (x + 1)] st h Q := w_iinc dX9_status_97 rfl (Nat.le_of_ble_eq_true rfl) rfl
theorem X9_status_100 : iWp d mX9_status 100 [a0, a1, a2, a3] st h Q = iWp d mX9_status 80 [a0, a1, a2, a3] st h Q := w_goto dX9_status_100 rfl
theorem X9_status_103 : iWp d mX9_status 103 [a0, a1, .int x, a3] st h Q = iWp d mX9_status 104 [a0, a1, .int x, a3] (.int x :: st) h Q := w_iload_n dX9_status_103 rfl
theorem X9_status_104 : iWp d mX9_status 104 [a0, a1, a2, a3] [.int x] h Q = Q (some (.int x)) h := w_ireti dX9_status_104 rfl
theorem X9_status_105 : iWp d mX9_status 105 [a0, a1, a2, a3] st h Q = iWp d mX9_status 106 [a0, a1, a2, a3] (.int 0 :: st) h Q := w_iconst dX9_status_105 rfl
theorem X9_status_106 : iWp d mX9_status 106 [a0, a1, a2, a3] (.int x :: st) h Q = iWp d mX9_status 107 [a0, a1, iClr a2, .int x] st h Q := w_istore_n dX9_status_106 (Nat.le_of_ble_eq_true rfl) rfl
theorem X9_status_107 : iWp d mX9_status 107 [a0, a1, a2, .int x] st h Q = iWp d mX9_status 108 [a0, a1, a2, .int x] (.int x :: st) h Q := w_iload_n dX9_status_107 rfl
theorem X9_status_108 : iWp d mX9_status 108 [.ref p, a1, a2, a3] st h Q = iWp d mX9_status 109 [.ref p, a1, a2, a3] (.ref p :: st) h Q := w_aload_n dX9_status_108 rfl
theorem X9_status_109 : iWp d mX9_status 109 [a0, a1, a2, a3] (.ref p :: st) h Q = iOb (iGet h p 9 5) (fun v => iWp d mX9_status 112 [a0, a1, a2, a3] (v :: st) h Q) := w_getf dX9_status_109 fF_9_110
theorem X9_status_112 : iWp d mX9_status 112 [a0, a1, a2, a3] (.int y :: .int x :: st) h Q = if y ≤ x then iWp d mX9_status 130 [a0, a1, a2, a3] st h Q else iWp d mX9_status 115 [a0, a1, a2, a3] st h Q := w_icmp_ge dX9_status_112 rfl
theorem X9_status_115 : iWp d mX9_status 115 [a0, a1, .int x, a3] st h Q = iWp d mX9_status 116 [a0, a1, .int x, a3] (.int x :: st) h Q := w_iload_n dX9_status_115 rfl
theorem X9_status_116 : iWp d mX9_status 116 [.ref p, a1, a2, a3] st h Q = iWp d mX9_status 117 [.ref p, a1, a2, a3] (.ref p :: st) h Q := w_aload_n dX9_status_116 rfl
theorem X9_status_117 : iWp d mX9_status 117 [a0, a1, a2, a3] st h Q = iWp d mX9_status 118 [a0, a1, a2, a3] (.int 0 :: st) h Q := w_iconst dX9_status_117 rfl
theorem X9_status_118 : iWp d mX9_status 118 [a0, a1, a2, .int x] st h Q = iWp d mX9_status 119 [a0, a1, a2, .int x] (.int x :: st) h Q := w_iload_n dX9_status_118 rfl
theorem X9_status_119 (he : iEv mX9_of [.ref p, .int x0, .int x1] h (some (.int rv)) h2) (ho : iObj h p 9 = true) : iWp 2 mX9_status 119 [a0, a1, a2, a3] [.int x1, .int x0, .ref p, .int r0] h Q = iWp 2 mX9_status 122 [a0, a1, a2, a3] [.int rv, .int r0] h2 Q := iWp_cV dX9_status_119 fK_9_123 rfl rfl ho (Nat.le_of_ble_eq_true rfl) (Nat.le_of_ble_eq_true rfl) rfl (Nat.le_of_ble_eq_true rfl) he rfl
theorem X9_status_122 : iWp d mX9_status 122 [a0, a1, a2, a3] (.int y :: .int x :: st) h Q = iWp d mX9_status 123 [a0, a1, a2, a3] (.int (x + y) :: st) h Q := w_iadd dX9_status_122
theorem X9_status_123 : iWp d mX9_status 123 [a0, a1, a2, a3] (.int x :: st) h Q = iWp d mX9_status 124 [a0, iClr a1, .int x, a3] st h Q := w_istore_n dX9_status_123 (Nat.le_of_ble_eq_true rfl) rfl
theorem X9_status_124 : iWp d mX9_status 124 [a0, a1, a2, .int x] st h Q = iWp d mX9_status 127 [a0, a1, iClr a2, .int (x + 1)] st h Q := w_iinc dX9_status_124 rfl (Nat.le_of_ble_eq_true rfl) rfl
theorem X9_status_127 : iWp d mX9_status 127 [a0, a1, a2, a3] st h Q = iWp d mX9_status 107 [a0, a1, a2, a3] st h Q := w_goto dX9_status_127 rfl
theorem X9_status_130 : iWp d mX9_status 130 [a0, a1, .int x, a3] st h Q = iWp d mX9_status 131 [a0, a1, .int x, a3] (.int x :: st) h Q := w_iload_n dX9_status_130 rfl
theorem X9_status_131 : iWp d mX9_status 131 [a0, a1, a2, a3] [.int x] h Q = Q (some (.int x)) h := w_ireti dX9_status_131 rfl
theorem X9_status_132 : iWp d mX9_status 132 [.ref p, a1, a2, a3] st h Q = iWp d mX9_status 133 [.ref p, a1, a2, a3] (.ref p :: st) h Q := w_aload_n dX9_status_132 rfl
theorem X9_status_133 : iWp d mX9_status 133 [a0, a1, a2, a3] (.ref p :: st) h Q = iOb (iGet h p 9 6) (fun v => iWp d mX9_status 136 [a0, a1, a2, a3] (v :: st) h Q) := w_getf dX9_status_133 fF_9_239
theorem X9_status_136 : iWp d mX9_status 136 [a0, a1, a2, a3] [.int x] h Q = Q (some (.int x)) h := w_ireti dX9_status_136 rfl
theorem X9_status_137 : iWp d mX9_status 137 [.ref p, a1, a2, a3] st h Q = iWp d mX9_status 138 [.ref p, a1, a2, a3] (.ref p :: st) h Q := w_aload_n dX9_status_137 rfl
theorem X9_status_138 : iWp d mX9_status 138 [a0, a1, a2, a3] (.ref p :: st) h Q = iOb (iGet h p 9 10) (fun v => iWp d mX9_status 141 [a0, a1, a2, a3] (v :: st) h Q) := w_getf dX9_status_138 fF_9_92
theorem X9_status_141 : iWp d mX9_status 141 [a0, a1, a2, a3] [.int x] h Q = Q (some (.int x)) h := w_ireti dX9_status_141 rfl
theorem X9_status_142 : iWp d mX9_status 142 [a0, a1, a2, a3] st h Q = iWp d mX9_status 143 [a0, a1, a2, a3] (.int 0 :: st) h Q := w_iconst dX9_status_142 rfl
theorem X9_status_143 : iWp d mX9_status 143 [a0, a1, a2, a3] (.int x :: st) h Q = iWp d mX9_status 144 [a0, a1, iClr a2, .int x] st h Q := w_istore_n dX9_status_143 (Nat.le_of_ble_eq_true rfl) rfl
theorem X9_status_144 : iWp d mX9_status 144 [a0, a1, a2, .int x] st h Q = iWp d mX9_status 145 [a0, a1, a2, .int x] (.int x :: st) h Q := w_iload_n dX9_status_144 rfl
theorem X9_status_145 : iWp d mX9_status 145 [a0, a1, a2, a3] st h Q = iWp d mX9_status 147 [a0, a1, a2, a3] (.int 8 :: st) h Q := w_bipush dX9_status_145 rfl
theorem X9_status_147 : iWp d mX9_status 147 [a0, a1, a2, a3] (.int y :: .int x :: st) h Q = if y ≤ x then iWp d mX9_status 168 [a0, a1, a2, a3] st h Q else iWp d mX9_status 150 [a0, a1, a2, a3] st h Q := w_icmp_ge dX9_status_147 rfl
theorem X9_status_150 : iWp d mX9_status 150 [.ref p, a1, a2, a3] st h Q = iWp d mX9_status 151 [.ref p, a1, a2, a3] (.ref p :: st) h Q := w_aload_n dX9_status_150 rfl
theorem X9_status_151 : iWp d mX9_status 151 [a0, a1, a2, a3] (.ref p :: st) h Q = iOb (iGet h p 9 11) (fun v => iWp d mX9_status 154 [a0, a1, a2, a3] (v :: st) h Q) := w_getf dX9_status_151 fF_9_31
theorem X9_status_154 : iWp d mX9_status 154 [a0, a1, a2, .int x] st h Q = iWp d mX9_status 155 [a0, a1, a2, .int x] (.int x :: st) h Q := w_iload_n dX9_status_154 rfl
theorem X9_status_155 : iWp d mX9_status 155 [a0, a1, a2, a3] (.int x :: .ref p :: st) h Q = iOb (iLdI h p x) (fun v => iWp d mX9_status 156 [a0, a1, a2, a3] (.int v :: st) h Q) := w_iaload dX9_status_155
theorem X9_status_156 : iWp d mX9_status 156 [a0, a1, a2, a3] (.int x :: st) h Q = if x < 0 then iWp d mX9_status 162 [a0, a1, a2, a3] st h Q else iWp d mX9_status 159 [a0, a1, a2, a3] st h Q := w_ifc_lt dX9_status_156 rfl
theorem X9_status_159 : iWp d mX9_status 159 [a0, a1, .int x, a3] st h Q = iWp d mX9_status 162 [a0, iClr a1, .int (x + 1), a3] st h Q := w_iinc dX9_status_159 rfl (Nat.le_of_ble_eq_true rfl) rfl
theorem X9_status_162 : iWp d mX9_status 162 [a0, a1, a2, .int x] st h Q = iWp d mX9_status 165 [a0, a1, iClr a2, .int (x + 1)] st h Q := w_iinc dX9_status_162 rfl (Nat.le_of_ble_eq_true rfl) rfl
theorem X9_status_165 : iWp d mX9_status 165 [a0, a1, a2, a3] st h Q = iWp d mX9_status 144 [a0, a1, a2, a3] st h Q := w_goto dX9_status_165 rfl
theorem X9_status_168 : iWp d mX9_status 168 [a0, a1, .int x, a3] st h Q = iWp d mX9_status 169 [a0, a1, .int x, a3] (.int x :: st) h Q := w_iload_n dX9_status_168 rfl
theorem X9_status_169 : iWp d mX9_status 169 [a0, a1, a2, a3] [.int x] h Q = Q (some (.int x)) h := w_ireti dX9_status_169 rfl
theorem X9_status_170 : iWp d mX9_status 170 [a0, a1, a2, a3] st h Q = iWp d mX9_status 171 [a0, a1, a2, a3] (.int (-1) :: st) h Q := w_iconst dX9_status_170 rfl
theorem X9_status_171 : iWp d mX9_status 171 [a0, a1, a2, a3] [.int x] h Q = Q (some (.int x)) h := w_ireti dX9_status_171 rfl
theorem I9_status {Q : Option Value → iHp → Prop} (hw : iWp 2 mX9_status 0 [.ref p, .int x0, iU, iU] [] h Q) : ∃ r h1, iEv mX9_status [.ref p, .int x0] h r h1 ∧ Q r h1 := iEv_of (by rfl) rfl hw
theorem J9_status {r : Option Value} {h1 : iHp} (hw : iWp 2 mX9_status 0 [.ref p, .int x0, iU, iU] [] h (fun r' h' => r' = r ∧ h' = h1)) : iEv mX9_status [.ref p, .int x0] h r h1 := iEv_ev (by rfl) rfl hw
theorem X9_staying_0 : iWp d mX9_staying 0 [.ref p, a1, a2, a3, a4, a5, a6, a7, a8, a9, a10, a11, a12] st h Q = iWp d mX9_staying 1 [.ref p, a1, a2, a3, a4, a5, a6, a7, a8, a9, a10, a11, a12] (.ref p :: st) h Q := w_aload_n dX9_staying_0 rfl
theorem X9_staying_1 : iWp d mX9_staying 1 [a0, .int x, a2, a3, a4, a5, a6, a7, a8, a9, a10, a11, a12] st h Q = iWp d mX9_staying 2 [a0, .int x, a2, a3, a4, a5, a6, a7, a8, a9, a10, a11, a12] (.int x :: st) h Q := w_iload_n dX9_staying_1 rfl
theorem X9_staying_2 : iWp d mX9_staying 2 [a0, a1, .int x, a3, a4, a5, a6, a7, a8, a9, a10, a11, a12] st h Q = iWp d mX9_staying 3 [a0, a1, .int x, a3, a4, a5, a6, a7, a8, a9, a10, a11, a12] (.int x :: st) h Q := w_iload_n dX9_staying_2 rfl
theorem X9_staying_3 (he : iEv mX9_keyOf [.ref p, .int x0, .int x1] h (some (.int rv)) h2) (ho : iObj h p 9 = true) : iWp 4 mX9_staying 3 [a0, a1, a2, a3, a4, a5, a6, a7, a8, a9, a10, a11, a12] [.int x1, .int x0, .ref p] h Q = iWp 4 mX9_staying 6 [a0, a1, a2, a3, a4, a5, a6, a7, a8, a9, a10, a11, a12] [.int rv] h2 Q := iWp_cV dX9_staying_3 fK_9_211 rfl rfl ho (Nat.le_of_ble_eq_true rfl) (Nat.le_of_ble_eq_true rfl) rfl (Nat.le_of_ble_eq_true rfl) he rfl
theorem X9_staying_6 : iWp d mX9_staying 6 [a0, a1, a2, a3, a4, a5, a6, a7, a8, a9, a10, a11, a12] (.int x :: st) h Q = iWp d mX9_staying 7 [a0, a1, iClr a2, .int x, a4, a5, a6, a7, a8, a9, a10, a11, a12] st h Q := w_istore_n dX9_staying_6 (Nat.le_of_ble_eq_true rfl) rfl
theorem X9_staying_7 : iWp d mX9_staying 7 [a0, a1, a2, a3, a4, a5, a6, a7, a8, a9, a10, a11, a12] st h Q = iWp d mX9_staying 8 [a0, a1, a2, a3, a4, a5, a6, a7, a8, a9, a10, a11, a12] (.int 0 :: st) h Q := w_iconst dX9_staying_7 rfl
theorem X9_staying_8 : iWp d mX9_staying 8 [a0, a1, a2, a3, a4, a5, a6, a7, a8, a9, a10, a11, a12] (.int x :: st) h Q = iWp d mX9_staying 10 [a0, a1, a2, iClr a3, .int x, a5, a6, a7, a8, a9, a10, a11, a12] st h Q := w_istore dX9_staying_8 (Nat.le_of_ble_eq_true rfl) rfl
theorem X9_staying_10 : iWp d mX9_staying 10 [.ref p, a1, a2, a3, a4, a5, a6, a7, a8, a9, a10, a11, a12] st h Q = iWp d mX9_staying 11 [.ref p, a1, a2, a3, a4, a5, a6, a7, a8, a9, a10, a11, a12] (.ref p :: st) h Q := w_aload_n dX9_staying_10 rfl
theorem X9_staying_11 : iWp d mX9_staying 11 [a0, .int x, a2, a3, a4, a5, a6, a7, a8, a9, a10, a11, a12] st h Q = iWp d mX9_staying 12 [a0, .int x, a2, a3, a4, a5, a6, a7, a8, a9, a10, a11, a12] (.int x :: st) h Q := w_iload_n dX9_staying_11 rfl
theorem X9_staying_12 : iWp d mX9_staying 12 [a0, a1, .int x, a3, a4, a5, a6, a7, a8, a9, a10, a11, a12] st h Q = iWp d mX9_staying 13 [a0, a1, .int x, a3, a4, a5, a6, a7, a8, a9, a10, a11, a12] (.int x :: st) h Q := w_iload_n dX9_staying_12 rfl
theorem X9_staying_13 : iWp d mX9_staying 13 [a0, a1, .int x, a3, a4, a5, a6, a7, a8, a9, a10, a11, a12] st h Q = iWp d mX9_staying 14 [a0, a1, .int x, a3, a4, a5, a6, a7, a8, a9, a10, a11, a12] (.int x :: st) h Q := w_iload_n dX9_staying_13 rfl
theorem X9_staying_14 (he : iEv mX9_next [.ref p, .int x0, .int x1, .int x2] h (some (.int rv)) h2) (ho : iObj h p 9 = true) : iWp 4 mX9_staying 14 [a0, a1, a2, a3, a4, a5, a6, a7, a8, a9, a10, a11, a12] [.int x2, .int x1, .int x0, .ref p] h Q = iWp 4 mX9_staying 17 [a0, a1, a2, a3, a4, a5, a6, a7, a8, a9, a10, a11, a12] [.int rv] h2 Q := iWp_cV dX9_staying_14 fK_9_214 rfl rfl ho (Nat.le_of_ble_eq_true rfl) (Nat.le_of_ble_eq_true rfl) rfl (Nat.le_of_ble_eq_true rfl) he rfl
theorem X9_staying_17 : iWp d mX9_staying 17 [a0, a1, a2, a3, a4, a5, a6, a7, a8, a9, a10, a11, a12] (.int x :: st) h Q = iWp d mX9_staying 19 [a0, a1, a2, a3, iClr a4, .int x, a6, a7, a8, a9, a10, a11, a12] st h Q := w_istore dX9_staying_17 (Nat.le_of_ble_eq_true rfl) rfl
theorem X9_staying_19 : iWp d mX9_staying 19 [a0, a1, a2, a3, a4, .int x, a6, a7, a8, a9, a10, a11, a12] st h Q = iWp d mX9_staying 21 [a0, a1, a2, a3, a4, .int x, a6, a7, a8, a9, a10, a11, a12] (.int x :: st) h Q := w_iload dX9_staying_19 rfl
theorem X9_staying_21 : iWp d mX9_staying 21 [a0, a1, a2, a3, a4, a5, a6, a7, a8, a9, a10, a11, a12] st h Q = iWp d mX9_staying 22 [a0, a1, a2, a3, a4, a5, a6, a7, a8, a9, a10, a11, a12] (.int (-1) :: st) h Q := w_iconst dX9_staying_21 rfl
theorem X9_staying_22 : iWp d mX9_staying 22 [a0, a1, a2, a3, a4, a5, a6, a7, a8, a9, a10, a11, a12] (.int y :: .int x :: st) h Q = if x = y then iWp d mX9_staying 60 [a0, a1, a2, a3, a4, a5, a6, a7, a8, a9, a10, a11, a12] st h Q else iWp d mX9_staying 25 [a0, a1, a2, a3, a4, a5, a6, a7, a8, a9, a10, a11, a12] st h Q := w_icmp_eq dX9_staying_22 rfl
theorem X9_staying_25 : iWp d mX9_staying 25 [.ref p, a1, a2, a3, a4, a5, a6, a7, a8, a9, a10, a11, a12] st h Q = iWp d mX9_staying 26 [.ref p, a1, a2, a3, a4, a5, a6, a7, a8, a9, a10, a11, a12] (.ref p :: st) h Q := w_aload_n dX9_staying_25 rfl
theorem X9_staying_26 : iWp d mX9_staying 26 [a0, a1, a2, a3, a4, a5, a6, a7, a8, a9, a10, a11, a12] (.ref p :: st) h Q = iOb (iGet h p 9 22) (fun v => iWp d mX9_staying 29 [a0, a1, a2, a3, a4, a5, a6, a7, a8, a9, a10, a11, a12] (v :: st) h Q) := w_getf dX9_staying_26 fF_9_53
theorem X9_staying_29 : iWp d mX9_staying 29 [a0, a1, a2, a3, .int x, a5, a6, a7, a8, a9, a10, a11, a12] st h Q = iWp d mX9_staying 31 [a0, a1, a2, a3, .int x, a5, a6, a7, a8, a9, a10, a11, a12] (.int x :: st) h Q := w_iload dX9_staying_29 rfl
theorem X9_staying_31 : iWp d mX9_staying 31 [.ref p, a1, a2, a3, a4, a5, a6, a7, a8, a9, a10, a11, a12] st h Q = iWp d mX9_staying 32 [.ref p, a1, a2, a3, a4, a5, a6, a7, a8, a9, a10, a11, a12] (.ref p :: st) h Q := w_aload_n dX9_staying_31 rfl
theorem X9_staying_32 : iWp d mX9_staying 32 [.ref p, a1, a2, a3, a4, a5, a6, a7, a8, a9, a10, a11, a12] st h Q = iWp d mX9_staying 33 [.ref p, a1, a2, a3, a4, a5, a6, a7, a8, a9, a10, a11, a12] (.ref p :: st) h Q := w_aload_n dX9_staying_32 rfl
theorem X9_staying_33 : iWp d mX9_staying 33 [a0, .int x, a2, a3, a4, a5, a6, a7, a8, a9, a10, a11, a12] st h Q = iWp d mX9_staying 34 [a0, .int x, a2, a3, a4, a5, a6, a7, a8, a9, a10, a11, a12] (.int x :: st) h Q := w_iload_n dX9_staying_33 rfl
theorem X9_staying_34 : iWp d mX9_staying 34 [a0, a1, a2, a3, a4, .int x, a6, a7, a8, a9, a10, a11, a12] st h Q = iWp d mX9_staying 36 [a0, a1, a2, a3, a4, .int x, a6, a7, a8, a9, a10, a11, a12] (.int x :: st) h Q := w_iload dX9_staying_34 rfl
theorem X9_staying_36 (he : iEv mX9_keyOf [.ref p, .int x0, .int x1] h (some (.int rv)) h2) (ho : iObj h p 9 = true) : iWp 4 mX9_staying 36 [a0, a1, a2, a3, a4, a5, a6, a7, a8, a9, a10, a11, a12] [.int x1, .int x0, .ref p, .ref t0, .int r1, .ref t2] h Q = iWp 4 mX9_staying 39 [a0, a1, a2, a3, a4, a5, a6, a7, a8, a9, a10, a11, a12] [.int rv, .ref t0, .int r1, .ref t2] h2 Q := iWp_cV dX9_staying_36 fK_9_211 rfl rfl ho (Nat.le_of_ble_eq_true rfl) (Nat.le_of_ble_eq_true rfl) rfl (Nat.le_of_ble_eq_true rfl) he rfl
theorem X9_staying_39 : iWp d mX9_staying 39 [a0, a1, a2, .int x, a4, a5, a6, a7, a8, a9, a10, a11, a12] st h Q = iWp d mX9_staying 40 [a0, a1, a2, .int x, a4, a5, a6, a7, a8, a9, a10, a11, a12] (.int x :: st) h Q := w_iload_n dX9_staying_39 rfl
theorem X9_staying_40 (he : iEv mX9_placeIn [.ref p, .int x0, .int x1] h (some (.int rv)) h2) (ho : iObj h p 9 = true) : iWp 4 mX9_staying 40 [a0, a1, a2, a3, a4, a5, a6, a7, a8, a9, a10, a11, a12] [.int x1, .int x0, .ref p, .int r0, .ref t1] h Q = iWp 4 mX9_staying 43 [a0, a1, a2, a3, a4, a5, a6, a7, a8, a9, a10, a11, a12] [.int rv, .int r0, .ref t1] h2 Q := iWp_cV dX9_staying_40 fK_9_218 rfl rfl ho (Nat.le_of_ble_eq_true rfl) (Nat.le_of_ble_eq_true rfl) rfl (Nat.le_of_ble_eq_true rfl) he rfl
theorem X9_staying_43 : iWp d mX9_staying 43 [a0, a1, a2, a3, a4, a5, a6, a7, a8, a9, a10, a11, a12] (.int y :: .int x :: .ref p :: st) h Q = iOb (iStI h p x y) (fun g => iWp d mX9_staying 44 [a0, a1, a2, a3, a4, a5, a6, a7, a8, a9, a10, a11, a12] st g Q) := w_iastore dX9_staying_43
theorem X9_staying_44 : iWp d mX9_staying 44 [a0, a1, a2, a3, .int x, a5, a6, a7, a8, a9, a10, a11, a12] st h Q = iWp d mX9_staying 47 [a0, a1, a2, iClr a3, .int (x + 1), a5, a6, a7, a8, a9, a10, a11, a12] st h Q := w_iinc dX9_staying_44 rfl (Nat.le_of_ble_eq_true rfl) rfl
theorem X9_staying_47 : iWp d mX9_staying 47 [.ref p, a1, a2, a3, a4, a5, a6, a7, a8, a9, a10, a11, a12] st h Q = iWp d mX9_staying 48 [.ref p, a1, a2, a3, a4, a5, a6, a7, a8, a9, a10, a11, a12] (.ref p :: st) h Q := w_aload_n dX9_staying_47 rfl
theorem X9_staying_48 : iWp d mX9_staying 48 [a0, .int x, a2, a3, a4, a5, a6, a7, a8, a9, a10, a11, a12] st h Q = iWp d mX9_staying 49 [a0, .int x, a2, a3, a4, a5, a6, a7, a8, a9, a10, a11, a12] (.int x :: st) h Q := w_iload_n dX9_staying_48 rfl
theorem X9_staying_49 : iWp d mX9_staying 49 [a0, a1, .int x, a3, a4, a5, a6, a7, a8, a9, a10, a11, a12] st h Q = iWp d mX9_staying 50 [a0, a1, .int x, a3, a4, a5, a6, a7, a8, a9, a10, a11, a12] (.int x :: st) h Q := w_iload_n dX9_staying_49 rfl
theorem X9_staying_50 : iWp d mX9_staying 50 [a0, a1, a2, a3, a4, .int x, a6, a7, a8, a9, a10, a11, a12] st h Q = iWp d mX9_staying 52 [a0, a1, a2, a3, a4, .int x, a6, a7, a8, a9, a10, a11, a12] (.int x :: st) h Q := w_iload dX9_staying_50 rfl
theorem X9_staying_52 (he : iEv mX9_next [.ref p, .int x0, .int x1, .int x2] h (some (.int rv)) h2) (ho : iObj h p 9 = true) : iWp 4 mX9_staying 52 [a0, a1, a2, a3, a4, a5, a6, a7, a8, a9, a10, a11, a12] [.int x2, .int x1, .int x0, .ref p] h Q = iWp 4 mX9_staying 55 [a0, a1, a2, a3, a4, a5, a6, a7, a8, a9, a10, a11, a12] [.int rv] h2 Q := iWp_cV dX9_staying_52 fK_9_214 rfl rfl ho (Nat.le_of_ble_eq_true rfl) (Nat.le_of_ble_eq_true rfl) rfl (Nat.le_of_ble_eq_true rfl) he rfl
theorem X9_staying_55 : iWp d mX9_staying 55 [a0, a1, a2, a3, a4, a5, a6, a7, a8, a9, a10, a11, a12] (.int x :: st) h Q = iWp d mX9_staying 57 [a0, a1, a2, a3, iClr a4, .int x, a6, a7, a8, a9, a10, a11, a12] st h Q := w_istore dX9_staying_55 (Nat.le_of_ble_eq_true rfl) rfl
theorem X9_staying_57 : iWp d mX9_staying 57 [a0, a1, a2, a3, a4, a5, a6, a7, a8, a9, a10, a11, a12] st h Q = iWp d mX9_staying 19 [a0, a1, a2, a3, a4, a5, a6, a7, a8, a9, a10, a11, a12] st h Q := w_goto dX9_staying_57 rfl
theorem X9_staying_60 : iWp d mX9_staying 60 [a0, a1, a2, a3, a4, a5, a6, a7, a8, a9, a10, a11, a12] st h Q = iWp d mX9_staying 61 [a0, a1, a2, a3, a4, a5, a6, a7, a8, a9, a10, a11, a12] (.int 0 :: st) h Q := w_iconst dX9_staying_60 rfl
theorem X9_staying_61 : iWp d mX9_staying 61 [a0, a1, a2, a3, a4, a5, a6, a7, a8, a9, a10, a11, a12] (.int x :: st) h Q = iWp d mX9_staying 63 [a0, a1, a2, a3, iClr a4, .int x, a6, a7, a8, a9, a10, a11, a12] st h Q := w_istore dX9_staying_61 (Nat.le_of_ble_eq_true rfl) rfl
theorem X9_staying_63 : iWp d mX9_staying 63 [a0, a1, a2, a3, .int x, a5, a6, a7, a8, a9, a10, a11, a12] st h Q = iWp d mX9_staying 65 [a0, a1, a2, a3, .int x, a5, a6, a7, a8, a9, a10, a11, a12] (.int x :: st) h Q := w_iload dX9_staying_63 rfl
theorem X9_staying_65 : iWp d mX9_staying 65 [a0, a1, a2, a3, a4, a5, a6, a7, a8, a9, a10, a11, a12] st h Q = iWp d mX9_staying 66 [a0, a1, a2, a3, a4, a5, a6, a7, a8, a9, a10, a11, a12] (.int 1 :: st) h Q := w_iconst dX9_staying_65 rfl
theorem X9_staying_66 : iWp d mX9_staying 66 [a0, a1, a2, a3, a4, a5, a6, a7, a8, a9, a10, a11, a12] (.int y :: .int x :: st) h Q = iWp d mX9_staying 67 [a0, a1, a2, a3, a4, a5, a6, a7, a8, a9, a10, a11, a12] (.int (x - y) :: st) h Q := w_isub dX9_staying_66
theorem X9_staying_67 : iWp d mX9_staying 67 [a0, a1, a2, a3, a4, a5, a6, a7, a8, a9, a10, a11, a12] (.int x :: st) h Q = iWp d mX9_staying 69 [a0, a1, a2, a3, a4, iClr a5, .int x, a7, a8, a9, a10, a11, a12] st h Q := w_istore dX9_staying_67 (Nat.le_of_ble_eq_true rfl) rfl
theorem X9_staying_69 : iWp d mX9_staying 69 [a0, a1, a2, a3, a4, a5, .int x, a7, a8, a9, a10, a11, a12] st h Q = iWp d mX9_staying 71 [a0, a1, a2, a3, a4, a5, .int x, a7, a8, a9, a10, a11, a12] (.int x :: st) h Q := w_iload dX9_staying_69 rfl
theorem X9_staying_71 : iWp d mX9_staying 71 [a0, a1, a2, a3, a4, a5, a6, a7, a8, a9, a10, a11, a12] (.int x :: st) h Q = if x < 0 then iWp d mX9_staying 190 [a0, a1, a2, a3, a4, a5, a6, a7, a8, a9, a10, a11, a12] st h Q else iWp d mX9_staying 74 [a0, a1, a2, a3, a4, a5, a6, a7, a8, a9, a10, a11, a12] st h Q := w_ifc_lt dX9_staying_71 rfl
theorem X9_staying_74 : iWp d mX9_staying 74 [.ref p, a1, a2, a3, a4, a5, a6, a7, a8, a9, a10, a11, a12] st h Q = iWp d mX9_staying 75 [.ref p, a1, a2, a3, a4, a5, a6, a7, a8, a9, a10, a11, a12] (.ref p :: st) h Q := w_aload_n dX9_staying_74 rfl
theorem X9_staying_75 : iWp d mX9_staying 75 [a0, a1, a2, a3, a4, a5, a6, a7, a8, a9, a10, a11, a12] (.ref p :: st) h Q = iOb (iGet h p 9 29) (fun v => iWp d mX9_staying 78 [a0, a1, a2, a3, a4, a5, a6, a7, a8, a9, a10, a11, a12] (v :: st) h Q) := w_getf dX9_staying_75 fF_9_68
theorem X9_staying_78 : iWp d mX9_staying 78 [a0, a1, a2, a3, a4, a5, .int x, a7, a8, a9, a10, a11, a12] st h Q = iWp d mX9_staying 80 [a0, a1, a2, a3, a4, a5, .int x, a7, a8, a9, a10, a11, a12] (.int x :: st) h Q := w_iload dX9_staying_78 rfl
theorem X9_staying_80 : iWp d mX9_staying 80 [.ref p, a1, a2, a3, a4, a5, a6, a7, a8, a9, a10, a11, a12] st h Q = iWp d mX9_staying 81 [.ref p, a1, a2, a3, a4, a5, a6, a7, a8, a9, a10, a11, a12] (.ref p :: st) h Q := w_aload_n dX9_staying_80 rfl
theorem X9_staying_81 : iWp d mX9_staying 81 [a0, a1, a2, a3, a4, a5, a6, a7, a8, a9, a10, a11, a12] (.ref p :: st) h Q = iOb (iGet h p 9 22) (fun v => iWp d mX9_staying 84 [a0, a1, a2, a3, a4, a5, a6, a7, a8, a9, a10, a11, a12] (v :: st) h Q) := w_getf dX9_staying_81 fF_9_53
theorem X9_staying_84 : iWp d mX9_staying 84 [a0, a1, a2, a3, a4, a5, .int x, a7, a8, a9, a10, a11, a12] st h Q = iWp d mX9_staying 86 [a0, a1, a2, a3, a4, a5, .int x, a7, a8, a9, a10, a11, a12] (.int x :: st) h Q := w_iload dX9_staying_84 rfl
theorem X9_staying_86 : iWp d mX9_staying 86 [a0, a1, a2, a3, a4, a5, a6, a7, a8, a9, a10, a11, a12] (.int x :: .ref p :: st) h Q = iOb (iLdI h p x) (fun v => iWp d mX9_staying 87 [a0, a1, a2, a3, a4, a5, a6, a7, a8, a9, a10, a11, a12] (.int v :: st) h Q) := w_iaload dX9_staying_86
theorem X9_staying_87 : iWp d mX9_staying 87 [a0, a1, a2, a3, a4, a5, a6, a7, a8, a9, a10, a11, a12] st h Q = iWp d mX9_staying 88 [a0, a1, a2, a3, a4, a5, a6, a7, a8, a9, a10, a11, a12] (.int (-1) :: st) h Q := w_iconst dX9_staying_87 rfl
theorem X9_staying_88 : iWp d mX9_staying 88 [a0, a1, a2, a3, a4, a5, a6, a7, a8, a9, a10, a11, a12] (.int y :: .int x :: st) h Q = if x = y then iWp d mX9_staying 91 [a0, a1, a2, a3, a4, a5, a6, a7, a8, a9, a10, a11, a12] st h Q else iWp d mX9_staying 95 [a0, a1, a2, a3, a4, a5, a6, a7, a8, a9, a10, a11, a12] st h Q := w_icmp_ne dX9_staying_88 rfl
theorem X9_staying_91 : iWp d mX9_staying 91 [a0, a1, a2, a3, a4, a5, a6, a7, a8, a9, a10, a11, a12] st h Q = iWp d mX9_staying 92 [a0, a1, a2, a3, a4, a5, a6, a7, a8, a9, a10, a11, a12] (.int 0 :: st) h Q := w_iconst dX9_staying_91 rfl
theorem X9_staying_92 : iWp d mX9_staying 92 [a0, a1, a2, a3, a4, a5, a6, a7, a8, a9, a10, a11, a12] st h Q = iWp d mX9_staying 96 [a0, a1, a2, a3, a4, a5, a6, a7, a8, a9, a10, a11, a12] st h Q := w_goto dX9_staying_92 rfl
theorem X9_staying_95 : iWp d mX9_staying 95 [a0, a1, a2, a3, a4, a5, a6, a7, a8, a9, a10, a11, a12] st h Q = iWp d mX9_staying 96 [a0, a1, a2, a3, a4, a5, a6, a7, a8, a9, a10, a11, a12] (.int 1 :: st) h Q := w_iconst dX9_staying_95 rfl
theorem X9_staying_96 : iWp d mX9_staying 96 [a0, a1, a2, a3, a4, a5, a6, a7, a8, a9, a10, a11, a12] (.int y :: .int x :: .ref p :: st) h Q = iOb (iStI h p x y) (fun g => iWp d mX9_staying 97 [a0, a1, a2, a3, a4, a5, a6, a7, a8, a9, a10, a11, a12] st g Q) := w_iastore dX9_staying_96
theorem X9_staying_97 : iWp d mX9_staying 97 [a0, a1, a2, a3, a4, a5, .int x, a7, a8, a9, a10, a11, a12] st h Q = iWp d mX9_staying 99 [a0, a1, a2, a3, a4, a5, .int x, a7, a8, a9, a10, a11, a12] (.int x :: st) h Q := w_iload dX9_staying_97 rfl
theorem X9_staying_99 : iWp d mX9_staying 99 [a0, a1, a2, a3, a4, a5, a6, a7, a8, a9, a10, a11, a12] st h Q = iWp d mX9_staying 100 [a0, a1, a2, a3, a4, a5, a6, a7, a8, a9, a10, a11, a12] (.int 1 :: st) h Q := w_iconst dX9_staying_99 rfl
theorem X9_staying_100 : iWp d mX9_staying 100 [a0, a1, a2, a3, a4, a5, a6, a7, a8, a9, a10, a11, a12] (.int y :: .int x :: st) h Q = iWp d mX9_staying 101 [a0, a1, a2, a3, a4, a5, a6, a7, a8, a9, a10, a11, a12] (.int (x + y) :: st) h Q := w_iadd dX9_staying_100
theorem X9_staying_101 : iWp d mX9_staying 101 [a0, a1, a2, a3, a4, a5, a6, a7, a8, a9, a10, a11, a12] (.int x :: st) h Q = iWp d mX9_staying 103 [a0, a1, a2, a3, a4, a5, iClr a6, .int x, a8, a9, a10, a11, a12] st h Q := w_istore dX9_staying_101 (Nat.le_of_ble_eq_true rfl) rfl
theorem X9_staying_103 : iWp d mX9_staying 103 [a0, a1, a2, a3, a4, a5, a6, .int x, a8, a9, a10, a11, a12] st h Q = iWp d mX9_staying 105 [a0, a1, a2, a3, a4, a5, a6, .int x, a8, a9, a10, a11, a12] (.int x :: st) h Q := w_iload dX9_staying_103 rfl
theorem X9_staying_105 : iWp d mX9_staying 105 [a0, a1, a2, a3, .int x, a5, a6, a7, a8, a9, a10, a11, a12] st h Q = iWp d mX9_staying 107 [a0, a1, a2, a3, .int x, a5, a6, a7, a8, a9, a10, a11, a12] (.int x :: st) h Q := w_iload dX9_staying_105 rfl
theorem X9_staying_107 : iWp d mX9_staying 107 [a0, a1, a2, a3, a4, a5, a6, a7, a8, a9, a10, a11, a12] (.int y :: .int x :: st) h Q = if y ≤ x then iWp d mX9_staying 170 [a0, a1, a2, a3, a4, a5, a6, a7, a8, a9, a10, a11, a12] st h Q else iWp d mX9_staying 110 [a0, a1, a2, a3, a4, a5, a6, a7, a8, a9, a10, a11, a12] st h Q := w_icmp_ge dX9_staying_107 rfl
theorem X9_staying_110 : iWp d mX9_staying 110 [.ref p, a1, a2, a3, a4, a5, a6, a7, a8, a9, a10, a11, a12] st h Q = iWp d mX9_staying 111 [.ref p, a1, a2, a3, a4, a5, a6, a7, a8, a9, a10, a11, a12] (.ref p :: st) h Q := w_aload_n dX9_staying_110 rfl
theorem X9_staying_111 : iWp d mX9_staying 111 [a0, a1, a2, a3, a4, a5, a6, a7, a8, a9, a10, a11, a12] (.ref p :: st) h Q = iOb (iGet h p 9 22) (fun v => iWp d mX9_staying 114 [a0, a1, a2, a3, a4, a5, a6, a7, a8, a9, a10, a11, a12] (v :: st) h Q) := w_getf dX9_staying_111 fF_9_53
theorem X9_staying_114 : iWp d mX9_staying 114 [a0, a1, a2, a3, a4, a5, .int x, a7, a8, a9, a10, a11, a12] st h Q = iWp d mX9_staying 116 [a0, a1, a2, a3, a4, a5, .int x, a7, a8, a9, a10, a11, a12] (.int x :: st) h Q := w_iload dX9_staying_114 rfl
theorem X9_staying_116 : iWp d mX9_staying 116 [a0, a1, a2, a3, a4, a5, a6, a7, a8, a9, a10, a11, a12] (.int x :: .ref p :: st) h Q = iOb (iLdI h p x) (fun v => iWp d mX9_staying 117 [a0, a1, a2, a3, a4, a5, a6, a7, a8, a9, a10, a11, a12] (.int v :: st) h Q) := w_iaload dX9_staying_116
theorem X9_staying_117 : iWp d mX9_staying 117 [a0, a1, a2, a3, a4, a5, a6, a7, a8, a9, a10, a11, a12] st h Q = iWp d mX9_staying 118 [a0, a1, a2, a3, a4, a5, a6, a7, a8, a9, a10, a11, a12] (.int (-1) :: st) h Q := w_iconst dX9_staying_117 rfl
theorem X9_staying_118 : iWp d mX9_staying 118 [a0, a1, a2, a3, a4, a5, a6, a7, a8, a9, a10, a11, a12] (.int y :: .int x :: st) h Q = if x = y then iWp d mX9_staying 170 [a0, a1, a2, a3, a4, a5, a6, a7, a8, a9, a10, a11, a12] st h Q else iWp d mX9_staying 121 [a0, a1, a2, a3, a4, a5, a6, a7, a8, a9, a10, a11, a12] st h Q := w_icmp_eq dX9_staying_118 rfl
theorem X9_staying_121 : iWp d mX9_staying 121 [.ref p, a1, a2, a3, a4, a5, a6, a7, a8, a9, a10, a11, a12] st h Q = iWp d mX9_staying 122 [.ref p, a1, a2, a3, a4, a5, a6, a7, a8, a9, a10, a11, a12] (.ref p :: st) h Q := w_aload_n dX9_staying_121 rfl
theorem X9_staying_122 : iWp d mX9_staying 122 [a0, a1, a2, a3, a4, a5, a6, a7, a8, a9, a10, a11, a12] (.ref p :: st) h Q = iOb (iGet h p 9 22) (fun v => iWp d mX9_staying 125 [a0, a1, a2, a3, a4, a5, a6, a7, a8, a9, a10, a11, a12] (v :: st) h Q) := w_getf dX9_staying_122 fF_9_53
theorem X9_staying_125 : iWp d mX9_staying 125 [a0, a1, a2, a3, a4, a5, a6, .int x, a8, a9, a10, a11, a12] st h Q = iWp d mX9_staying 127 [a0, a1, a2, a3, a4, a5, a6, .int x, a8, a9, a10, a11, a12] (.int x :: st) h Q := w_iload dX9_staying_125 rfl
theorem X9_staying_127 : iWp d mX9_staying 127 [a0, a1, a2, a3, a4, a5, a6, a7, a8, a9, a10, a11, a12] (.int x :: .ref p :: st) h Q = iOb (iLdI h p x) (fun v => iWp d mX9_staying 128 [a0, a1, a2, a3, a4, a5, a6, a7, a8, a9, a10, a11, a12] (.int v :: st) h Q) := w_iaload dX9_staying_127
theorem X9_staying_128 : iWp d mX9_staying 128 [.ref p, a1, a2, a3, a4, a5, a6, a7, a8, a9, a10, a11, a12] st h Q = iWp d mX9_staying 129 [.ref p, a1, a2, a3, a4, a5, a6, a7, a8, a9, a10, a11, a12] (.ref p :: st) h Q := w_aload_n dX9_staying_128 rfl
theorem X9_staying_129 : iWp d mX9_staying 129 [a0, a1, a2, a3, a4, a5, a6, a7, a8, a9, a10, a11, a12] (.ref p :: st) h Q = iOb (iGet h p 9 22) (fun v => iWp d mX9_staying 132 [a0, a1, a2, a3, a4, a5, a6, a7, a8, a9, a10, a11, a12] (v :: st) h Q) := w_getf dX9_staying_129 fF_9_53
theorem X9_staying_132 : iWp d mX9_staying 132 [a0, a1, a2, a3, a4, a5, .int x, a7, a8, a9, a10, a11, a12] st h Q = iWp d mX9_staying 134 [a0, a1, a2, a3, a4, a5, .int x, a7, a8, a9, a10, a11, a12] (.int x :: st) h Q := w_iload dX9_staying_132 rfl
theorem X9_staying_134 : iWp d mX9_staying 134 [a0, a1, a2, a3, a4, a5, a6, a7, a8, a9, a10, a11, a12] (.int x :: .ref p :: st) h Q = iOb (iLdI h p x) (fun v => iWp d mX9_staying 135 [a0, a1, a2, a3, a4, a5, a6, a7, a8, a9, a10, a11, a12] (.int v :: st) h Q) := w_iaload dX9_staying_134
theorem X9_staying_135 : iWp d mX9_staying 135 [a0, a1, a2, a3, a4, a5, a6, a7, a8, a9, a10, a11, a12] (.int y :: .int x :: st) h Q = if x ≤ y then iWp d mX9_staying 164 [a0, a1, a2, a3, a4, a5, a6, a7, a8, a9, a10, a11, a12] st h Q else iWp d mX9_staying 138 [a0, a1, a2, a3, a4, a5, a6, a7, a8, a9, a10, a11, a12] st h Q := w_icmp_le dX9_staying_135 rfl
theorem X9_staying_138 : iWp d mX9_staying 138 [.ref p, a1, a2, a3, a4, a5, a6, a7, a8, a9, a10, a11, a12] st h Q = iWp d mX9_staying 139 [.ref p, a1, a2, a3, a4, a5, a6, a7, a8, a9, a10, a11, a12] (.ref p :: st) h Q := w_aload_n dX9_staying_138 rfl
theorem X9_staying_139 : iWp d mX9_staying 139 [a0, a1, a2, a3, a4, a5, a6, a7, a8, a9, a10, a11, a12] (.ref p :: st) h Q = iOb (iGet h p 9 29) (fun v => iWp d mX9_staying 142 [a0, a1, a2, a3, a4, a5, a6, a7, a8, a9, a10, a11, a12] (v :: st) h Q) := w_getf dX9_staying_139 fF_9_68
theorem X9_staying_142 : iWp d mX9_staying 142 [a0, a1, a2, a3, a4, a5, .int x, a7, a8, a9, a10, a11, a12] st h Q = iWp d mX9_staying 144 [a0, a1, a2, a3, a4, a5, .int x, a7, a8, a9, a10, a11, a12] (.int x :: st) h Q := w_iload dX9_staying_142 rfl
theorem X9_staying_144 : iWp d mX9_staying 144 [.ref p, a1, a2, a3, a4, a5, a6, a7, a8, a9, a10, a11, a12] st h Q = iWp d mX9_staying 145 [.ref p, a1, a2, a3, a4, a5, a6, a7, a8, a9, a10, a11, a12] (.ref p :: st) h Q := w_aload_n dX9_staying_144 rfl
theorem X9_staying_145 : iWp d mX9_staying 145 [a0, a1, a2, a3, a4, a5, a6, a7, a8, a9, a10, a11, a12] (.ref p :: st) h Q = iOb (iGet h p 9 29) (fun v => iWp d mX9_staying 148 [a0, a1, a2, a3, a4, a5, a6, a7, a8, a9, a10, a11, a12] (v :: st) h Q) := w_getf dX9_staying_145 fF_9_68
theorem X9_staying_148 : iWp d mX9_staying 148 [a0, a1, a2, a3, a4, a5, .int x, a7, a8, a9, a10, a11, a12] st h Q = iWp d mX9_staying 150 [a0, a1, a2, a3, a4, a5, .int x, a7, a8, a9, a10, a11, a12] (.int x :: st) h Q := w_iload dX9_staying_148 rfl
theorem X9_staying_150 : iWp d mX9_staying 150 [a0, a1, a2, a3, a4, a5, a6, a7, a8, a9, a10, a11, a12] (.int x :: .ref p :: st) h Q = iOb (iLdI h p x) (fun v => iWp d mX9_staying 151 [a0, a1, a2, a3, a4, a5, a6, a7, a8, a9, a10, a11, a12] (.int v :: st) h Q) := w_iaload dX9_staying_150
theorem X9_staying_151 : iWp d mX9_staying 151 [.ref p, a1, a2, a3, a4, a5, a6, a7, a8, a9, a10, a11, a12] st h Q = iWp d mX9_staying 152 [.ref p, a1, a2, a3, a4, a5, a6, a7, a8, a9, a10, a11, a12] (.ref p :: st) h Q := w_aload_n dX9_staying_151 rfl
theorem X9_staying_152 : iWp d mX9_staying 152 [a0, a1, a2, a3, a4, a5, a6, a7, a8, a9, a10, a11, a12] (.ref p :: st) h Q = iOb (iGet h p 9 29) (fun v => iWp d mX9_staying 155 [a0, a1, a2, a3, a4, a5, a6, a7, a8, a9, a10, a11, a12] (v :: st) h Q) := w_getf dX9_staying_152 fF_9_68
theorem X9_staying_155 : iWp d mX9_staying 155 [a0, a1, a2, a3, a4, a5, a6, .int x, a8, a9, a10, a11, a12] st h Q = iWp d mX9_staying 157 [a0, a1, a2, a3, a4, a5, a6, .int x, a8, a9, a10, a11, a12] (.int x :: st) h Q := w_iload dX9_staying_155 rfl
theorem X9_staying_157 : iWp d mX9_staying 157 [a0, a1, a2, a3, a4, a5, a6, a7, a8, a9, a10, a11, a12] (.int x :: .ref p :: st) h Q = iOb (iLdI h p x) (fun v => iWp d mX9_staying 158 [a0, a1, a2, a3, a4, a5, a6, a7, a8, a9, a10, a11, a12] (.int v :: st) h Q) := w_iaload dX9_staying_157
theorem X9_staying_158 : iWp d mX9_staying 158 [a0, a1, a2, a3, a4, a5, a6, a7, a8, a9, a10, a11, a12] st h Q = iWp d mX9_staying 159 [a0, a1, a2, a3, a4, a5, a6, a7, a8, a9, a10, a11, a12] (.int 1 :: st) h Q := w_iconst dX9_staying_158 rfl
theorem X9_staying_159 : iWp d mX9_staying 159 [a0, a1, a2, a3, a4, a5, a6, a7, a8, a9, a10, a11, a12] (.int y :: .int x :: st) h Q = iWp d mX9_staying 160 [a0, a1, a2, a3, a4, a5, a6, a7, a8, a9, a10, a11, a12] (.int (x + y) :: st) h Q := w_iadd dX9_staying_159
theorem X9_staying_160 (hs : iSum st ≤ 8) : iWp d mX9_staying 160 [a0, a1, a2, a3, a4, a5, a6, a7, a8, a9, a10, a11, a12] (.int y :: .int x :: st) h Q = iWp d mX9_staying 163 [a0, a1, a2, a3, a4, a5, a6, a7, a8, a9, a10, a11, a12] (.int (if x < y then y else x) :: st) h Q := iWp_k dX9_staying_160 rfl (fun _ _ => iMaxS hs fK_9_221 rfl rfl rfl)
theorem X9_staying_163 : iWp d mX9_staying 163 [a0, a1, a2, a3, a4, a5, a6, a7, a8, a9, a10, a11, a12] (.int y :: .int x :: .ref p :: st) h Q = iOb (iStI h p x y) (fun g => iWp d mX9_staying 164 [a0, a1, a2, a3, a4, a5, a6, a7, a8, a9, a10, a11, a12] st g Q) := w_iastore dX9_staying_163
theorem X9_staying_164 : iWp d mX9_staying 164 [a0, a1, a2, a3, a4, a5, a6, .int x, a8, a9, a10, a11, a12] st h Q = iWp d mX9_staying 167 [a0, a1, a2, a3, a4, a5, iClr a6, .int (x + 1), a8, a9, a10, a11, a12] st h Q := w_iinc dX9_staying_164 rfl (Nat.le_of_ble_eq_true rfl) rfl
theorem X9_staying_167 : iWp d mX9_staying 167 [a0, a1, a2, a3, a4, a5, a6, a7, a8, a9, a10, a11, a12] st h Q = iWp d mX9_staying 103 [a0, a1, a2, a3, a4, a5, a6, a7, a8, a9, a10, a11, a12] st h Q := w_goto dX9_staying_167 rfl
theorem X9_staying_170 : iWp d mX9_staying 170 [a0, a1, a2, a3, a4, .int x, a6, a7, a8, a9, a10, a11, a12] st h Q = iWp d mX9_staying 172 [a0, a1, a2, a3, a4, .int x, a6, a7, a8, a9, a10, a11, a12] (.int x :: st) h Q := w_iload dX9_staying_170 rfl
theorem X9_staying_172 : iWp d mX9_staying 172 [.ref p, a1, a2, a3, a4, a5, a6, a7, a8, a9, a10, a11, a12] st h Q = iWp d mX9_staying 173 [.ref p, a1, a2, a3, a4, a5, a6, a7, a8, a9, a10, a11, a12] (.ref p :: st) h Q := w_aload_n dX9_staying_172 rfl
theorem X9_staying_173 : iWp d mX9_staying 173 [a0, a1, a2, a3, a4, a5, a6, a7, a8, a9, a10, a11, a12] (.ref p :: st) h Q = iOb (iGet h p 9 29) (fun v => iWp d mX9_staying 176 [a0, a1, a2, a3, a4, a5, a6, a7, a8, a9, a10, a11, a12] (v :: st) h Q) := w_getf dX9_staying_173 fF_9_68
theorem X9_staying_176 : iWp d mX9_staying 176 [a0, a1, a2, a3, a4, a5, .int x, a7, a8, a9, a10, a11, a12] st h Q = iWp d mX9_staying 178 [a0, a1, a2, a3, a4, a5, .int x, a7, a8, a9, a10, a11, a12] (.int x :: st) h Q := w_iload dX9_staying_176 rfl
theorem X9_staying_178 : iWp d mX9_staying 178 [a0, a1, a2, a3, a4, a5, a6, a7, a8, a9, a10, a11, a12] (.int x :: .ref p :: st) h Q = iOb (iLdI h p x) (fun v => iWp d mX9_staying 179 [a0, a1, a2, a3, a4, a5, a6, a7, a8, a9, a10, a11, a12] (.int v :: st) h Q) := w_iaload dX9_staying_178
theorem X9_staying_179 (hs : iSum st ≤ 8) : iWp d mX9_staying 179 [a0, a1, a2, a3, a4, a5, a6, a7, a8, a9, a10, a11, a12] (.int y :: .int x :: st) h Q = iWp d mX9_staying 182 [a0, a1, a2, a3, a4, a5, a6, a7, a8, a9, a10, a11, a12] (.int (if x < y then y else x) :: st) h Q := iWp_k dX9_staying_179 rfl (fun _ _ => iMaxS hs fK_9_221 rfl rfl rfl)
theorem X9_staying_182 : iWp d mX9_staying 182 [a0, a1, a2, a3, a4, a5, a6, a7, a8, a9, a10, a11, a12] (.int x :: st) h Q = iWp d mX9_staying 184 [a0, a1, a2, a3, iClr a4, .int x, a6, a7, a8, a9, a10, a11, a12] st h Q := w_istore dX9_staying_182 (Nat.le_of_ble_eq_true rfl) rfl
theorem X9_staying_184 : iWp d mX9_staying 184 [a0, a1, a2, a3, a4, a5, .int x, a7, a8, a9, a10, a11, a12] st h Q = iWp d mX9_staying 187 [a0, a1, a2, a3, a4, iClr a5, .int (x + (-1)), a7, a8, a9, a10, a11, a12] st h Q := w_iinc dX9_staying_184 rfl (Nat.le_of_ble_eq_true rfl) rfl
theorem X9_staying_187 : iWp d mX9_staying 187 [a0, a1, a2, a3, a4, a5, a6, a7, a8, a9, a10, a11, a12] st h Q = iWp d mX9_staying 69 [a0, a1, a2, a3, a4, a5, a6, a7, a8, a9, a10, a11, a12] st h Q := w_goto dX9_staying_187 rfl
theorem X9_staying_190 : iWp d mX9_staying 190 [a0, a1, a2, a3, a4, a5, a6, a7, a8, a9, a10, a11, a12] st h Q = iWp d mX9_staying 191 [a0, a1, a2, a3, a4, a5, a6, a7, a8, a9, a10, a11, a12] (.long 0 :: st) h Q := w_lconst dX9_staying_190 rfl
theorem X9_staying_191 : iWp d mX9_staying 191 [a0, a1, a2, a3, a4, a5, a6, a7, a8, a9, a10, a11, a12] (.long u :: st) h Q = iWp d mX9_staying 193 [a0, a1, a2, a3, a4, iClr a5, .long u, iU, a8, a9, a10, a11, a12] st h Q := w_lstore dX9_staying_191 (Nat.le_of_ble_eq_true rfl) rfl
theorem X9_staying_193 : iWp d mX9_staying 193 [a0, a1, a2, a3, a4, a5, a6, a7, a8, a9, a10, a11, a12] st h Q = iWp d mX9_staying 194 [a0, a1, a2, a3, a4, a5, a6, a7, a8, a9, a10, a11, a12] (.int (-1) :: st) h Q := w_iconst dX9_staying_193 rfl
theorem X9_staying_194 : iWp d mX9_staying 194 [a0, a1, a2, a3, a4, a5, a6, a7, a8, a9, a10, a11, a12] (.int x :: st) h Q = iWp d mX9_staying 196 [a0, a1, a2, a3, a4, a5, a6, iClr a7, .int x, a9, a10, a11, a12] st h Q := w_istore dX9_staying_194 (Nat.le_of_ble_eq_true rfl) rfl
theorem X9_staying_196 : iWp d mX9_staying 196 [a0, a1, a2, a3, a4, a5, a6, a7, a8, a9, a10, a11, a12] st h Q = iWp d mX9_staying 197 [a0, a1, a2, a3, a4, a5, a6, a7, a8, a9, a10, a11, a12] (.int (-1) :: st) h Q := w_iconst dX9_staying_196 rfl
theorem X9_staying_197 : iWp d mX9_staying 197 [a0, a1, a2, a3, a4, a5, a6, a7, a8, a9, a10, a11, a12] (.int x :: st) h Q = iWp d mX9_staying 199 [a0, a1, a2, a3, a4, a5, a6, a7, iClr a8, .int x, a10, a11, a12] st h Q := w_istore dX9_staying_197 (Nat.le_of_ble_eq_true rfl) rfl
theorem X9_staying_199 : iWp d mX9_staying 199 [a0, a1, a2, a3, a4, .int x, a6, a7, a8, a9, a10, a11, a12] st h Q = iWp d mX9_staying 201 [a0, a1, a2, a3, a4, .int x, a6, a7, a8, a9, a10, a11, a12] (.int x :: st) h Q := w_iload dX9_staying_199 rfl
theorem X9_staying_201 : iWp d mX9_staying 201 [a0, a1, a2, a3, a4, a5, a6, a7, a8, a9, a10, a11, a12] (.int x :: st) h Q = iWp d mX9_staying 203 [a0, a1, a2, a3, a4, a5, a6, a7, a8, iClr a9, .int x, a11, a12] st h Q := w_istore dX9_staying_201 (Nat.le_of_ble_eq_true rfl) rfl
theorem X9_staying_203 : iWp d mX9_staying 203 [a0, a1, a2, a3, a4, a5, a6, a7, a8, a9, .int x, a11, a12] st h Q = iWp d mX9_staying 205 [a0, a1, a2, a3, a4, a5, a6, a7, a8, a9, .int x, a11, a12] (.int x :: st) h Q := w_iload dX9_staying_203 rfl
theorem X9_staying_205 : iWp d mX9_staying 205 [a0, a1, a2, a3, a4, a5, a6, a7, a8, a9, a10, a11, a12] (.int x :: st) h Q = if x ≤ 0 then iWp d mX9_staying 309 [a0, a1, a2, a3, a4, a5, a6, a7, a8, a9, a10, a11, a12] st h Q else iWp d mX9_staying 208 [a0, a1, a2, a3, a4, a5, a6, a7, a8, a9, a10, a11, a12] st h Q := w_ifc_le dX9_staying_205 rfl
theorem X9_staying_208 : iWp d mX9_staying 208 [a0, a1, a2, a3, a4, a5, a6, a7, a8, a9, a10, a11, a12] st h Q = iWp d mX9_staying 209 [a0, a1, a2, a3, a4, a5, a6, a7, a8, a9, a10, a11, a12] (.int (-1) :: st) h Q := w_iconst dX9_staying_208 rfl
theorem X9_staying_209 : iWp d mX9_staying 209 [a0, a1, a2, a3, a4, a5, a6, a7, a8, a9, a10, a11, a12] (.int x :: st) h Q = iWp d mX9_staying 211 [a0, a1, a2, a3, a4, a5, a6, a7, a8, a9, iClr a10, .int x, a12] st h Q := w_istore dX9_staying_209 (Nat.le_of_ble_eq_true rfl) rfl
theorem X9_staying_211 : iWp d mX9_staying 211 [a0, a1, a2, a3, a4, a5, a6, a7, .int x, a9, a10, a11, a12] st h Q = iWp d mX9_staying 213 [a0, a1, a2, a3, a4, a5, a6, a7, .int x, a9, a10, a11, a12] (.int x :: st) h Q := w_iload dX9_staying_211 rfl
theorem X9_staying_213 : iWp d mX9_staying 213 [a0, a1, a2, a3, a4, a5, a6, a7, a8, a9, a10, a11, a12] st h Q = iWp d mX9_staying 214 [a0, a1, a2, a3, a4, a5, a6, a7, a8, a9, a10, a11, a12] (.int 1 :: st) h Q := w_iconst dX9_staying_213 rfl
theorem X9_staying_214 : iWp d mX9_staying 214 [a0, a1, a2, a3, a4, a5, a6, a7, a8, a9, a10, a11, a12] (.int y :: .int x :: st) h Q = iWp d mX9_staying 215 [a0, a1, a2, a3, a4, a5, a6, a7, a8, a9, a10, a11, a12] (.int (x + y) :: st) h Q := w_iadd dX9_staying_214
theorem X9_staying_215 : iWp d mX9_staying 215 [a0, a1, a2, a3, a4, a5, a6, a7, a8, a9, a10, a11, a12] (.int x :: st) h Q = iWp d mX9_staying 217 [a0, a1, a2, a3, a4, a5, a6, a7, a8, a9, a10, iClr a11, .int x] st h Q := w_istore dX9_staying_215 (Nat.le_of_ble_eq_true rfl) rfl
theorem X9_staying_217 : iWp d mX9_staying 217 [a0, a1, a2, a3, a4, a5, a6, a7, a8, a9, a10, a11, .int x] st h Q = iWp d mX9_staying 219 [a0, a1, a2, a3, a4, a5, a6, a7, a8, a9, a10, a11, .int x] (.int x :: st) h Q := w_iload dX9_staying_217 rfl
theorem X9_staying_219 : iWp d mX9_staying 219 [a0, a1, a2, a3, .int x, a5, a6, a7, a8, a9, a10, a11, a12] st h Q = iWp d mX9_staying 221 [a0, a1, a2, a3, .int x, a5, a6, a7, a8, a9, a10, a11, a12] (.int x :: st) h Q := w_iload dX9_staying_219 rfl
theorem X9_staying_221 : iWp d mX9_staying 221 [a0, a1, a2, a3, a4, a5, a6, a7, a8, a9, a10, a11, a12] (.int y :: .int x :: st) h Q = if y ≤ x then iWp d mX9_staying 281 [a0, a1, a2, a3, a4, a5, a6, a7, a8, a9, a10, a11, a12] st h Q else iWp d mX9_staying 224 [a0, a1, a2, a3, a4, a5, a6, a7, a8, a9, a10, a11, a12] st h Q := w_icmp_ge dX9_staying_221 rfl
theorem X9_staying_224 : iWp d mX9_staying 224 [.ref p, a1, a2, a3, a4, a5, a6, a7, a8, a9, a10, a11, a12] st h Q = iWp d mX9_staying 225 [.ref p, a1, a2, a3, a4, a5, a6, a7, a8, a9, a10, a11, a12] (.ref p :: st) h Q := w_aload_n dX9_staying_224 rfl
theorem X9_staying_225 : iWp d mX9_staying 225 [a0, a1, a2, a3, a4, a5, a6, a7, a8, a9, a10, a11, a12] (.ref p :: st) h Q = iOb (iGet h p 9 29) (fun v => iWp d mX9_staying 228 [a0, a1, a2, a3, a4, a5, a6, a7, a8, a9, a10, a11, a12] (v :: st) h Q) := w_getf dX9_staying_225 fF_9_68
theorem X9_staying_228 : iWp d mX9_staying 228 [a0, a1, a2, a3, a4, a5, a6, a7, a8, a9, a10, a11, .int x] st h Q = iWp d mX9_staying 230 [a0, a1, a2, a3, a4, a5, a6, a7, a8, a9, a10, a11, .int x] (.int x :: st) h Q := w_iload dX9_staying_228 rfl
theorem X9_staying_230 : iWp d mX9_staying 230 [a0, a1, a2, a3, a4, a5, a6, a7, a8, a9, a10, a11, a12] (.int x :: .ref p :: st) h Q = iOb (iLdI h p x) (fun v => iWp d mX9_staying 231 [a0, a1, a2, a3, a4, a5, a6, a7, a8, a9, a10, a11, a12] (.int v :: st) h Q) := w_iaload dX9_staying_230
theorem X9_staying_231 : iWp d mX9_staying 231 [a0, a1, a2, a3, a4, a5, a6, a7, a8, a9, .int x, a11, a12] st h Q = iWp d mX9_staying 233 [a0, a1, a2, a3, a4, a5, a6, a7, a8, a9, .int x, a11, a12] (.int x :: st) h Q := w_iload dX9_staying_231 rfl
theorem X9_staying_233 : iWp d mX9_staying 233 [a0, a1, a2, a3, a4, a5, a6, a7, a8, a9, a10, a11, a12] (.int y :: .int x :: st) h Q = if x = y then iWp d mX9_staying 236 [a0, a1, a2, a3, a4, a5, a6, a7, a8, a9, a10, a11, a12] st h Q else iWp d mX9_staying 275 [a0, a1, a2, a3, a4, a5, a6, a7, a8, a9, a10, a11, a12] st h Q := w_icmp_ne dX9_staying_233 rfl
theorem X9_staying_236 : iWp d mX9_staying 236 [.ref p, a1, a2, a3, a4, a5, a6, a7, a8, a9, a10, a11, a12] st h Q = iWp d mX9_staying 237 [.ref p, a1, a2, a3, a4, a5, a6, a7, a8, a9, a10, a11, a12] (.ref p :: st) h Q := w_aload_n dX9_staying_236 rfl
theorem X9_staying_237 : iWp d mX9_staying 237 [a0, a1, a2, a3, a4, a5, a6, a7, a8, a9, a10, a11, a12] (.ref p :: st) h Q = iOb (iGet h p 9 22) (fun v => iWp d mX9_staying 240 [a0, a1, a2, a3, a4, a5, a6, a7, a8, a9, a10, a11, a12] (v :: st) h Q) := w_getf dX9_staying_237 fF_9_53
theorem X9_staying_240 : iWp d mX9_staying 240 [a0, a1, a2, a3, a4, a5, a6, a7, a8, a9, a10, a11, .int x] st h Q = iWp d mX9_staying 242 [a0, a1, a2, a3, a4, a5, a6, a7, a8, a9, a10, a11, .int x] (.int x :: st) h Q := w_iload dX9_staying_240 rfl
theorem X9_staying_242 : iWp d mX9_staying 242 [a0, a1, a2, a3, a4, a5, a6, a7, a8, a9, a10, a11, a12] (.int x :: .ref p :: st) h Q = iOb (iLdI h p x) (fun v => iWp d mX9_staying 243 [a0, a1, a2, a3, a4, a5, a6, a7, a8, a9, a10, a11, a12] (.int v :: st) h Q) := w_iaload dX9_staying_242
theorem X9_staying_243 : iWp d mX9_staying 243 [a0, a1, a2, a3, a4, a5, a6, a7, a8, .int x, a10, a11, a12] st h Q = iWp d mX9_staying 245 [a0, a1, a2, a3, a4, a5, a6, a7, a8, .int x, a10, a11, a12] (.int x :: st) h Q := w_iload dX9_staying_243 rfl
theorem X9_staying_245 : iWp d mX9_staying 245 [a0, a1, a2, a3, a4, a5, a6, a7, a8, a9, a10, a11, a12] (.int y :: .int x :: st) h Q = if x ≤ y then iWp d mX9_staying 275 [a0, a1, a2, a3, a4, a5, a6, a7, a8, a9, a10, a11, a12] st h Q else iWp d mX9_staying 248 [a0, a1, a2, a3, a4, a5, a6, a7, a8, a9, a10, a11, a12] st h Q := w_icmp_le dX9_staying_245 rfl
theorem X9_staying_248 : iWp d mX9_staying 248 [a0, a1, a2, a3, a4, a5, a6, a7, a8, a9, a10, .int x, a12] st h Q = iWp d mX9_staying 250 [a0, a1, a2, a3, a4, a5, a6, a7, a8, a9, a10, .int x, a12] (.int x :: st) h Q := w_iload dX9_staying_248 rfl
theorem X9_staying_250 : iWp d mX9_staying 250 [a0, a1, a2, a3, a4, a5, a6, a7, a8, a9, a10, a11, a12] st h Q = iWp d mX9_staying 251 [a0, a1, a2, a3, a4, a5, a6, a7, a8, a9, a10, a11, a12] (.int (-1) :: st) h Q := w_iconst dX9_staying_250 rfl
theorem X9_staying_251 : iWp d mX9_staying 251 [a0, a1, a2, a3, a4, a5, a6, a7, a8, a9, a10, a11, a12] (.int y :: .int x :: st) h Q = if x = y then iWp d mX9_staying 271 [a0, a1, a2, a3, a4, a5, a6, a7, a8, a9, a10, a11, a12] st h Q else iWp d mX9_staying 254 [a0, a1, a2, a3, a4, a5, a6, a7, a8, a9, a10, a11, a12] st h Q := w_icmp_eq dX9_staying_251 rfl
theorem X9_staying_254 : iWp d mX9_staying 254 [.ref p, a1, a2, a3, a4, a5, a6, a7, a8, a9, a10, a11, a12] st h Q = iWp d mX9_staying 255 [.ref p, a1, a2, a3, a4, a5, a6, a7, a8, a9, a10, a11, a12] (.ref p :: st) h Q := w_aload_n dX9_staying_254 rfl
theorem X9_staying_255 : iWp d mX9_staying 255 [a0, a1, a2, a3, a4, a5, a6, a7, a8, a9, a10, a11, a12] (.ref p :: st) h Q = iOb (iGet h p 9 22) (fun v => iWp d mX9_staying 258 [a0, a1, a2, a3, a4, a5, a6, a7, a8, a9, a10, a11, a12] (v :: st) h Q) := w_getf dX9_staying_255 fF_9_53
theorem X9_staying_258 : iWp d mX9_staying 258 [a0, a1, a2, a3, a4, a5, a6, a7, a8, a9, a10, a11, .int x] st h Q = iWp d mX9_staying 260 [a0, a1, a2, a3, a4, a5, a6, a7, a8, a9, a10, a11, .int x] (.int x :: st) h Q := w_iload dX9_staying_258 rfl
theorem X9_staying_260 : iWp d mX9_staying 260 [a0, a1, a2, a3, a4, a5, a6, a7, a8, a9, a10, a11, a12] (.int x :: .ref p :: st) h Q = iOb (iLdI h p x) (fun v => iWp d mX9_staying 261 [a0, a1, a2, a3, a4, a5, a6, a7, a8, a9, a10, a11, a12] (.int v :: st) h Q) := w_iaload dX9_staying_260
theorem X9_staying_261 : iWp d mX9_staying 261 [.ref p, a1, a2, a3, a4, a5, a6, a7, a8, a9, a10, a11, a12] st h Q = iWp d mX9_staying 262 [.ref p, a1, a2, a3, a4, a5, a6, a7, a8, a9, a10, a11, a12] (.ref p :: st) h Q := w_aload_n dX9_staying_261 rfl
theorem X9_staying_262 : iWp d mX9_staying 262 [a0, a1, a2, a3, a4, a5, a6, a7, a8, a9, a10, a11, a12] (.ref p :: st) h Q = iOb (iGet h p 9 22) (fun v => iWp d mX9_staying 265 [a0, a1, a2, a3, a4, a5, a6, a7, a8, a9, a10, a11, a12] (v :: st) h Q) := w_getf dX9_staying_262 fF_9_53
theorem X9_staying_265 : iWp d mX9_staying 265 [a0, a1, a2, a3, a4, a5, a6, a7, a8, a9, a10, .int x, a12] st h Q = iWp d mX9_staying 267 [a0, a1, a2, a3, a4, a5, a6, a7, a8, a9, a10, .int x, a12] (.int x :: st) h Q := w_iload dX9_staying_265 rfl
theorem X9_staying_267 : iWp d mX9_staying 267 [a0, a1, a2, a3, a4, a5, a6, a7, a8, a9, a10, a11, a12] (.int x :: .ref p :: st) h Q = iOb (iLdI h p x) (fun v => iWp d mX9_staying 268 [a0, a1, a2, a3, a4, a5, a6, a7, a8, a9, a10, a11, a12] (.int v :: st) h Q) := w_iaload dX9_staying_267
theorem X9_staying_268 : iWp d mX9_staying 268 [a0, a1, a2, a3, a4, a5, a6, a7, a8, a9, a10, a11, a12] (.int y :: .int x :: st) h Q = if y ≤ x then iWp d mX9_staying 275 [a0, a1, a2, a3, a4, a5, a6, a7, a8, a9, a10, a11, a12] st h Q else iWp d mX9_staying 271 [a0, a1, a2, a3, a4, a5, a6, a7, a8, a9, a10, a11, a12] st h Q := w_icmp_ge dX9_staying_268 rfl
theorem X9_staying_271 : iWp d mX9_staying 271 [a0, a1, a2, a3, a4, a5, a6, a7, a8, a9, a10, a11, .int x] st h Q = iWp d mX9_staying 273 [a0, a1, a2, a3, a4, a5, a6, a7, a8, a9, a10, a11, .int x] (.int x :: st) h Q := w_iload dX9_staying_271 rfl
theorem X9_staying_273 : iWp d mX9_staying 273 [a0, a1, a2, a3, a4, a5, a6, a7, a8, a9, a10, a11, a12] (.int x :: st) h Q = iWp d mX9_staying 275 [a0, a1, a2, a3, a4, a5, a6, a7, a8, a9, iClr a10, .int x, a12] st h Q := w_istore dX9_staying_273 (Nat.le_of_ble_eq_true rfl) rfl
theorem X9_staying_275 : iWp d mX9_staying 275 [a0, a1, a2, a3, a4, a5, a6, a7, a8, a9, a10, a11, .int x] st h Q = iWp d mX9_staying 278 [a0, a1, a2, a3, a4, a5, a6, a7, a8, a9, a10, iClr a11, .int (x + 1)] st h Q := w_iinc dX9_staying_275 rfl (Nat.le_of_ble_eq_true rfl) rfl
theorem X9_staying_278 : iWp d mX9_staying 278 [a0, a1, a2, a3, a4, a5, a6, a7, a8, a9, a10, a11, a12] st h Q = iWp d mX9_staying 217 [a0, a1, a2, a3, a4, a5, a6, a7, a8, a9, a10, a11, a12] st h Q := w_goto dX9_staying_278 rfl
theorem X9_staying_281 : iWp d mX9_staying 281 [a0, a1, a2, a3, a4, a5, .long u, a7, a8, a9, a10, a11, a12] st h Q = iWp d mX9_staying 283 [a0, a1, a2, a3, a4, a5, .long u, a7, a8, a9, a10, a11, a12] (.long u :: st) h Q := w_lload dX9_staying_281 rfl
theorem X9_staying_283 : iWp d mX9_staying 283 [a0, a1, a2, a3, a4, a5, a6, a7, a8, a9, a10, a11, a12] st h Q = iWp d mX9_staying 284 [a0, a1, a2, a3, a4, a5, a6, a7, a8, a9, a10, a11, a12] (.long 1 :: st) h Q := w_lconst dX9_staying_283 rfl
theorem X9_staying_284 : iWp d mX9_staying 284 [a0, a1, a2, a3, a4, a5, a6, a7, a8, a9, a10, .int x, a12] st h Q = iWp d mX9_staying 286 [a0, a1, a2, a3, a4, a5, a6, a7, a8, a9, a10, .int x, a12] (.int x :: st) h Q := w_iload dX9_staying_284 rfl
theorem X9_staying_286 : iWp d mX9_staying 286 [a0, a1, a2, a3, a4, a5, a6, a7, a8, a9, a10, a11, a12] (.int y :: .long u :: st) h Q = iWp d mX9_staying 287 [a0, a1, a2, a3, a4, a5, a6, a7, a8, a9, a10, a11, a12] (.long (u <<< (y.toInt64 &&& 63)) :: st) h Q := w_lshl dX9_staying_286
theorem X9_staying_287 : iWp d mX9_staying 287 [a0, a1, a2, a3, a4, a5, a6, a7, a8, a9, a10, a11, a12] (.long v :: .long u :: st) h Q = iWp d mX9_staying 288 [a0, a1, a2, a3, a4, a5, a6, a7, a8, a9, a10, a11, a12] (.long (u ||| v) :: st) h Q := w_lor dX9_staying_287
theorem X9_staying_288 : iWp d mX9_staying 288 [a0, a1, a2, a3, a4, a5, a6, a7, a8, a9, a10, a11, a12] (.long u :: st) h Q = iWp d mX9_staying 290 [a0, a1, a2, a3, a4, iClr a5, .long u, iU, a8, a9, a10, a11, a12] st h Q := w_lstore dX9_staying_288 (Nat.le_of_ble_eq_true rfl) rfl
theorem X9_staying_290 : iWp d mX9_staying 290 [a0, a1, a2, a3, a4, a5, a6, a7, a8, a9, a10, .int x, a12] st h Q = iWp d mX9_staying 292 [a0, a1, a2, a3, a4, a5, a6, a7, a8, a9, a10, .int x, a12] (.int x :: st) h Q := w_iload dX9_staying_290 rfl
theorem X9_staying_292 : iWp d mX9_staying 292 [a0, a1, a2, a3, a4, a5, a6, a7, a8, a9, a10, a11, a12] (.int x :: st) h Q = iWp d mX9_staying 294 [a0, a1, a2, a3, a4, a5, a6, iClr a7, .int x, a9, a10, a11, a12] st h Q := w_istore dX9_staying_292 (Nat.le_of_ble_eq_true rfl) rfl
theorem X9_staying_294 : iWp d mX9_staying 294 [.ref p, a1, a2, a3, a4, a5, a6, a7, a8, a9, a10, a11, a12] st h Q = iWp d mX9_staying 295 [.ref p, a1, a2, a3, a4, a5, a6, a7, a8, a9, a10, a11, a12] (.ref p :: st) h Q := w_aload_n dX9_staying_294 rfl
theorem X9_staying_295 : iWp d mX9_staying 295 [a0, a1, a2, a3, a4, a5, a6, a7, a8, a9, a10, a11, a12] (.ref p :: st) h Q = iOb (iGet h p 9 22) (fun v => iWp d mX9_staying 298 [a0, a1, a2, a3, a4, a5, a6, a7, a8, a9, a10, a11, a12] (v :: st) h Q) := w_getf dX9_staying_295 fF_9_53
theorem X9_staying_298 : iWp d mX9_staying 298 [a0, a1, a2, a3, a4, a5, a6, a7, a8, a9, a10, .int x, a12] st h Q = iWp d mX9_staying 300 [a0, a1, a2, a3, a4, a5, a6, a7, a8, a9, a10, .int x, a12] (.int x :: st) h Q := w_iload dX9_staying_298 rfl
theorem X9_staying_300 : iWp d mX9_staying 300 [a0, a1, a2, a3, a4, a5, a6, a7, a8, a9, a10, a11, a12] (.int x :: .ref p :: st) h Q = iOb (iLdI h p x) (fun v => iWp d mX9_staying 301 [a0, a1, a2, a3, a4, a5, a6, a7, a8, a9, a10, a11, a12] (.int v :: st) h Q) := w_iaload dX9_staying_300
theorem X9_staying_301 : iWp d mX9_staying 301 [a0, a1, a2, a3, a4, a5, a6, a7, a8, a9, a10, a11, a12] (.int x :: st) h Q = iWp d mX9_staying 303 [a0, a1, a2, a3, a4, a5, a6, a7, iClr a8, .int x, a10, a11, a12] st h Q := w_istore dX9_staying_301 (Nat.le_of_ble_eq_true rfl) rfl
theorem X9_staying_303 : iWp d mX9_staying 303 [a0, a1, a2, a3, a4, a5, a6, a7, a8, a9, .int x, a11, a12] st h Q = iWp d mX9_staying 306 [a0, a1, a2, a3, a4, a5, a6, a7, a8, iClr a9, .int (x + (-1)), a11, a12] st h Q := w_iinc dX9_staying_303 rfl (Nat.le_of_ble_eq_true rfl) rfl
theorem X9_staying_306 : iWp d mX9_staying 306 [a0, a1, a2, a3, a4, a5, a6, a7, a8, a9, a10, a11, a12] st h Q = iWp d mX9_staying 203 [a0, a1, a2, a3, a4, a5, a6, a7, a8, a9, a10, a11, a12] st h Q := w_goto dX9_staying_306 rfl
theorem X9_staying_309 : iWp d mX9_staying 309 [a0, a1, a2, a3, a4, a5, .long u, a7, a8, a9, a10, a11, a12] st h Q = iWp d mX9_staying 311 [a0, a1, a2, a3, a4, a5, .long u, a7, a8, a9, a10, a11, a12] (.long u :: st) h Q := w_lload dX9_staying_309 rfl
theorem X9_staying_311 : iWp d mX9_staying 311 [a0, a1, a2, a3, a4, a5, a6, a7, a8, a9, a10, a11, a12] [.long u] h Q = Q (some (.long u)) h := w_lret dX9_staying_311 rfl
theorem I9_staying {Q : Option Value → iHp → Prop} (hw : iWp 4 mX9_staying 0 [.ref p, .int x0, .int x1, iU, iU, iU, iU, iU, iU, iU, iU, iU, iU] [] h Q) : ∃ r h1, iEv mX9_staying [.ref p, .int x0, .int x1] h r h1 ∧ Q r h1 := iEv_of (by rfl) rfl hw
theorem J9_staying {r : Option Value} {h1 : iHp} (hw : iWp 4 mX9_staying 0 [.ref p, .int x0, .int x1, iU, iU, iU, iU, iU, iU, iU, iU, iU, iU] [] h (fun r' h' => r' = r ∧ h' = h1)) : iEv mX9_staying [.ref p, .int x0, .int x1] h r h1 := iEv_ev (by rfl) rfl hw
theorem X9_sticks_0 : iWp d mX9_sticks 0 [.ref p, a1, a2] st h Q = iWp d mX9_sticks 1 [.ref p, a1, a2] (.ref p :: st) h Q := w_aload_n dX9_sticks_0 rfl
theorem X9_sticks_1 : iWp d mX9_sticks 1 [a0, .int x, a2] st h Q = iWp d mX9_sticks 2 [a0, .int x, a2] (.int x :: st) h Q := w_iload_n dX9_sticks_1 rfl
theorem X9_sticks_2 (he : iEv mX9_isPatch [.ref p, .int x0] h (some (.int rv)) h2) (ho : iObj h p 9 = true) : iWp 7 mX9_sticks 2 [a0, a1, a2] [.int x0, .ref p] h Q = iWp 7 mX9_sticks 5 [a0, a1, a2] [.int rv] h2 Q := iWp_cV dX9_sticks_2 fK_9_120 rfl rfl ho (Nat.le_of_ble_eq_true rfl) (Nat.le_of_ble_eq_true rfl) rfl (Nat.le_of_ble_eq_true rfl) he rfl
theorem X9_sticks_5 : iWp d mX9_sticks 5 [a0, a1, a2] (.int x :: st) h Q = if x = 0 then iWp d mX9_sticks 16 [a0, a1, a2] st h Q else iWp d mX9_sticks 8 [a0, a1, a2] st h Q := w_ifc_eq dX9_sticks_5 rfl
theorem X9_sticks_8 : iWp d mX9_sticks 8 [.ref p, a1, a2] st h Q = iWp d mX9_sticks 9 [.ref p, a1, a2] (.ref p :: st) h Q := w_aload_n dX9_sticks_8 rfl
theorem X9_sticks_9 : iWp d mX9_sticks 9 [a0, a1, .int x] st h Q = iWp d mX9_sticks 10 [a0, a1, .int x] (.int x :: st) h Q := w_iload_n dX9_sticks_9 rfl
theorem X9_sticks_10 (he : iEv mX9_isTree [.ref p, .int x0] h (some (.int rv)) h2) (ho : iObj h p 9 = true) : iWp 7 mX9_sticks 10 [a0, a1, a2] [.int x0, .ref p] h Q = iWp 7 mX9_sticks 13 [a0, a1, a2] [.int rv] h2 Q := iWp_cV dX9_sticks_10 fK_9_166 rfl rfl ho (Nat.le_of_ble_eq_true rfl) (Nat.le_of_ble_eq_true rfl) rfl (Nat.le_of_ble_eq_true rfl) he rfl
theorem X9_sticks_13 : iWp d mX9_sticks 13 [a0, a1, a2] (.int x :: st) h Q = if x = 0 then iWp d mX9_sticks 16 [a0, a1, a2] st h Q else iWp d mX9_sticks 22 [a0, a1, a2] st h Q := w_ifc_ne dX9_sticks_13 rfl
theorem X9_sticks_16 : iWp d mX9_sticks 16 [.ref p, a1, a2] st h Q = iWp d mX9_sticks 17 [.ref p, a1, a2] (.ref p :: st) h Q := w_aload_n dX9_sticks_16 rfl
theorem X9_sticks_17 : iWp d mX9_sticks 17 [a0, a1, a2] st h Q = iWp d mX9_sticks 18 [a0, a1, a2] (.int (-1) :: st) h Q := w_iconst dX9_sticks_17 rfl
theorem X9_sticks_18 (he : iEv mX9_no10 [.ref p, .int x0] h (some (.int rv)) h2) (ho : iObj h p 9 = true) : iWp 7 mX9_sticks 18 [a0, a1, a2] [.int x0, .ref p] h Q = iWp 7 mX9_sticks 21 [a0, a1, a2] [.int rv] h2 Q := iWp_cV dX9_sticks_18 fK_9_181 rfl rfl ho (Nat.le_of_ble_eq_true rfl) (Nat.le_of_ble_eq_true rfl) rfl (Nat.le_of_ble_eq_true rfl) he rfl
theorem X9_sticks_21 : iWp d mX9_sticks 21 [a0, a1, a2] [.int x] h Q = Q (some (.int x)) h := w_ireti dX9_sticks_21 rfl
theorem X9_sticks_22 : iWp d mX9_sticks 22 [.ref p, a1, a2] st h Q = iWp d mX9_sticks 23 [.ref p, a1, a2] (.ref p :: st) h Q := w_aload_n dX9_sticks_22 rfl
theorem X9_sticks_23 : iWp d mX9_sticks 23 [a0, a1, .int x] st h Q = iWp d mX9_sticks 24 [a0, a1, .int x] (.int x :: st) h Q := w_iload_n dX9_sticks_23 rfl
theorem X9_sticks_24 (he : iEv mX9_loads [.ref p, .int x0] h none h2) (ho : iObj h p 9 = true) : iWp 7 mX9_sticks 24 [a0, a1, a2] [.int x0, .ref p] h Q = iWp 7 mX9_sticks 27 [a0, a1, a2] [] h2 Q := iWp_cV dX9_sticks_24 fK_9_169 rfl rfl ho (Nat.le_of_ble_eq_true rfl) (Nat.le_of_ble_eq_true rfl) rfl (Nat.le_of_ble_eq_true rfl) he rfl
theorem X9_sticks_27 : iWp d mX9_sticks 27 [.ref p, a1, a2] st h Q = iWp d mX9_sticks 28 [.ref p, a1, a2] (.ref p :: st) h Q := w_aload_n dX9_sticks_27 rfl
theorem X9_sticks_28 : iWp d mX9_sticks 28 [a0, .int x, a2] st h Q = iWp d mX9_sticks 29 [a0, .int x, a2] (.int x :: st) h Q := w_iload_n dX9_sticks_28 rfl
theorem X9_sticks_29 (he : iEv mX9_stuck [.ref p, .int x0] h (some (.int rv)) h2) (ho : iObj h p 9 = true) : iWp 7 mX9_sticks 29 [a0, a1, a2] [.int x0, .ref p] h Q = iWp 7 mX9_sticks 32 [a0, a1, a2] [.int rv] h2 Q := iWp_cV dX9_sticks_29 fK_9_257 rfl rfl ho (Nat.le_of_ble_eq_true rfl) (Nat.le_of_ble_eq_true rfl) rfl (Nat.le_of_ble_eq_true rfl) he rfl
theorem X9_sticks_32 : iWp d mX9_sticks 32 [a0, a1, a2] [.int x] h Q = Q (some (.int x)) h := w_ireti dX9_sticks_32 rfl
theorem I9_sticks {Q : Option Value → iHp → Prop} (hw : iWp 7 mX9_sticks 0 [.ref p, .int x0, .int x1] [] h Q) : ∃ r h1, iEv mX9_sticks [.ref p, .int x0, .int x1] h r h1 ∧ Q r h1 := iEv_of (by rfl) rfl hw
theorem J9_sticks {r : Option Value} {h1 : iHp} (hw : iWp 7 mX9_sticks 0 [.ref p, .int x0, .int x1] [] h (fun r' h' => r' = r ∧ h' = h1)) : iEv mX9_sticks [.ref p, .int x0, .int x1] h r h1 := iEv_ev (by rfl) rfl hw
theorem X9_stuck_0 : iWp d mX9_stuck 0 [a0, a1, a2] st h Q = iWp d mX9_stuck 1 [a0, a1, a2] (.int 0 :: st) h Q := w_iconst dX9_stuck_0 rfl
theorem X9_stuck_1 : iWp d mX9_stuck 1 [a0, a1, a2] (.int x :: st) h Q = iWp d mX9_stuck 2 [a0, iClr a1, .int x] st h Q := w_istore_n dX9_stuck_1 (Nat.le_of_ble_eq_true rfl) rfl
theorem X9_stuck_2 : iWp d mX9_stuck 2 [a0, a1, .int x] st h Q = iWp d mX9_stuck 3 [a0, a1, .int x] (.int x :: st) h Q := w_iload_n dX9_stuck_2 rfl
theorem X9_stuck_3 : iWp d mX9_stuck 3 [.ref p, a1, a2] st h Q = iWp d mX9_stuck 4 [.ref p, a1, a2] (.ref p :: st) h Q := w_aload_n dX9_stuck_3 rfl
theorem X9_stuck_4 : iWp d mX9_stuck 4 [a0, a1, a2] st h Q = iWp d mX9_stuck 5 [a0, a1, a2] (.int 0 :: st) h Q := w_iconst dX9_stuck_4 rfl
theorem X9_stuck_5 : iWp d mX9_stuck 5 [a0, .int x, a2] st h Q = iWp d mX9_stuck 6 [a0, .int x, a2] (.int x :: st) h Q := w_iload_n dX9_stuck_5 rfl
theorem X9_stuck_6 (he : iEv mX9_of [.ref p, .int x0, .int x1] h (some (.int rv)) h2) (ho : iObj h p 9 = true) : iWp 6 mX9_stuck 6 [a0, a1, a2] [.int x1, .int x0, .ref p, .int r0] h Q = iWp 6 mX9_stuck 9 [a0, a1, a2] [.int rv, .int r0] h2 Q := iWp_cV dX9_stuck_6 fK_9_123 rfl rfl ho (Nat.le_of_ble_eq_true rfl) (Nat.le_of_ble_eq_true rfl) rfl (Nat.le_of_ble_eq_true rfl) he rfl
theorem X9_stuck_9 : iWp d mX9_stuck 9 [a0, a1, a2] (.int y :: .int x :: st) h Q = if y ≤ x then iWp d mX9_stuck 41 [a0, a1, a2] st h Q else iWp d mX9_stuck 12 [a0, a1, a2] st h Q := w_icmp_ge dX9_stuck_9 rfl
theorem X9_stuck_12 : iWp d mX9_stuck 12 [.ref p, a1, a2] st h Q = iWp d mX9_stuck 13 [.ref p, a1, a2] (.ref p :: st) h Q := w_aload_n dX9_stuck_12 rfl
theorem X9_stuck_13 : iWp d mX9_stuck 13 [.ref p, a1, a2] st h Q = iWp d mX9_stuck 14 [.ref p, a1, a2] (.ref p :: st) h Q := w_aload_n dX9_stuck_13 rfl
theorem X9_stuck_14 : iWp d mX9_stuck 14 [a0, a1, a2] (.ref p :: st) h Q = iOb (iGet h p 9 8) (fun v => iWp d mX9_stuck 17 [a0, a1, a2] (v :: st) h Q) := w_getf dX9_stuck_14 fF_9_25
theorem X9_stuck_17 : iWp d mX9_stuck 17 [a0, a1, a2] st h Q = iWp d mX9_stuck 20 [a0, a1, a2] (.int 840 :: st) h Q := w_sipush dX9_stuck_17 rfl
theorem X9_stuck_20 : iWp d mX9_stuck 20 [a0, .int x, a2] st h Q = iWp d mX9_stuck 21 [a0, .int x, a2] (.int x :: st) h Q := w_iload_n dX9_stuck_20 rfl
theorem X9_stuck_21 : iWp d mX9_stuck 21 [a0, a1, a2] (.int y :: .int x :: st) h Q = iWp d mX9_stuck 22 [a0, a1, a2] (.int (x * y) :: st) h Q := w_imul dX9_stuck_21
theorem X9_stuck_22 : iWp d mX9_stuck 22 [a0, a1, a2] st h Q = iWp d mX9_stuck 24 [a0, a1, a2] (.int 7 :: st) h Q := w_bipush dX9_stuck_22 rfl
theorem X9_stuck_24 : iWp d mX9_stuck 24 [a0, a1, .int x] st h Q = iWp d mX9_stuck 25 [a0, a1, .int x] (.int x :: st) h Q := w_iload_n dX9_stuck_24 rfl
theorem X9_stuck_25 : iWp d mX9_stuck 25 [a0, a1, a2] (.int y :: .int x :: st) h Q = iWp d mX9_stuck 26 [a0, a1, a2] (.int (x * y) :: st) h Q := w_imul dX9_stuck_25
theorem X9_stuck_26 : iWp d mX9_stuck 26 [a0, a1, a2] (.int y :: .int x :: st) h Q = iWp d mX9_stuck 27 [a0, a1, a2] (.int (x + y) :: st) h Q := w_iadd dX9_stuck_26
theorem X9_stuck_27 (he : iEv mX9_does [.ref p, b0, .int x1] h (some (.int rv)) h2) (ho : iObj h p 9 = true) (c0 : b0.category = 1) : iWp 6 mX9_stuck 27 [a0, a1, a2] [.int x1, b0, .ref p] h Q = iWp 6 mX9_stuck 30 [a0, a1, a2] [.int rv] h2 Q := iWp_cV dX9_stuck_27 fK_9_207 rfl rfl ho (Nat.le_of_ble_eq_true rfl) (Nat.le_of_ble_eq_true rfl) (by simp [iInit, cat_i, cat_r, cat_l, mX9_does, c0]) (Nat.le_of_ble_eq_true rfl) he rfl
theorem X9_stuck_30 : iWp d mX9_stuck 30 [a0, a1, a2] (.int x :: st) h Q = if x = 0 then iWp d mX9_stuck 33 [a0, a1, a2] st h Q else iWp d mX9_stuck 35 [a0, a1, a2] st h Q := w_ifc_ne dX9_stuck_30 rfl
theorem X9_stuck_33 : iWp d mX9_stuck 33 [a0, a1, .int x] st h Q = iWp d mX9_stuck 34 [a0, a1, .int x] (.int x :: st) h Q := w_iload_n dX9_stuck_33 rfl
theorem X9_stuck_34 : iWp d mX9_stuck 34 [a0, a1, a2] [.int x] h Q = Q (some (.int x)) h := w_ireti dX9_stuck_34 rfl
theorem X9_stuck_35 : iWp d mX9_stuck 35 [a0, a1, .int x] st h Q = iWp d mX9_stuck 38 [a0, iClr a1, .int (x + 1)] st h Q := w_iinc dX9_stuck_35 rfl (Nat.le_of_ble_eq_true rfl) rfl
theorem X9_stuck_38 : iWp d mX9_stuck 38 [a0, a1, a2] st h Q = iWp d mX9_stuck 2 [a0, a1, a2] st h Q := w_goto dX9_stuck_38 rfl
theorem X9_stuck_41 : iWp d mX9_stuck 41 [a0, a1, a2] st h Q = iWp d mX9_stuck 42 [a0, a1, a2] (.int (-1) :: st) h Q := w_iconst dX9_stuck_41 rfl
theorem X9_stuck_42 : iWp d mX9_stuck 42 [a0, a1, a2] [.int x] h Q = Q (some (.int x)) h := w_ireti dX9_stuck_42 rfl
theorem I9_stuck {Q : Option Value → iHp → Prop} (hw : iWp 6 mX9_stuck 0 [.ref p, .int x0, iU] [] h Q) : ∃ r h1, iEv mX9_stuck [.ref p, .int x0] h r h1 ∧ Q r h1 := iEv_of (by rfl) rfl hw
theorem J9_stuck {r : Option Value} {h1 : iHp} (hw : iWp 6 mX9_stuck 0 [.ref p, .int x0, iU] [] h (fun r' h' => r' = r ∧ h' = h1)) : iEv mX9_stuck [.ref p, .int x0] h r h1 := iEv_ev (by rfl) rfl hw
theorem X9_touched_0 : iWp d mX9_touched 0 [.ref p, a1, a2, a3, a4, a5] st h Q = iWp d mX9_touched 1 [.ref p, a1, a2, a3, a4, a5] (.ref p :: st) h Q := w_aload_n dX9_touched_0 rfl
theorem X9_touched_1 : iWp d mX9_touched 1 [a0, .int x, a2, a3, a4, a5] st h Q = iWp d mX9_touched 2 [a0, .int x, a2, a3, a4, a5] (.int x :: st) h Q := w_iload_n dX9_touched_1 rfl
theorem X9_touched_2 (he : iEv mX9_isPatch [.ref p, .int x0] h (some (.int rv)) h2) (ho : iObj h p 9 = true) : iWp 3 mX9_touched 2 [a0, a1, a2, a3, a4, a5] [.int x0, .ref p] h Q = iWp 3 mX9_touched 5 [a0, a1, a2, a3, a4, a5] [.int rv] h2 Q := iWp_cV dX9_touched_2 fK_9_120 rfl rfl ho (Nat.le_of_ble_eq_true rfl) (Nat.le_of_ble_eq_true rfl) rfl (Nat.le_of_ble_eq_true rfl) he rfl
theorem X9_touched_5 : iWp d mX9_touched 5 [a0, a1, a2, a3, a4, a5] (.int x :: st) h Q = if x = 0 then iWp d mX9_touched 8 [a0, a1, a2, a3, a4, a5] st h Q else iWp d mX9_touched 14 [a0, a1, a2, a3, a4, a5] st h Q := w_ifc_ne dX9_touched_5 rfl
theorem X9_touched_8 : iWp d mX9_touched 8 [.ref p, a1, a2, a3, a4, a5] st h Q = iWp d mX9_touched 9 [.ref p, a1, a2, a3, a4, a5] (.ref p :: st) h Q := w_aload_n dX9_touched_8 rfl
theorem X9_touched_9 : iWp d mX9_touched 9 [a0, a1, a2, a3, a4, a5] st h Q = iWp d mX9_touched 10 [a0, a1, a2, a3, a4, a5] (.int (-1) :: st) h Q := w_iconst dX9_touched_9 rfl
theorem X9_touched_10 (he : iEv mX9_no [.ref p, .int x0] h (some (.int rv)) h2) (ho : iObj h p 9 = true) : iWp 3 mX9_touched 10 [a0, a1, a2, a3, a4, a5] [.int x0, .ref p] h Q = iWp 3 mX9_touched 13 [a0, a1, a2, a3, a4, a5] [.int rv] h2 Q := iWp_cV dX9_touched_10 fK_9_99 rfl rfl ho (Nat.le_of_ble_eq_true rfl) (Nat.le_of_ble_eq_true rfl) rfl (Nat.le_of_ble_eq_true rfl) he rfl
theorem X9_touched_13 : iWp d mX9_touched 13 [a0, a1, a2, a3, a4, a5] [.int x] h Q = Q (some (.int x)) h := w_ireti dX9_touched_13 rfl
theorem X9_touched_14 : iWp d mX9_touched 14 [a0, a1, .int x, a3, a4, a5] st h Q = iWp d mX9_touched 15 [a0, a1, .int x, a3, a4, a5] (.int x :: st) h Q := w_iload_n dX9_touched_14 rfl
theorem X9_touched_15 : iWp d mX9_touched 15 [a0, a1, a2, a3, a4, a5] st h Q = iWp d mX9_touched 16 [a0, a1, a2, a3, a4, a5] (.int 0 :: st) h Q := w_iconst dX9_touched_15 rfl
theorem X9_touched_16 : iWp d mX9_touched 16 [a0, a1, a2, a3, a4, a5] st h Q = iWp d mX9_touched 17 [a0, a1, a2, a3, a4, a5] (.int 1 :: st) h Q := w_iconst dX9_touched_16 rfl
theorem X9_touched_17 (he : iEv mX9_within [.int x0, .int x1, .int x2] h (some (.int rv)) h2) : iWp 3 mX9_touched 17 [a0, a1, a2, a3, a4, a5] [.int x2, .int x1, .int x0] h Q = iWp 3 mX9_touched 20 [a0, a1, a2, a3, a4, a5] [.int rv] h2 Q := iWp_cS dX9_touched_17 fK_9_106 rfl rfl (Nat.le_of_ble_eq_true rfl) (Nat.le_of_ble_eq_true rfl) rfl (Nat.le_of_ble_eq_true rfl) he rfl
theorem X9_touched_20 : iWp d mX9_touched 20 [a0, a1, a2, a3, a4, a5] (.int x :: st) h Q = if x = 0 then iWp d mX9_touched 23 [a0, a1, a2, a3, a4, a5] st h Q else iWp d mX9_touched 30 [a0, a1, a2, a3, a4, a5] st h Q := w_ifc_ne dX9_touched_20 rfl
theorem X9_touched_23 : iWp d mX9_touched 23 [.ref p, a1, a2, a3, a4, a5] st h Q = iWp d mX9_touched 24 [.ref p, a1, a2, a3, a4, a5] (.ref p :: st) h Q := w_aload_n dX9_touched_23 rfl
theorem X9_touched_24 : iWp d mX9_touched 24 [a0, a1, a2, a3, a4, a5] st h Q = iWp d mX9_touched 26 [a0, a1, a2, a3, a4, a5] (.int (-5) :: st) h Q := w_bipush dX9_touched_24 rfl
theorem X9_touched_26 (he : iEv mX9_no [.ref p, .int x0] h (some (.int rv)) h2) (ho : iObj h p 9 = true) : iWp 3 mX9_touched 26 [a0, a1, a2, a3, a4, a5] [.int x0, .ref p] h Q = iWp 3 mX9_touched 29 [a0, a1, a2, a3, a4, a5] [.int rv] h2 Q := iWp_cV dX9_touched_26 fK_9_99 rfl rfl ho (Nat.le_of_ble_eq_true rfl) (Nat.le_of_ble_eq_true rfl) rfl (Nat.le_of_ble_eq_true rfl) he rfl
theorem X9_touched_29 : iWp d mX9_touched 29 [a0, a1, a2, a3, a4, a5] [.int x] h Q = Q (some (.int x)) h := w_ireti dX9_touched_29 rfl
theorem X9_touched_30 : iWp d mX9_touched 30 [a0, a1, a2, a3, a4, a5] st h Q = iWp d mX9_touched 31 [a0, a1, a2, a3, a4, a5] (.int 0 :: st) h Q := w_iconst dX9_touched_30 rfl
theorem X9_touched_31 : iWp d mX9_touched 31 [a0, a1, a2, a3, a4, a5] (.int x :: st) h Q = iWp d mX9_touched 32 [a0, a1, iClr a2, .int x, a4, a5] st h Q := w_istore_n dX9_touched_31 (Nat.le_of_ble_eq_true rfl) rfl
theorem X9_touched_32 : iWp d mX9_touched 32 [a0, a1, a2, a3, a4, a5] st h Q = iWp d mX9_touched 33 [a0, a1, a2, a3, a4, a5] (.int 0 :: st) h Q := w_iconst dX9_touched_32 rfl
theorem X9_touched_33 : iWp d mX9_touched 33 [a0, a1, a2, a3, a4, a5] (.int x :: st) h Q = iWp d mX9_touched 35 [a0, a1, a2, iClr a3, .int x, a5] st h Q := w_istore dX9_touched_33 (Nat.le_of_ble_eq_true rfl) rfl
theorem X9_touched_35 : iWp d mX9_touched 35 [a0, a1, a2, a3, .int x, a5] st h Q = iWp d mX9_touched 37 [a0, a1, a2, a3, .int x, a5] (.int x :: st) h Q := w_iload dX9_touched_35 rfl
theorem X9_touched_37 : iWp d mX9_touched 37 [.ref p, a1, a2, a3, a4, a5] st h Q = iWp d mX9_touched 38 [.ref p, a1, a2, a3, a4, a5] (.ref p :: st) h Q := w_aload_n dX9_touched_37 rfl
theorem X9_touched_38 : iWp d mX9_touched 38 [a0, a1, a2, a3, a4, a5] st h Q = iWp d mX9_touched 39 [a0, a1, a2, a3, a4, a5] (.int 0 :: st) h Q := w_iconst dX9_touched_38 rfl
theorem X9_touched_39 : iWp d mX9_touched 39 [a0, .int x, a2, a3, a4, a5] st h Q = iWp d mX9_touched 40 [a0, .int x, a2, a3, a4, a5] (.int x :: st) h Q := w_iload_n dX9_touched_39 rfl
theorem X9_touched_40 (he : iEv mX9_of [.ref p, .int x0, .int x1] h (some (.int rv)) h2) (ho : iObj h p 9 = true) : iWp 3 mX9_touched 40 [a0, a1, a2, a3, a4, a5] [.int x1, .int x0, .ref p, .int r0] h Q = iWp 3 mX9_touched 43 [a0, a1, a2, a3, a4, a5] [.int rv, .int r0] h2 Q := iWp_cV dX9_touched_40 fK_9_123 rfl rfl ho (Nat.le_of_ble_eq_true rfl) (Nat.le_of_ble_eq_true rfl) rfl (Nat.le_of_ble_eq_true rfl) he rfl
theorem X9_touched_43 : iWp d mX9_touched 43 [a0, a1, a2, a3, a4, a5] (.int y :: .int x :: st) h Q = if y ≤ x then iWp d mX9_touched 89 [a0, a1, a2, a3, a4, a5] st h Q else iWp d mX9_touched 46 [a0, a1, a2, a3, a4, a5] st h Q := w_icmp_ge dX9_touched_43 rfl
theorem X9_touched_46 : iWp d mX9_touched 46 [.ref p, a1, a2, a3, a4, a5] st h Q = iWp d mX9_touched 47 [.ref p, a1, a2, a3, a4, a5] (.ref p :: st) h Q := w_aload_n dX9_touched_46 rfl
theorem X9_touched_47 : iWp d mX9_touched 47 [a0, .int x, a2, a3, a4, a5] st h Q = iWp d mX9_touched 48 [a0, .int x, a2, a3, a4, a5] (.int x :: st) h Q := w_iload_n dX9_touched_47 rfl
theorem X9_touched_48 : iWp d mX9_touched 48 [a0, a1, a2, a3, a4, a5] st h Q = iWp d mX9_touched 50 [a0, a1, a2, a3, a4, a5] (.int 7 :: st) h Q := w_bipush dX9_touched_48 rfl
theorem X9_touched_50 : iWp d mX9_touched 50 [a0, a1, a2, a3, .int x, a5] st h Q = iWp d mX9_touched 52 [a0, a1, a2, a3, .int x, a5] (.int x :: st) h Q := w_iload dX9_touched_50 rfl
theorem X9_touched_52 : iWp d mX9_touched 52 [a0, a1, a2, a3, a4, a5] (.int y :: .int x :: st) h Q = iWp d mX9_touched 53 [a0, a1, a2, a3, a4, a5] (.int (x * y) :: st) h Q := w_imul dX9_touched_52
theorem X9_touched_53 : iWp d mX9_touched 53 [a0, a1, a2, a3, a4, a5] st h Q = iWp d mX9_touched 54 [a0, a1, a2, a3, a4, a5] (.int 1 :: st) h Q := w_iconst dX9_touched_53 rfl
theorem X9_touched_54 : iWp d mX9_touched 54 [a0, a1, a2, a3, a4, a5] (.int y :: .int x :: st) h Q = iWp d mX9_touched 55 [a0, a1, a2, a3, a4, a5] (.int (x + y) :: st) h Q := w_iadd dX9_touched_54
theorem X9_touched_55 (he : iEv mX9_edit [.ref p, .int x0, .int x1] h (some (.int rv)) h2) (ho : iObj h p 9 = true) : iWp 3 mX9_touched 55 [a0, a1, a2, a3, a4, a5] [.int x1, .int x0, .ref p] h Q = iWp 3 mX9_touched 58 [a0, a1, a2, a3, a4, a5] [.int rv] h2 Q := iWp_cV dX9_touched_55 fK_9_254 rfl rfl ho (Nat.le_of_ble_eq_true rfl) (Nat.le_of_ble_eq_true rfl) rfl (Nat.le_of_ble_eq_true rfl) he rfl
theorem X9_touched_58 : iWp d mX9_touched 58 [a0, a1, a2, a3, a4, a5] st h Q = iWp d mX9_touched 60 [a0, a1, a2, a3, a4, a5] (.int 30 :: st) h Q := w_bipush dX9_touched_58 rfl
theorem X9_touched_60 : iWp d mX9_touched 60 [a0, a1, .int x, a3, a4, a5] st h Q = iWp d mX9_touched 61 [a0, a1, .int x, a3, a4, a5] (.int x :: st) h Q := w_iload_n dX9_touched_60 rfl
theorem X9_touched_61 : iWp d mX9_touched 61 [a0, a1, a2, a3, a4, a5] (.int y :: .int x :: st) h Q = iWp d mX9_touched 62 [a0, a1, a2, a3, a4, a5] (.int (x * y) :: st) h Q := w_imul dX9_touched_61
theorem X9_touched_62 : iWp d mX9_touched 62 [a0, a1, a2, a3, a4, a5] (.int y :: .int x :: st) h Q = iWp d mX9_touched 63 [a0, a1, a2, a3, a4, a5] (.int (x - y) :: st) h Q := w_isub dX9_touched_62
theorem X9_touched_63 : iWp d mX9_touched 63 [a0, a1, a2, a3, a4, a5] (.int x :: st) h Q = iWp d mX9_touched 65 [a0, a1, a2, a3, iClr a4, .int x] st h Q := w_istore dX9_touched_63 (Nat.le_of_ble_eq_true rfl) rfl
theorem X9_touched_65 : iWp d mX9_touched 65 [a0, a1, a2, a3, a4, .int x] st h Q = iWp d mX9_touched 67 [a0, a1, a2, a3, a4, .int x] (.int x :: st) h Q := w_iload dX9_touched_65 rfl
theorem X9_touched_67 : iWp d mX9_touched 67 [a0, a1, a2, a3, a4, a5] st h Q = iWp d mX9_touched 68 [a0, a1, a2, a3, a4, a5] (.int 1 :: st) h Q := w_iconst dX9_touched_67 rfl
theorem X9_touched_68 : iWp d mX9_touched 68 [a0, a1, a2, a3, a4, a5] st h Q = iWp d mX9_touched 70 [a0, a1, a2, a3, a4, a5] (.int 30 :: st) h Q := w_bipush dX9_touched_68 rfl
theorem X9_touched_70 (he : iEv mX9_within [.int x0, .int x1, .int x2] h (some (.int rv)) h2) : iWp 3 mX9_touched 70 [a0, a1, a2, a3, a4, a5] [.int x2, .int x1, .int x0] h Q = iWp 3 mX9_touched 73 [a0, a1, a2, a3, a4, a5] [.int rv] h2 Q := iWp_cS dX9_touched_70 fK_9_106 rfl rfl (Nat.le_of_ble_eq_true rfl) (Nat.le_of_ble_eq_true rfl) rfl (Nat.le_of_ble_eq_true rfl) he rfl
theorem X9_touched_73 : iWp d mX9_touched 73 [a0, a1, a2, a3, a4, a5] (.int x :: st) h Q = if x = 0 then iWp d mX9_touched 83 [a0, a1, a2, a3, a4, a5] st h Q else iWp d mX9_touched 76 [a0, a1, a2, a3, a4, a5] st h Q := w_ifc_eq dX9_touched_73 rfl
theorem X9_touched_76 : iWp d mX9_touched 76 [a0, a1, a2, .int x, a4, a5] st h Q = iWp d mX9_touched 77 [a0, a1, a2, .int x, a4, a5] (.int x :: st) h Q := w_iload_n dX9_touched_76 rfl
theorem X9_touched_77 : iWp d mX9_touched 77 [a0, a1, a2, a3, a4, a5] st h Q = iWp d mX9_touched 78 [a0, a1, a2, a3, a4, a5] (.int 1 :: st) h Q := w_iconst dX9_touched_77 rfl
theorem X9_touched_78 : iWp d mX9_touched 78 [a0, a1, a2, a3, a4, .int x] st h Q = iWp d mX9_touched 80 [a0, a1, a2, a3, a4, .int x] (.int x :: st) h Q := w_iload dX9_touched_78 rfl
theorem X9_touched_80 : iWp d mX9_touched 80 [a0, a1, a2, a3, a4, a5] (.int y :: .int x :: st) h Q = iWp d mX9_touched 81 [a0, a1, a2, a3, a4, a5] (.int (x <<< (y &&& 31)) :: st) h Q := w_ishl dX9_touched_80
theorem X9_touched_81 : iWp d mX9_touched 81 [a0, a1, a2, a3, a4, a5] (.int y :: .int x :: st) h Q = iWp d mX9_touched 82 [a0, a1, a2, a3, a4, a5] (.int (x ||| y) :: st) h Q := w_ior dX9_touched_81
theorem X9_touched_82 : iWp d mX9_touched 82 [a0, a1, a2, a3, a4, a5] (.int x :: st) h Q = iWp d mX9_touched 83 [a0, a1, iClr a2, .int x, a4, a5] st h Q := w_istore_n dX9_touched_82 (Nat.le_of_ble_eq_true rfl) rfl
theorem X9_touched_83 : iWp d mX9_touched 83 [a0, a1, a2, a3, .int x, a5] st h Q = iWp d mX9_touched 86 [a0, a1, a2, iClr a3, .int (x + 1), a5] st h Q := w_iinc dX9_touched_83 rfl (Nat.le_of_ble_eq_true rfl) rfl
theorem X9_touched_86 : iWp d mX9_touched 86 [a0, a1, a2, a3, a4, a5] st h Q = iWp d mX9_touched 35 [a0, a1, a2, a3, a4, a5] st h Q := w_goto dX9_touched_86 rfl
theorem X9_touched_89 : iWp d mX9_touched 89 [a0, a1, a2, .int x, a4, a5] st h Q = iWp d mX9_touched 90 [a0, a1, a2, .int x, a4, a5] (.int x :: st) h Q := w_iload_n dX9_touched_89 rfl
theorem X9_touched_90 : iWp d mX9_touched 90 [a0, a1, a2, a3, a4, a5] [.int x] h Q = Q (some (.int x)) h := w_ireti dX9_touched_90 rfl
theorem I9_touched {Q : Option Value → iHp → Prop} (hw : iWp 3 mX9_touched 0 [.ref p, .int x0, .int x1, iU, iU, iU] [] h Q) : ∃ r h1, iEv mX9_touched [.ref p, .int x0, .int x1] h r h1 ∧ Q r h1 := iEv_of (by rfl) rfl hw
theorem J9_touched {r : Option Value} {h1 : iHp} (hw : iWp 3 mX9_touched 0 [.ref p, .int x0, .int x1, iU, iU, iU] [] h (fun r' h' => r' = r ∧ h' = h1)) : iEv mX9_touched [.ref p, .int x0, .int x1] h r h1 := iEv_ev (by rfl) rfl hw
theorem X9_tree_0 : iWp d mX9_tree 0 [.ref p, a1, a2, a3] st h Q = iWp d mX9_tree 1 [.ref p, a1, a2, a3] (.ref p :: st) h Q := w_aload_n dX9_tree_0 rfl
theorem X9_tree_1 : iWp d mX9_tree 1 [a0, .int x, a2, a3] st h Q = iWp d mX9_tree 2 [a0, .int x, a2, a3] (.int x :: st) h Q := w_iload_n dX9_tree_1 rfl
theorem X9_tree_2 (he : iEv mX9_noRow [.ref p, .int x0] h (some (.int rv)) h2) (ho : iObj h p 9 = true) : iWp 49 mX9_tree 2 [a0, a1, a2, a3] [.int x0, .ref p] h Q = iWp 49 mX9_tree 5 [a0, a1, a2, a3] [.int rv] h2 Q := iWp_cV dX9_tree_2 fK_9_117 rfl rfl ho (Nat.le_of_ble_eq_true rfl) (Nat.le_of_ble_eq_true rfl) rfl (Nat.le_of_ble_eq_true rfl) he rfl
theorem X9_tree_5 : iWp d mX9_tree 5 [a0, a1, a2, a3] (.int x :: st) h Q = iWp d mX9_tree 6 [a0, iClr a1, .int x, a3] st h Q := w_istore_n dX9_tree_5 (Nat.le_of_ble_eq_true rfl) rfl
theorem X9_tree_6 : iWp d mX9_tree 6 [a0, a1, .int x, a3] st h Q = iWp d mX9_tree 7 [a0, a1, .int x, a3] (.int x :: st) h Q := w_iload_n dX9_tree_6 rfl
theorem X9_tree_7 : iWp d mX9_tree 7 [a0, a1, a2, a3] (.int x :: st) h Q = if 0 ≤ x then iWp d mX9_tree 16 [a0, a1, a2, a3] st h Q else iWp d mX9_tree 10 [a0, a1, a2, a3] st h Q := w_ifc_ge dX9_tree_7 rfl
theorem X9_tree_10 : iWp d mX9_tree 10 [.ref p, a1, a2, a3] st h Q = iWp d mX9_tree 11 [.ref p, a1, a2, a3] (.ref p :: st) h Q := w_aload_n dX9_tree_10 rfl
theorem X9_tree_11 : iWp d mX9_tree 11 [a0, a1, .int x, a3] st h Q = iWp d mX9_tree 12 [a0, a1, .int x, a3] (.int x :: st) h Q := w_iload_n dX9_tree_11 rfl
theorem X9_tree_12 (he : iEv mX9_no [.ref p, .int x0] h (some (.int rv)) h2) (ho : iObj h p 9 = true) : iWp 49 mX9_tree 12 [a0, a1, a2, a3] [.int x0, .ref p] h Q = iWp 49 mX9_tree 15 [a0, a1, a2, a3] [.int rv] h2 Q := iWp_cV dX9_tree_12 fK_9_99 rfl rfl ho (Nat.le_of_ble_eq_true rfl) (Nat.le_of_ble_eq_true rfl) rfl (Nat.le_of_ble_eq_true rfl) he rfl
theorem X9_tree_15 : iWp d mX9_tree 15 [a0, a1, a2, a3] [.int x] h Q = Q (some (.int x)) h := w_ireti dX9_tree_15 rfl
theorem X9_tree_16 : iWp d mX9_tree 16 [.ref p, a1, a2, a3] st h Q = iWp d mX9_tree 17 [.ref p, a1, a2, a3] (.ref p :: st) h Q := w_aload_n dX9_tree_16 rfl
theorem X9_tree_17 : iWp d mX9_tree 17 [a0, .int x, a2, a3] st h Q = iWp d mX9_tree 18 [a0, .int x, a2, a3] (.int x :: st) h Q := w_iload_n dX9_tree_17 rfl
theorem X9_tree_18 : iWp d mX9_tree 18 [a0, a1, a2, a3] (.int x :: .ref p :: st) h Q = iOb (iPut h p 9 15 (.int x)) (fun g => iWp d mX9_tree 21 [a0, a1, a2, a3] st g Q) := w_putf dX9_tree_18 fF_9_142 ⟨rfl, (Or.inl rfl)⟩
theorem X9_tree_21 : iWp d mX9_tree 21 [.ref p, a1, a2, a3] st h Q = iWp d mX9_tree 22 [.ref p, a1, a2, a3] (.ref p :: st) h Q := w_aload_n dX9_tree_21 rfl
theorem X9_tree_22 : iWp d mX9_tree 22 [a0, a1, a2, a3] st h Q = iWp d mX9_tree 23 [a0, a1, a2, a3] (.int 0 :: st) h Q := w_iconst dX9_tree_22 rfl
theorem X9_tree_23 : iWp d mX9_tree 23 [a0, a1, a2, a3] (.int x :: .ref p :: st) h Q = iOb (iPut h p 9 16 (.int x)) (fun g => iWp d mX9_tree 26 [a0, a1, a2, a3] st g Q) := w_putf dX9_tree_23 fF_9_139 ⟨rfl, (Or.inl rfl)⟩
theorem X9_tree_26 : iWp d mX9_tree 26 [.ref p, a1, a2, a3] st h Q = iWp d mX9_tree 27 [.ref p, a1, a2, a3] (.ref p :: st) h Q := w_aload_n dX9_tree_26 rfl
theorem X9_tree_27 : iWp d mX9_tree 27 [a0, a1, a2, a3] st h Q = iWp d mX9_tree 28 [a0, a1, a2, a3] (.int 0 :: st) h Q := w_iconst dX9_tree_27 rfl
theorem X9_tree_28 : iWp d mX9_tree 28 [a0, a1, a2, a3] (.int x :: .ref p :: st) h Q = iOb (iPut h p 9 18 (.int x)) (fun g => iWp d mX9_tree 31 [a0, a1, a2, a3] st g Q) := w_putf dX9_tree_28 fF_9_127 ⟨rfl, (Or.inl rfl)⟩
theorem X9_tree_31 : iWp d mX9_tree 31 [.ref p, a1, a2, a3] st h Q = iWp d mX9_tree 32 [.ref p, a1, a2, a3] (.ref p :: st) h Q := w_aload_n dX9_tree_31 rfl
theorem X9_tree_32 : iWp d mX9_tree 32 [a0, a1, a2, a3] st h Q = iWp d mX9_tree 33 [a0, a1, a2, a3] (.int 0 :: st) h Q := w_iconst dX9_tree_32 rfl
theorem X9_tree_33 (he : iEv mX9_node [.ref p, .int x0] h (some (.int rv)) h2) (ho : iObj h p 9 = true) (hr : iRank mX9_node [.ref p, .int x0] < 49) : iWp 49 mX9_tree 33 [a0, a1, a2, a3] [.int x0, .ref p] h Q = iWp 49 mX9_tree 36 [a0, a1, a2, a3] [.int rv] h2 Q := iWp_cV dX9_tree_33 fK_9_159 rfl rfl ho (Nat.le_of_ble_eq_true rfl) hr rfl (Nat.le_of_ble_eq_true rfl) he rfl
theorem X9_tree_36 : iWp d mX9_tree 36 [a0, a1, a2, a3] (.int x :: st) h Q = if x = 0 then iWp d mX9_tree 56 [a0, a1, a2, a3] st h Q else iWp d mX9_tree 39 [a0, a1, a2, a3] st h Q := w_ifc_eq dX9_tree_36 rfl
theorem X9_tree_39 : iWp d mX9_tree 39 [.ref p, a1, a2, a3] st h Q = iWp d mX9_tree 40 [.ref p, a1, a2, a3] (.ref p :: st) h Q := w_aload_n dX9_tree_39 rfl
theorem X9_tree_40 : iWp d mX9_tree 40 [a0, a1, a2, a3] (.ref p :: st) h Q = iOb (iGet h p 9 16) (fun v => iWp d mX9_tree 43 [a0, a1, a2, a3] (v :: st) h Q) := w_getf dX9_tree_40 fF_9_139
theorem X9_tree_43 : iWp d mX9_tree 43 [.ref p, a1, a2, a3] st h Q = iWp d mX9_tree 44 [.ref p, a1, a2, a3] (.ref p :: st) h Q := w_aload_n dX9_tree_43 rfl
theorem X9_tree_44 : iWp d mX9_tree 44 [a0, a1, a2, a3] (.ref p :: st) h Q = iOb (iGet h p 9 12) (fun v => iWp d mX9_tree 47 [a0, a1, a2, a3] (v :: st) h Q) := w_getf dX9_tree_44 fF_9_34
theorem X9_tree_47 : iWp d mX9_tree 47 [a0, .int x, a2, a3] st h Q = iWp d mX9_tree 48 [a0, .int x, a2, a3] (.int x :: st) h Q := w_iload_n dX9_tree_47 rfl
theorem X9_tree_48 : iWp d mX9_tree 48 [a0, a1, a2, a3] (.int x :: .ref p :: st) h Q = iOb (iLdI h p x) (fun v => iWp d mX9_tree 49 [a0, a1, a2, a3] (.int v :: st) h Q) := w_iaload dX9_tree_48
theorem X9_tree_49 : iWp d mX9_tree 49 [a0, a1, a2, a3] (.int y :: .int x :: st) h Q = if x = y then iWp d mX9_tree 52 [a0, a1, a2, a3] st h Q else iWp d mX9_tree 56 [a0, a1, a2, a3] st h Q := w_icmp_ne dX9_tree_49 rfl
theorem X9_tree_52 : iWp d mX9_tree 52 [a0, a1, a2, a3] st h Q = iWp d mX9_tree 53 [a0, a1, a2, a3] (.int 1 :: st) h Q := w_iconst dX9_tree_52 rfl
theorem X9_tree_53 : iWp d mX9_tree 53 [a0, a1, a2, a3] st h Q = iWp d mX9_tree 57 [a0, a1, a2, a3] st h Q := w_goto dX9_tree_53 rfl
theorem X9_tree_56 : iWp d mX9_tree 56 [a0, a1, a2, a3] st h Q = iWp d mX9_tree 57 [a0, a1, a2, a3] (.int 0 :: st) h Q := w_iconst dX9_tree_56 rfl
theorem X9_tree_57 : iWp d mX9_tree 57 [a0, a1, a2, a3] (.int x :: st) h Q = iWp d mX9_tree 58 [a0, a1, iClr a2, .int x] st h Q := w_istore_n dX9_tree_57 (Nat.le_of_ble_eq_true rfl) rfl
theorem X9_tree_58 : iWp d mX9_tree 58 [.ref p, a1, a2, a3] st h Q = iWp d mX9_tree 59 [.ref p, a1, a2, a3] (.ref p :: st) h Q := w_aload_n dX9_tree_58 rfl
theorem X9_tree_59 : iWp d mX9_tree 59 [a0, a1, a2, .int x] st h Q = iWp d mX9_tree 60 [a0, a1, a2, .int x] (.int x :: st) h Q := w_iload_n dX9_tree_59 rfl
theorem X9_tree_60 : iWp d mX9_tree 60 [a0, a1, a2, a3] (.int x :: st) h Q = if x = 0 then iWp d mX9_tree 67 [a0, a1, a2, a3] st h Q else iWp d mX9_tree 63 [a0, a1, a2, a3] st h Q := w_ifc_eq dX9_tree_60 rfl
theorem X9_tree_63 : iWp d mX9_tree 63 [a0, a1, a2, a3] st h Q = iWp d mX9_tree 64 [a0, a1, a2, a3] (.int (-1) :: st) h Q := w_iconst dX9_tree_63 rfl
theorem X9_tree_64 : iWp d mX9_tree 64 [a0, a1, a2, a3] st h Q = iWp d mX9_tree 71 [a0, a1, a2, a3] st h Q := w_goto dX9_tree_64 rfl
theorem X9_tree_67 : iWp d mX9_tree 67 [.ref p, a1, a2, a3] st h Q = iWp d mX9_tree 68 [.ref p, a1, a2, a3] (.ref p :: st) h Q := w_aload_n dX9_tree_67 rfl
theorem X9_tree_68 : iWp d mX9_tree 68 [a0, a1, a2, a3] (.ref p :: st) h Q = iOb (iGet h p 9 16) (fun v => iWp d mX9_tree 71 [a0, a1, a2, a3] (v :: st) h Q) := w_getf dX9_tree_68 fF_9_139
theorem X9_tree_71 : iWp d mX9_tree 71 [a0, a1, a2, a3] (.int x :: .ref p :: st) h Q = iOb (iPut h p 9 14 (.int x)) (fun g => iWp d mX9_tree 74 [a0, a1, a2, a3] st g Q) := w_putf dX9_tree_71 fF_9_96 ⟨rfl, (Or.inl rfl)⟩
theorem X9_tree_74 : iWp d mX9_tree 74 [a0, a1, a2, .int x] st h Q = iWp d mX9_tree 75 [a0, a1, a2, .int x] (.int x :: st) h Q := w_iload_n dX9_tree_74 rfl
theorem X9_tree_75 : iWp d mX9_tree 75 [a0, a1, a2, a3] (.int x :: st) h Q = if x = 0 then iWp d mX9_tree 78 [a0, a1, a2, a3] st h Q else iWp d mX9_tree 85 [a0, a1, a2, a3] st h Q := w_ifc_ne dX9_tree_75 rfl
theorem X9_tree_78 : iWp d mX9_tree 78 [.ref p, a1, a2, a3] st h Q = iWp d mX9_tree 79 [.ref p, a1, a2, a3] (.ref p :: st) h Q := w_aload_n dX9_tree_78 rfl
theorem X9_tree_79 : iWp d mX9_tree 79 [a0, a1, a2, a3] st h Q = iWp d mX9_tree 81 [a0, a1, a2, a3] (.int (-6) :: st) h Q := w_bipush dX9_tree_79 rfl
theorem X9_tree_81 (he : iEv mX9_no [.ref p, .int x0] h (some (.int rv)) h2) (ho : iObj h p 9 = true) : iWp 49 mX9_tree 81 [a0, a1, a2, a3] [.int x0, .ref p] h Q = iWp 49 mX9_tree 84 [a0, a1, a2, a3] [.int rv] h2 Q := iWp_cV dX9_tree_81 fK_9_99 rfl rfl ho (Nat.le_of_ble_eq_true rfl) (Nat.le_of_ble_eq_true rfl) rfl (Nat.le_of_ble_eq_true rfl) he rfl
theorem X9_tree_84 : iWp d mX9_tree 84 [a0, a1, a2, a3] [.int x] h Q = Q (some (.int x)) h := w_ireti dX9_tree_84 rfl
theorem X9_tree_85 : iWp d mX9_tree 85 [.ref p, a1, a2, a3] st h Q = iWp d mX9_tree 86 [.ref p, a1, a2, a3] (.ref p :: st) h Q := w_aload_n dX9_tree_85 rfl
theorem X9_tree_86 : iWp d mX9_tree 86 [a0, a1, a2, a3] (.ref p :: st) h Q = iOb (iGet h p 9 0) (fun v => iWp d mX9_tree 89 [a0, a1, a2, a3] (v :: st) h Q) := w_getf dX9_tree_86 fF_9_103
theorem X9_tree_89 : iWp d mX9_tree 89 [a0, a1, a2, a3] st h Q = iWp d mX9_tree 91 [a0, a1, a2, a3] (.int 16 :: st) h Q := w_bipush dX9_tree_89 rfl
theorem X9_tree_91 : iWp d mX9_tree 91 [a0, a1, a2, a3] (.int y :: .int x :: st) h Q = if x = y then iWp d mX9_tree 94 [a0, a1, a2, a3] st h Q else iWp d mX9_tree 101 [a0, a1, a2, a3] st h Q := w_icmp_ne dX9_tree_91 rfl
theorem X9_tree_94 : iWp d mX9_tree 94 [.ref p, a1, a2, a3] st h Q = iWp d mX9_tree 95 [.ref p, a1, a2, a3] (.ref p :: st) h Q := w_aload_n dX9_tree_94 rfl
theorem X9_tree_95 : iWp d mX9_tree 95 [a0, a1, a2, a3] st h Q = iWp d mX9_tree 97 [a0, a1, a2, a3] (.int (-7) :: st) h Q := w_bipush dX9_tree_95 rfl
theorem X9_tree_97 (he : iEv mX9_no [.ref p, .int x0] h (some (.int rv)) h2) (ho : iObj h p 9 = true) : iWp 49 mX9_tree 97 [a0, a1, a2, a3] [.int x0, .ref p] h Q = iWp 49 mX9_tree 100 [a0, a1, a2, a3] [.int rv] h2 Q := iWp_cV dX9_tree_97 fK_9_99 rfl rfl ho (Nat.le_of_ble_eq_true rfl) (Nat.le_of_ble_eq_true rfl) rfl (Nat.le_of_ble_eq_true rfl) he rfl
theorem X9_tree_100 : iWp d mX9_tree 100 [a0, a1, a2, a3] [.int x] h Q = Q (some (.int x)) h := w_ireti dX9_tree_100 rfl
theorem X9_tree_101 : iWp d mX9_tree 101 [.ref p, a1, a2, a3] st h Q = iWp d mX9_tree 102 [.ref p, a1, a2, a3] (.ref p :: st) h Q := w_aload_n dX9_tree_101 rfl
theorem X9_tree_102 : iWp d mX9_tree 102 [.ref p, a1, a2, a3] st h Q = iWp d mX9_tree 103 [.ref p, a1, a2, a3] (.ref p :: st) h Q := w_aload_n dX9_tree_102 rfl
theorem X9_tree_103 : iWp d mX9_tree 103 [a0, a1, a2, a3] (.ref p :: st) h Q = iOb (iGet h p 9 0) (fun v => iWp d mX9_tree 106 [a0, a1, a2, a3] (v :: st) h Q) := w_getf dX9_tree_103 fF_9_103
theorem X9_tree_106 (he : iEv mX9_lays [.ref p, .int x0] h none h2) (ho : iObj h p 9 = true) : iWp 49 mX9_tree 106 [a0, a1, a2, a3] [.int x0, .ref p] h Q = iWp 49 mX9_tree 109 [a0, a1, a2, a3] [] h2 Q := iWp_cV dX9_tree_106 fK_9_162 rfl rfl ho (Nat.le_of_ble_eq_true rfl) (Nat.le_of_ble_eq_true rfl) rfl (Nat.le_of_ble_eq_true rfl) he rfl
theorem X9_tree_109 : iWp d mX9_tree 109 [.ref p, a1, a2, a3] st h Q = iWp d mX9_tree 110 [.ref p, a1, a2, a3] (.ref p :: st) h Q := w_aload_n dX9_tree_109 rfl
theorem X9_tree_110 : iWp d mX9_tree 110 [a0, a1, a2, a3] (.ref p :: st) h Q = iWp d mX9_tree 111 [a0, a1, a2, a3] (.ref p :: .ref p :: st) h Q := w_dup dX9_tree_110 rfl
theorem X9_tree_111 : iWp d mX9_tree 111 [a0, a1, a2, a3] (.ref p :: st) h Q = iOb (iGet h p 9 0) (fun v => iWp d mX9_tree 114 [a0, a1, a2, a3] (v :: st) h Q) := w_getf dX9_tree_111 fF_9_103
theorem X9_tree_114 : iWp d mX9_tree 114 [a0, a1, a2, a3] (.int x :: .ref q :: st) h Q = iWp d mX9_tree 115 [a0, a1, a2, a3] (.int x :: .ref q :: .int x :: st) h Q := w_dup_x1 dX9_tree_114 ⟨rfl, rfl⟩
theorem X9_tree_115 : iWp d mX9_tree 115 [a0, a1, a2, a3] st h Q = iWp d mX9_tree 116 [a0, a1, a2, a3] (.int 1 :: st) h Q := w_iconst dX9_tree_115 rfl
theorem X9_tree_116 : iWp d mX9_tree 116 [a0, a1, a2, a3] (.int y :: .int x :: st) h Q = iWp d mX9_tree 117 [a0, a1, a2, a3] (.int (x + y) :: st) h Q := w_iadd dX9_tree_116
theorem X9_tree_117 : iWp d mX9_tree 117 [a0, a1, a2, a3] (.int x :: .ref p :: st) h Q = iOb (iPut h p 9 0 (.int x)) (fun g => iWp d mX9_tree 120 [a0, a1, a2, a3] st g Q) := w_putf dX9_tree_117 fF_9_103 ⟨rfl, (Or.inl rfl)⟩
theorem X9_tree_120 : iWp d mX9_tree 120 [a0, a1, a2, a3] [.int x] h Q = Q (some (.int x)) h := w_ireti dX9_tree_120 rfl
theorem I9_tree {Q : Option Value → iHp → Prop} (hw : iWp 49 mX9_tree 0 [.ref p, .int x0, iU, iU] [] h Q) : ∃ r h1, iEv mX9_tree [.ref p, .int x0] h r h1 ∧ Q r h1 := iEv_of (by rfl) rfl hw
theorem J9_tree {r : Option Value} {h1 : iHp} (hw : iWp 49 mX9_tree 0 [.ref p, .int x0, iU, iU] [] h (fun r' h' => r' = r ∧ h' = h1)) : iEv mX9_tree [.ref p, .int x0] h r h1 := iEv_ev (by rfl) rfl hw
theorem X9_turns_0 : iWp d mX9_turns 0 [a0, .ref p, a2] st h Q = iWp d mX9_turns 1 [a0, .ref p, a2] (.ref p :: st) h Q := w_aload_n dX9_turns_0 rfl
theorem X9_turns_0n : iWp d mX9_turns 0 [a0, .null, a2] st h Q = iWp d mX9_turns 1 [a0, .null, a2] (.null :: st) h Q := w_aload_nN dX9_turns_0 rfl
theorem X9_turns_1 : iWp d mX9_turns 1 [a0, a1, .int x] st h Q = iWp d mX9_turns 2 [a0, a1, .int x] (.int x :: st) h Q := w_iload_n dX9_turns_1 rfl
theorem X9_turns_2 : iWp d mX9_turns 2 [a0, a1, a2] (.int x :: .ref p :: st) h Q = iOb (iLdI h p x) (fun v => iWp d mX9_turns 3 [a0, a1, a2] (.int v :: st) h Q) := w_iaload dX9_turns_2
theorem X9_turns_3_0 : iWp d mX9_turns 3 [a0, a1, a2] (.int 0 :: st) h Q = iWp d mX9_turns 28 [a0, a1, a2] st h Q := w_lookup dX9_turns_3 rfl rfl rfl
theorem X9_turns_3_3 : iWp d mX9_turns 3 [a0, a1, a2] (.int 3 :: st) h Q = iWp d mX9_turns 54 [a0, a1, a2] st h Q := w_lookup dX9_turns_3 rfl rfl rfl
theorem X9_turns_3_d (hx : x.toInt ≠ 0 ∧ x.toInt ≠ 3) : iWp d mX9_turns 3 [a0, a1, a2] (.int x :: st) h Q = iWp d mX9_turns 89 [a0, a1, a2] st h Q := w_lookup (o := 86) dX9_turns_3 rfl (by obtain ⟨e0, e1⟩ := hx; simp [Op.lookupswitch.offset, Ne.symm e0, e0, Ne.symm e1, e1]) rfl
theorem X9_turns_28 : iWp d mX9_turns 28 [.ref p, a1, a2] st h Q = iWp d mX9_turns 29 [.ref p, a1, a2] (.ref p :: st) h Q := w_aload_n dX9_turns_28 rfl
theorem X9_turns_29 : iWp d mX9_turns 29 [a0, a1, a2] st h Q = iWp d mX9_turns 30 [a0, a1, a2] (.int 0 :: st) h Q := w_iconst dX9_turns_29 rfl
theorem X9_turns_30 : iWp d mX9_turns 30 [a0, .ref p, a2] st h Q = iWp d mX9_turns 31 [a0, .ref p, a2] (.ref p :: st) h Q := w_aload_n dX9_turns_30 rfl
theorem X9_turns_30n : iWp d mX9_turns 30 [a0, .null, a2] st h Q = iWp d mX9_turns 31 [a0, .null, a2] (.null :: st) h Q := w_aload_nN dX9_turns_30 rfl
theorem X9_turns_31 : iWp d mX9_turns 31 [a0, a1, .int x] st h Q = iWp d mX9_turns 32 [a0, a1, .int x] (.int x :: st) h Q := w_iload_n dX9_turns_31 rfl
theorem X9_turns_32 : iWp d mX9_turns 32 [a0, a1, a2] st h Q = iWp d mX9_turns 33 [a0, a1, a2] (.int 1 :: st) h Q := w_iconst dX9_turns_32 rfl
theorem X9_turns_33 : iWp d mX9_turns 33 [a0, a1, a2] (.int y :: .int x :: st) h Q = iWp d mX9_turns 34 [a0, a1, a2] (.int (x + y) :: st) h Q := w_iadd dX9_turns_33
theorem X9_turns_34 : iWp d mX9_turns 34 [a0, a1, a2] (.int x :: .ref p :: st) h Q = iOb (iLdI h p x) (fun v => iWp d mX9_turns 35 [a0, a1, a2] (.int v :: st) h Q) := w_iaload dX9_turns_34
theorem X9_turns_35 : iWp d mX9_turns 35 [a0, .ref p, a2] st h Q = iWp d mX9_turns 36 [a0, .ref p, a2] (.ref p :: st) h Q := w_aload_n dX9_turns_35 rfl
theorem X9_turns_35n : iWp d mX9_turns 35 [a0, .null, a2] st h Q = iWp d mX9_turns 36 [a0, .null, a2] (.null :: st) h Q := w_aload_nN dX9_turns_35 rfl
theorem X9_turns_36 : iWp d mX9_turns 36 [a0, a1, .int x] st h Q = iWp d mX9_turns 37 [a0, a1, .int x] (.int x :: st) h Q := w_iload_n dX9_turns_36 rfl
theorem X9_turns_37 : iWp d mX9_turns 37 [a0, a1, a2] st h Q = iWp d mX9_turns 38 [a0, a1, a2] (.int 3 :: st) h Q := w_iconst dX9_turns_37 rfl
theorem X9_turns_38 : iWp d mX9_turns 38 [a0, a1, a2] (.int y :: .int x :: st) h Q = iWp d mX9_turns 39 [a0, a1, a2] (.int (x + y) :: st) h Q := w_iadd dX9_turns_38
theorem X9_turns_39 : iWp d mX9_turns 39 [a0, a1, a2] (.int x :: .ref p :: st) h Q = iOb (iLdI h p x) (fun v => iWp d mX9_turns 40 [a0, a1, a2] (.int v :: st) h Q) := w_iaload dX9_turns_39
theorem X9_turns_40 : iWp d mX9_turns 40 [a0, .ref p, a2] st h Q = iWp d mX9_turns 41 [a0, .ref p, a2] (.ref p :: st) h Q := w_aload_n dX9_turns_40 rfl
theorem X9_turns_40n : iWp d mX9_turns 40 [a0, .null, a2] st h Q = iWp d mX9_turns 41 [a0, .null, a2] (.null :: st) h Q := w_aload_nN dX9_turns_40 rfl
theorem X9_turns_41 : iWp d mX9_turns 41 [a0, a1, .int x] st h Q = iWp d mX9_turns 42 [a0, a1, .int x] (.int x :: st) h Q := w_iload_n dX9_turns_41 rfl
theorem X9_turns_42 : iWp d mX9_turns 42 [a0, a1, a2] st h Q = iWp d mX9_turns 43 [a0, a1, a2] (.int 2 :: st) h Q := w_iconst dX9_turns_42 rfl
theorem X9_turns_43 : iWp d mX9_turns 43 [a0, a1, a2] (.int y :: .int x :: st) h Q = iWp d mX9_turns 44 [a0, a1, a2] (.int (x + y) :: st) h Q := w_iadd dX9_turns_43
theorem X9_turns_44 : iWp d mX9_turns 44 [a0, a1, a2] (.int x :: .ref p :: st) h Q = iOb (iLdI h p x) (fun v => iWp d mX9_turns 45 [a0, a1, a2] (.int v :: st) h Q) := w_iaload dX9_turns_44
theorem X9_turns_45 : iWp d mX9_turns 45 [a0, a1, a2] st h Q = iWp d mX9_turns 46 [a0, a1, a2] (.int 0 :: st) h Q := w_iconst dX9_turns_45 rfl
theorem X9_turns_46 : iWp d mX9_turns 46 [a0, a1, a2] st h Q = iWp d mX9_turns 47 [a0, a1, a2] (.int 0 :: st) h Q := w_iconst dX9_turns_46 rfl
theorem X9_turns_47 : iWp d mX9_turns 47 [a0, a1, a2] st h Q = iWp d mX9_turns 48 [a0, a1, a2] (.int 0 :: st) h Q := w_iconst dX9_turns_47 rfl
theorem X9_turns_48 (he : iEv mX9_makes [.ref p, .int x0, .int x1, .int x2, .int x3, .int x4, .int x5, .int x6] h none h2) (ho : iObj h p 9 = true) : iWp 2 mX9_turns 48 [a0, a1, a2] [.int x6, .int x5, .int x4, .int x3, .int x2, .int x1, .int x0, .ref p] h Q = iWp 2 mX9_turns 51 [a0, a1, a2] [] h2 Q := iWp_cV dX9_turns_48 fK_9_203 rfl rfl ho (Nat.le_of_ble_eq_true rfl) (Nat.le_of_ble_eq_true rfl) rfl (Nat.le_of_ble_eq_true rfl) he rfl
theorem X9_turns_51 : iWp d mX9_turns 51 [a0, a1, a2] st h Q = iWp d mX9_turns 127 [a0, a1, a2] st h Q := w_goto dX9_turns_51 rfl
theorem X9_turns_54 : iWp d mX9_turns 54 [.ref p, a1, a2] st h Q = iWp d mX9_turns 55 [.ref p, a1, a2] (.ref p :: st) h Q := w_aload_n dX9_turns_54 rfl
theorem X9_turns_55 : iWp d mX9_turns 55 [a0, a1, a2] st h Q = iWp d mX9_turns 56 [a0, a1, a2] (.int 3 :: st) h Q := w_iconst dX9_turns_55 rfl
theorem X9_turns_56 : iWp d mX9_turns 56 [a0, .ref p, a2] st h Q = iWp d mX9_turns 57 [a0, .ref p, a2] (.ref p :: st) h Q := w_aload_n dX9_turns_56 rfl
theorem X9_turns_56n : iWp d mX9_turns 56 [a0, .null, a2] st h Q = iWp d mX9_turns 57 [a0, .null, a2] (.null :: st) h Q := w_aload_nN dX9_turns_56 rfl
theorem X9_turns_57 : iWp d mX9_turns 57 [a0, a1, .int x] st h Q = iWp d mX9_turns 58 [a0, a1, .int x] (.int x :: st) h Q := w_iload_n dX9_turns_57 rfl
theorem X9_turns_58 : iWp d mX9_turns 58 [a0, a1, a2] st h Q = iWp d mX9_turns 59 [a0, a1, a2] (.int 1 :: st) h Q := w_iconst dX9_turns_58 rfl
theorem X9_turns_59 : iWp d mX9_turns 59 [a0, a1, a2] (.int y :: .int x :: st) h Q = iWp d mX9_turns 60 [a0, a1, a2] (.int (x + y) :: st) h Q := w_iadd dX9_turns_59
theorem X9_turns_60 : iWp d mX9_turns 60 [a0, a1, a2] (.int x :: .ref p :: st) h Q = iOb (iLdI h p x) (fun v => iWp d mX9_turns 61 [a0, a1, a2] (.int v :: st) h Q) := w_iaload dX9_turns_60
theorem X9_turns_61 : iWp d mX9_turns 61 [a0, a1, a2] st h Q = iWp d mX9_turns 62 [a0, a1, a2] (.int 0 :: st) h Q := w_iconst dX9_turns_61 rfl
theorem X9_turns_62 : iWp d mX9_turns 62 [a0, .ref p, a2] st h Q = iWp d mX9_turns 63 [a0, .ref p, a2] (.ref p :: st) h Q := w_aload_n dX9_turns_62 rfl
theorem X9_turns_62n : iWp d mX9_turns 62 [a0, .null, a2] st h Q = iWp d mX9_turns 63 [a0, .null, a2] (.null :: st) h Q := w_aload_nN dX9_turns_62 rfl
theorem X9_turns_63 : iWp d mX9_turns 63 [a0, a1, .int x] st h Q = iWp d mX9_turns 64 [a0, a1, .int x] (.int x :: st) h Q := w_iload_n dX9_turns_63 rfl
theorem X9_turns_64 : iWp d mX9_turns 64 [a0, a1, a2] st h Q = iWp d mX9_turns 65 [a0, a1, a2] (.int 5 :: st) h Q := w_iconst dX9_turns_64 rfl
theorem X9_turns_65 : iWp d mX9_turns 65 [a0, a1, a2] (.int y :: .int x :: st) h Q = iWp d mX9_turns 66 [a0, a1, a2] (.int (x + y) :: st) h Q := w_iadd dX9_turns_65
theorem X9_turns_66 : iWp d mX9_turns 66 [a0, a1, a2] (.int x :: .ref p :: st) h Q = iOb (iLdI h p x) (fun v => iWp d mX9_turns 67 [a0, a1, a2] (.int v :: st) h Q) := w_iaload dX9_turns_66
theorem X9_turns_67 : iWp d mX9_turns 67 [a0, .ref p, a2] st h Q = iWp d mX9_turns 68 [a0, .ref p, a2] (.ref p :: st) h Q := w_aload_n dX9_turns_67 rfl
theorem X9_turns_67n : iWp d mX9_turns 67 [a0, .null, a2] st h Q = iWp d mX9_turns 68 [a0, .null, a2] (.null :: st) h Q := w_aload_nN dX9_turns_67 rfl
theorem X9_turns_68 : iWp d mX9_turns 68 [a0, a1, .int x] st h Q = iWp d mX9_turns 69 [a0, a1, .int x] (.int x :: st) h Q := w_iload_n dX9_turns_68 rfl
theorem X9_turns_69 : iWp d mX9_turns 69 [a0, a1, a2] st h Q = iWp d mX9_turns 71 [a0, a1, a2] (.int 6 :: st) h Q := w_bipush dX9_turns_69 rfl
theorem X9_turns_71 : iWp d mX9_turns 71 [a0, a1, a2] (.int y :: .int x :: st) h Q = iWp d mX9_turns 72 [a0, a1, a2] (.int (x + y) :: st) h Q := w_iadd dX9_turns_71
theorem X9_turns_72 : iWp d mX9_turns 72 [a0, a1, a2] (.int x :: .ref p :: st) h Q = iOb (iLdI h p x) (fun v => iWp d mX9_turns 73 [a0, a1, a2] (.int v :: st) h Q) := w_iaload dX9_turns_72
theorem X9_turns_73 : iWp d mX9_turns 73 [a0, .ref p, a2] st h Q = iWp d mX9_turns 74 [a0, .ref p, a2] (.ref p :: st) h Q := w_aload_n dX9_turns_73 rfl
theorem X9_turns_73n : iWp d mX9_turns 73 [a0, .null, a2] st h Q = iWp d mX9_turns 74 [a0, .null, a2] (.null :: st) h Q := w_aload_nN dX9_turns_73 rfl
theorem X9_turns_74 : iWp d mX9_turns 74 [a0, a1, .int x] st h Q = iWp d mX9_turns 75 [a0, a1, .int x] (.int x :: st) h Q := w_iload_n dX9_turns_74 rfl
theorem X9_turns_75 : iWp d mX9_turns 75 [a0, a1, a2] st h Q = iWp d mX9_turns 76 [a0, a1, a2] (.int 3 :: st) h Q := w_iconst dX9_turns_75 rfl
theorem X9_turns_76 : iWp d mX9_turns 76 [a0, a1, a2] (.int y :: .int x :: st) h Q = iWp d mX9_turns 77 [a0, a1, a2] (.int (x + y) :: st) h Q := w_iadd dX9_turns_76
theorem X9_turns_77 : iWp d mX9_turns 77 [a0, a1, a2] (.int x :: .ref p :: st) h Q = iOb (iLdI h p x) (fun v => iWp d mX9_turns 78 [a0, a1, a2] (.int v :: st) h Q) := w_iaload dX9_turns_77
theorem X9_turns_78 : iWp d mX9_turns 78 [a0, .ref p, a2] st h Q = iWp d mX9_turns 79 [a0, .ref p, a2] (.ref p :: st) h Q := w_aload_n dX9_turns_78 rfl
theorem X9_turns_78n : iWp d mX9_turns 78 [a0, .null, a2] st h Q = iWp d mX9_turns 79 [a0, .null, a2] (.null :: st) h Q := w_aload_nN dX9_turns_78 rfl
theorem X9_turns_79 : iWp d mX9_turns 79 [a0, a1, .int x] st h Q = iWp d mX9_turns 80 [a0, a1, .int x] (.int x :: st) h Q := w_iload_n dX9_turns_79 rfl
theorem X9_turns_80 : iWp d mX9_turns 80 [a0, a1, a2] st h Q = iWp d mX9_turns 81 [a0, a1, a2] (.int 4 :: st) h Q := w_iconst dX9_turns_80 rfl
theorem X9_turns_81 : iWp d mX9_turns 81 [a0, a1, a2] (.int y :: .int x :: st) h Q = iWp d mX9_turns 82 [a0, a1, a2] (.int (x + y) :: st) h Q := w_iadd dX9_turns_81
theorem X9_turns_82 : iWp d mX9_turns 82 [a0, a1, a2] (.int x :: .ref p :: st) h Q = iOb (iLdI h p x) (fun v => iWp d mX9_turns 83 [a0, a1, a2] (.int v :: st) h Q) := w_iaload dX9_turns_82
theorem X9_turns_83 (he : iEv mX9_makes [.ref p, .int x0, .int x1, .int x2, .int x3, .int x4, .int x5, .int x6] h none h2) (ho : iObj h p 9 = true) : iWp 2 mX9_turns 83 [a0, a1, a2] [.int x6, .int x5, .int x4, .int x3, .int x2, .int x1, .int x0, .ref p] h Q = iWp 2 mX9_turns 86 [a0, a1, a2] [] h2 Q := iWp_cV dX9_turns_83 fK_9_203 rfl rfl ho (Nat.le_of_ble_eq_true rfl) (Nat.le_of_ble_eq_true rfl) rfl (Nat.le_of_ble_eq_true rfl) he rfl
theorem X9_turns_86 : iWp d mX9_turns 86 [a0, a1, a2] st h Q = iWp d mX9_turns 127 [a0, a1, a2] st h Q := w_goto dX9_turns_86 rfl
theorem X9_turns_89 : iWp d mX9_turns 89 [.ref p, a1, a2] st h Q = iWp d mX9_turns 90 [.ref p, a1, a2] (.ref p :: st) h Q := w_aload_n dX9_turns_89 rfl
theorem X9_turns_90 : iWp d mX9_turns 90 [a0, .ref p, a2] st h Q = iWp d mX9_turns 91 [a0, .ref p, a2] (.ref p :: st) h Q := w_aload_n dX9_turns_90 rfl
theorem X9_turns_90n : iWp d mX9_turns 90 [a0, .null, a2] st h Q = iWp d mX9_turns 91 [a0, .null, a2] (.null :: st) h Q := w_aload_nN dX9_turns_90 rfl
theorem X9_turns_91 : iWp d mX9_turns 91 [a0, a1, .int x] st h Q = iWp d mX9_turns 92 [a0, a1, .int x] (.int x :: st) h Q := w_iload_n dX9_turns_91 rfl
theorem X9_turns_92 : iWp d mX9_turns 92 [a0, a1, a2] (.int x :: .ref p :: st) h Q = iOb (iLdI h p x) (fun v => iWp d mX9_turns 93 [a0, a1, a2] (.int v :: st) h Q) := w_iaload dX9_turns_92
theorem X9_turns_93 : iWp d mX9_turns 93 [a0, a1, a2] st h Q = iWp d mX9_turns 94 [a0, a1, a2] (.int 1 :: st) h Q := w_iconst dX9_turns_93 rfl
theorem X9_turns_94 : iWp d mX9_turns 94 [a0, a1, a2] (.int y :: .int x :: st) h Q = if x = y then iWp d mX9_turns 97 [a0, a1, a2] st h Q else iWp d mX9_turns 101 [a0, a1, a2] st h Q := w_icmp_ne dX9_turns_94 rfl
theorem X9_turns_97 : iWp d mX9_turns 97 [a0, a1, a2] st h Q = iWp d mX9_turns 98 [a0, a1, a2] (.int 2 :: st) h Q := w_iconst dX9_turns_97 rfl
theorem X9_turns_98 : iWp d mX9_turns 98 [a0, a1, a2] st h Q = iWp d mX9_turns 102 [a0, a1, a2] st h Q := w_goto dX9_turns_98 rfl
theorem X9_turns_101 : iWp d mX9_turns 101 [a0, a1, a2] st h Q = iWp d mX9_turns 102 [a0, a1, a2] (.int 1 :: st) h Q := w_iconst dX9_turns_101 rfl
theorem X9_turns_102 : iWp d mX9_turns 102 [a0, .ref p, a2] st h Q = iWp d mX9_turns 103 [a0, .ref p, a2] (.ref p :: st) h Q := w_aload_n dX9_turns_102 rfl
theorem X9_turns_102n : iWp d mX9_turns 102 [a0, .null, a2] st h Q = iWp d mX9_turns 103 [a0, .null, a2] (.null :: st) h Q := w_aload_nN dX9_turns_102 rfl
theorem X9_turns_103 : iWp d mX9_turns 103 [a0, a1, .int x] st h Q = iWp d mX9_turns 104 [a0, a1, .int x] (.int x :: st) h Q := w_iload_n dX9_turns_103 rfl
theorem X9_turns_104 : iWp d mX9_turns 104 [a0, a1, a2] st h Q = iWp d mX9_turns 105 [a0, a1, a2] (.int 1 :: st) h Q := w_iconst dX9_turns_104 rfl
theorem X9_turns_105 : iWp d mX9_turns 105 [a0, a1, a2] (.int y :: .int x :: st) h Q = iWp d mX9_turns 106 [a0, a1, a2] (.int (x + y) :: st) h Q := w_iadd dX9_turns_105
theorem X9_turns_106 : iWp d mX9_turns 106 [a0, a1, a2] (.int x :: .ref p :: st) h Q = iOb (iLdI h p x) (fun v => iWp d mX9_turns 107 [a0, a1, a2] (.int v :: st) h Q) := w_iaload dX9_turns_106
theorem X9_turns_107 : iWp d mX9_turns 107 [a0, .ref p, a2] st h Q = iWp d mX9_turns 108 [a0, .ref p, a2] (.ref p :: st) h Q := w_aload_n dX9_turns_107 rfl
theorem X9_turns_107n : iWp d mX9_turns 107 [a0, .null, a2] st h Q = iWp d mX9_turns 108 [a0, .null, a2] (.null :: st) h Q := w_aload_nN dX9_turns_107 rfl
theorem X9_turns_108 : iWp d mX9_turns 108 [a0, a1, .int x] st h Q = iWp d mX9_turns 109 [a0, a1, .int x] (.int x :: st) h Q := w_iload_n dX9_turns_108 rfl
theorem X9_turns_109 : iWp d mX9_turns 109 [a0, a1, a2] st h Q = iWp d mX9_turns 110 [a0, a1, a2] (.int 2 :: st) h Q := w_iconst dX9_turns_109 rfl
theorem X9_turns_110 : iWp d mX9_turns 110 [a0, a1, a2] (.int y :: .int x :: st) h Q = iWp d mX9_turns 111 [a0, a1, a2] (.int (x + y) :: st) h Q := w_iadd dX9_turns_110
theorem X9_turns_111 : iWp d mX9_turns 111 [a0, a1, a2] (.int x :: .ref p :: st) h Q = iOb (iLdI h p x) (fun v => iWp d mX9_turns 112 [a0, a1, a2] (.int v :: st) h Q) := w_iaload dX9_turns_111
theorem X9_turns_112 : iWp d mX9_turns 112 [a0, .ref p, a2] st h Q = iWp d mX9_turns 113 [a0, .ref p, a2] (.ref p :: st) h Q := w_aload_n dX9_turns_112 rfl
theorem X9_turns_112n : iWp d mX9_turns 112 [a0, .null, a2] st h Q = iWp d mX9_turns 113 [a0, .null, a2] (.null :: st) h Q := w_aload_nN dX9_turns_112 rfl
theorem X9_turns_113 : iWp d mX9_turns 113 [a0, a1, .int x] st h Q = iWp d mX9_turns 114 [a0, a1, .int x] (.int x :: st) h Q := w_iload_n dX9_turns_113 rfl
theorem X9_turns_114 : iWp d mX9_turns 114 [a0, a1, a2] st h Q = iWp d mX9_turns 115 [a0, a1, a2] (.int 3 :: st) h Q := w_iconst dX9_turns_114 rfl
theorem X9_turns_115 : iWp d mX9_turns 115 [a0, a1, a2] (.int y :: .int x :: st) h Q = iWp d mX9_turns 116 [a0, a1, a2] (.int (x + y) :: st) h Q := w_iadd dX9_turns_115
theorem X9_turns_116 : iWp d mX9_turns 116 [a0, a1, a2] (.int x :: .ref p :: st) h Q = iOb (iLdI h p x) (fun v => iWp d mX9_turns 117 [a0, a1, a2] (.int v :: st) h Q) := w_iaload dX9_turns_116
theorem X9_turns_117 : iWp d mX9_turns 117 [a0, .ref p, a2] st h Q = iWp d mX9_turns 118 [a0, .ref p, a2] (.ref p :: st) h Q := w_aload_n dX9_turns_117 rfl
theorem X9_turns_117n : iWp d mX9_turns 117 [a0, .null, a2] st h Q = iWp d mX9_turns 118 [a0, .null, a2] (.null :: st) h Q := w_aload_nN dX9_turns_117 rfl
theorem X9_turns_118 : iWp d mX9_turns 118 [a0, a1, .int x] st h Q = iWp d mX9_turns 119 [a0, a1, .int x] (.int x :: st) h Q := w_iload_n dX9_turns_118 rfl
theorem X9_turns_119 : iWp d mX9_turns 119 [a0, a1, a2] st h Q = iWp d mX9_turns 120 [a0, a1, a2] (.int 4 :: st) h Q := w_iconst dX9_turns_119 rfl
theorem X9_turns_120 : iWp d mX9_turns 120 [a0, a1, a2] (.int y :: .int x :: st) h Q = iWp d mX9_turns 121 [a0, a1, a2] (.int (x + y) :: st) h Q := w_iadd dX9_turns_120
theorem X9_turns_121 : iWp d mX9_turns 121 [a0, a1, a2] (.int x :: .ref p :: st) h Q = iOb (iLdI h p x) (fun v => iWp d mX9_turns 122 [a0, a1, a2] (.int v :: st) h Q) := w_iaload dX9_turns_121
theorem X9_turns_122 : iWp d mX9_turns 122 [a0, a1, a2] st h Q = iWp d mX9_turns 123 [a0, a1, a2] (.int 0 :: st) h Q := w_iconst dX9_turns_122 rfl
theorem X9_turns_123 : iWp d mX9_turns 123 [a0, a1, a2] st h Q = iWp d mX9_turns 124 [a0, a1, a2] (.int 0 :: st) h Q := w_iconst dX9_turns_123 rfl
theorem X9_turns_124 (he : iEv mX9_makes [.ref p, .int x0, .int x1, .int x2, .int x3, .int x4, .int x5, .int x6] h none h2) (ho : iObj h p 9 = true) : iWp 2 mX9_turns 124 [a0, a1, a2] [.int x6, .int x5, .int x4, .int x3, .int x2, .int x1, .int x0, .ref p] h Q = iWp 2 mX9_turns 127 [a0, a1, a2] [] h2 Q := iWp_cV dX9_turns_124 fK_9_203 rfl rfl ho (Nat.le_of_ble_eq_true rfl) (Nat.le_of_ble_eq_true rfl) rfl (Nat.le_of_ble_eq_true rfl) he rfl
theorem X9_turns_127 : iWp d mX9_turns 127 [a0, a1, a2] [] h Q = Q none h := w_ret dX9_turns_127 rfl
theorem I9_turns {Q : Option Value → iHp → Prop} (c0 : b0.category = 1) (hw : iWp 2 mX9_turns 0 [.ref p, b0, .int x1] [] h Q) : ∃ r h1, iEv mX9_turns [.ref p, b0, .int x1] h r h1 ∧ Q r h1 := iEv_of (by rfl) (by simp [iInit, cat_i, cat_r, cat_l, mX9_turns, c0]) hw
theorem J9_turns {r : Option Value} {h1 : iHp} (c0 : b0.category = 1) (hw : iWp 2 mX9_turns 0 [.ref p, b0, .int x1] [] h (fun r' h' => r' = r ∧ h' = h1)) : iEv mX9_turns [.ref p, b0, .int x1] h r h1 := iEv_ev (by rfl) (by simp [iInit, cat_i, cat_r, cat_l, mX9_turns, c0]) hw
theorem X9_undoes_0 : iWp d mX9_undoes 0 [.ref p, a1, a2] st h Q = iWp d mX9_undoes 1 [.ref p, a1, a2] (.ref p :: st) h Q := w_aload_n dX9_undoes_0 rfl
theorem X9_undoes_1 : iWp d mX9_undoes 1 [.ref p, a1, a2] st h Q = iWp d mX9_undoes 2 [.ref p, a1, a2] (.ref p :: st) h Q := w_aload_n dX9_undoes_1 rfl
theorem X9_undoes_2 : iWp d mX9_undoes 2 [a0, a1, a2] (.ref p :: st) h Q = iOb (iGet h p 9 26) (fun v => iWp d mX9_undoes 5 [a0, a1, a2] (v :: st) h Q) := w_getf dX9_undoes_2 fF_9_62
theorem X9_undoes_5 : iWp d mX9_undoes 5 [a0, a1, a2] st h Q = iWp d mX9_undoes 7 [a0, a1, a2] (.int 7 :: st) h Q := w_bipush dX9_undoes_5 rfl
theorem X9_undoes_7 : iWp d mX9_undoes 7 [a0, .int x, a2] st h Q = iWp d mX9_undoes 8 [a0, .int x, a2] (.int x :: st) h Q := w_iload_n dX9_undoes_7 rfl
theorem X9_undoes_8 : iWp d mX9_undoes 8 [a0, a1, a2] (.int y :: .int x :: st) h Q = iWp d mX9_undoes 9 [a0, a1, a2] (.int (x * y) :: st) h Q := w_imul dX9_undoes_8
theorem X9_undoes_9 (he : iEv mX9_turns [.ref p, b0, .int x1] h none h2) (ho : iObj h p 9 = true) (c0 : b0.category = 1) : iWp 3 mX9_undoes 9 [a0, a1, a2] [.int x1, b0, .ref p] h Q = iWp 3 mX9_undoes 12 [a0, a1, a2] [] h2 Q := iWp_cV dX9_undoes_9 fK_9_260 rfl rfl ho (Nat.le_of_ble_eq_true rfl) (Nat.le_of_ble_eq_true rfl) (by simp [iInit, cat_i, cat_r, cat_l, mX9_turns, c0]) (Nat.le_of_ble_eq_true rfl) he rfl
theorem X9_undoes_12 : iWp d mX9_undoes 12 [.ref p, a1, a2] st h Q = iWp d mX9_undoes 13 [.ref p, a1, a2] (.ref p :: st) h Q := w_aload_n dX9_undoes_12 rfl
theorem X9_undoes_13 : iWp d mX9_undoes 13 [a0, a1, a2] (.ref p :: st) h Q = iWp d mX9_undoes 14 [a0, a1, a2] (.ref p :: .ref p :: st) h Q := w_dup dX9_undoes_13 rfl
theorem X9_undoes_14 : iWp d mX9_undoes 14 [a0, a1, a2] (.ref p :: st) h Q = iOb (iGet h p 9 25) (fun v => iWp d mX9_undoes 17 [a0, a1, a2] (v :: st) h Q) := w_getf dX9_undoes_14 fF_9_200
theorem X9_undoes_17 : iWp d mX9_undoes 17 [a0, a1, a2] st h Q = iWp d mX9_undoes 18 [a0, a1, a2] (.int 1 :: st) h Q := w_iconst dX9_undoes_17 rfl
theorem X9_undoes_18 : iWp d mX9_undoes 18 [a0, a1, a2] (.int y :: .int x :: st) h Q = iWp d mX9_undoes 19 [a0, a1, a2] (.int (x - y) :: st) h Q := w_isub dX9_undoes_18
theorem X9_undoes_19 : iWp d mX9_undoes 19 [a0, a1, a2] (.int x :: .ref p :: st) h Q = iOb (iPut h p 9 25 (.int x)) (fun g => iWp d mX9_undoes 22 [a0, a1, a2] st g Q) := w_putf dX9_undoes_19 fF_9_200 ⟨rfl, (Or.inl rfl)⟩
theorem X9_undoes_22 : iWp d mX9_undoes 22 [a0, a1, a2] st h Q = iWp d mX9_undoes 23 [a0, a1, a2] (.int 0 :: st) h Q := w_iconst dX9_undoes_22 rfl
theorem X9_undoes_23 : iWp d mX9_undoes 23 [a0, a1, a2] (.int x :: st) h Q = iWp d mX9_undoes 24 [a0, iClr a1, .int x] st h Q := w_istore_n dX9_undoes_23 (Nat.le_of_ble_eq_true rfl) rfl
theorem X9_undoes_24 : iWp d mX9_undoes 24 [a0, a1, .int x] st h Q = iWp d mX9_undoes 25 [a0, a1, .int x] (.int x :: st) h Q := w_iload_n dX9_undoes_24 rfl
theorem X9_undoes_25 : iWp d mX9_undoes 25 [a0, a1, a2] st h Q = iWp d mX9_undoes 27 [a0, a1, a2] (.int 7 :: st) h Q := w_bipush dX9_undoes_25 rfl
theorem X9_undoes_27 : iWp d mX9_undoes 27 [a0, a1, a2] (.int y :: .int x :: st) h Q = if y ≤ x then iWp d mX9_undoes 69 [a0, a1, a2] st h Q else iWp d mX9_undoes 30 [a0, a1, a2] st h Q := w_icmp_ge dX9_undoes_27 rfl
theorem X9_undoes_30 : iWp d mX9_undoes 30 [.ref p, a1, a2] st h Q = iWp d mX9_undoes 31 [.ref p, a1, a2] (.ref p :: st) h Q := w_aload_n dX9_undoes_30 rfl
theorem X9_undoes_31 : iWp d mX9_undoes 31 [a0, a1, a2] (.ref p :: st) h Q = iOb (iGet h p 9 26) (fun v => iWp d mX9_undoes 34 [a0, a1, a2] (v :: st) h Q) := w_getf dX9_undoes_31 fF_9_62
theorem X9_undoes_34 : iWp d mX9_undoes 34 [a0, a1, a2] st h Q = iWp d mX9_undoes 36 [a0, a1, a2] (.int 7 :: st) h Q := w_bipush dX9_undoes_34 rfl
theorem X9_undoes_36 : iWp d mX9_undoes 36 [.ref p, a1, a2] st h Q = iWp d mX9_undoes 37 [.ref p, a1, a2] (.ref p :: st) h Q := w_aload_n dX9_undoes_36 rfl
theorem X9_undoes_37 : iWp d mX9_undoes 37 [a0, a1, a2] (.ref p :: st) h Q = iOb (iGet h p 9 25) (fun v => iWp d mX9_undoes 40 [a0, a1, a2] (v :: st) h Q) := w_getf dX9_undoes_37 fF_9_200
theorem X9_undoes_40 : iWp d mX9_undoes 40 [a0, a1, a2] (.int y :: .int x :: st) h Q = iWp d mX9_undoes 41 [a0, a1, a2] (.int (x * y) :: st) h Q := w_imul dX9_undoes_40
theorem X9_undoes_41 : iWp d mX9_undoes 41 [a0, a1, .int x] st h Q = iWp d mX9_undoes 42 [a0, a1, .int x] (.int x :: st) h Q := w_iload_n dX9_undoes_41 rfl
theorem X9_undoes_42 : iWp d mX9_undoes 42 [a0, a1, a2] (.int y :: .int x :: st) h Q = iWp d mX9_undoes 43 [a0, a1, a2] (.int (x + y) :: st) h Q := w_iadd dX9_undoes_42
theorem X9_undoes_43 : iWp d mX9_undoes 43 [a0, a1, a2] (.int x :: .ref p :: st) h Q = iOb (iLdI h p x) (fun v => iWp d mX9_undoes 44 [a0, a1, a2] (.int v :: st) h Q) := w_iaload dX9_undoes_43
theorem X9_undoes_44 : iWp d mX9_undoes 44 [.ref p, a1, a2] st h Q = iWp d mX9_undoes 45 [.ref p, a1, a2] (.ref p :: st) h Q := w_aload_n dX9_undoes_44 rfl
theorem X9_undoes_45 : iWp d mX9_undoes 45 [a0, a1, a2] (.ref p :: st) h Q = iOb (iGet h p 9 26) (fun v => iWp d mX9_undoes 48 [a0, a1, a2] (v :: st) h Q) := w_getf dX9_undoes_45 fF_9_62
theorem X9_undoes_48 : iWp d mX9_undoes 48 [a0, a1, a2] st h Q = iWp d mX9_undoes 50 [a0, a1, a2] (.int 7 :: st) h Q := w_bipush dX9_undoes_48 rfl
theorem X9_undoes_50 : iWp d mX9_undoes 50 [a0, .int x, a2] st h Q = iWp d mX9_undoes 51 [a0, .int x, a2] (.int x :: st) h Q := w_iload_n dX9_undoes_50 rfl
theorem X9_undoes_51 : iWp d mX9_undoes 51 [a0, a1, a2] (.int y :: .int x :: st) h Q = iWp d mX9_undoes 52 [a0, a1, a2] (.int (x * y) :: st) h Q := w_imul dX9_undoes_51
theorem X9_undoes_52 : iWp d mX9_undoes 52 [a0, a1, a2] st h Q = iWp d mX9_undoes 54 [a0, a1, a2] (.int 7 :: st) h Q := w_bipush dX9_undoes_52 rfl
theorem X9_undoes_54 : iWp d mX9_undoes 54 [a0, a1, a2] (.int y :: .int x :: st) h Q = iWp d mX9_undoes 55 [a0, a1, a2] (.int (x + y) :: st) h Q := w_iadd dX9_undoes_54
theorem X9_undoes_55 : iWp d mX9_undoes 55 [a0, a1, .int x] st h Q = iWp d mX9_undoes 56 [a0, a1, .int x] (.int x :: st) h Q := w_iload_n dX9_undoes_55 rfl
theorem X9_undoes_56 : iWp d mX9_undoes 56 [a0, a1, a2] (.int y :: .int x :: st) h Q = iWp d mX9_undoes 57 [a0, a1, a2] (.int (x + y) :: st) h Q := w_iadd dX9_undoes_56
theorem X9_undoes_57 : iWp d mX9_undoes 57 [a0, a1, a2] (.int x :: .ref p :: st) h Q = iOb (iLdI h p x) (fun v => iWp d mX9_undoes 58 [a0, a1, a2] (.int v :: st) h Q) := w_iaload dX9_undoes_57
theorem X9_undoes_58 : iWp d mX9_undoes 58 [a0, a1, a2] (.int y :: .int x :: st) h Q = if x = y then iWp d mX9_undoes 63 [a0, a1, a2] st h Q else iWp d mX9_undoes 61 [a0, a1, a2] st h Q := w_icmp_eq dX9_undoes_58 rfl
theorem X9_undoes_61 : iWp d mX9_undoes 61 [a0, a1, a2] st h Q = iWp d mX9_undoes 62 [a0, a1, a2] (.int 0 :: st) h Q := w_iconst dX9_undoes_61 rfl
theorem X9_undoes_62 : iWp d mX9_undoes 62 [a0, a1, a2] [.int (iB b)] h Q = Q (some (.int (iB b))) h := w_iretb dX9_undoes_62 rfl
theorem X9_undoes_62z : iWp d mX9_undoes 62 [a0, a1, a2] [.int 0] h Q = Q (some (.int (iB false))) h := w_iretb (bb := false) dX9_undoes_62 rfl
theorem X9_undoes_62o : iWp d mX9_undoes 62 [a0, a1, a2] [.int 1] h Q = Q (some (.int (iB true))) h := w_iretb (bb := true) dX9_undoes_62 rfl
theorem X9_undoes_63 : iWp d mX9_undoes 63 [a0, a1, .int x] st h Q = iWp d mX9_undoes 66 [a0, iClr a1, .int (x + 1)] st h Q := w_iinc dX9_undoes_63 rfl (Nat.le_of_ble_eq_true rfl) rfl
theorem X9_undoes_66 : iWp d mX9_undoes 66 [a0, a1, a2] st h Q = iWp d mX9_undoes 24 [a0, a1, a2] st h Q := w_goto dX9_undoes_66 rfl
theorem X9_undoes_69 : iWp d mX9_undoes 69 [a0, a1, a2] st h Q = iWp d mX9_undoes 70 [a0, a1, a2] (.int 1 :: st) h Q := w_iconst dX9_undoes_69 rfl
theorem X9_undoes_70 : iWp d mX9_undoes 70 [a0, a1, a2] [.int (iB b)] h Q = Q (some (.int (iB b))) h := w_iretb dX9_undoes_70 rfl
theorem X9_undoes_70z : iWp d mX9_undoes 70 [a0, a1, a2] [.int 0] h Q = Q (some (.int (iB false))) h := w_iretb (bb := false) dX9_undoes_70 rfl
theorem X9_undoes_70o : iWp d mX9_undoes 70 [a0, a1, a2] [.int 1] h Q = Q (some (.int (iB true))) h := w_iretb (bb := true) dX9_undoes_70 rfl
theorem I9_undoes {Q : Option Value → iHp → Prop} (hw : iWp 3 mX9_undoes 0 [.ref p, .int x0, iU] [] h Q) : ∃ r h1, iEv mX9_undoes [.ref p, .int x0] h r h1 ∧ Q r h1 := iEv_of (by rfl) rfl hw
theorem J9_undoes {r : Option Value} {h1 : iHp} (hw : iWp 3 mX9_undoes 0 [.ref p, .int x0, iU] [] h (fun r' h' => r' = r ∧ h' = h1)) : iEv mX9_undoes [.ref p, .int x0] h r h1 := iEv_ev (by rfl) rfl hw
theorem X9_vanish_0 : iWp d mX9_vanish 0 [.ref p, a1, a2, a3] st h Q = iWp d mX9_vanish 1 [.ref p, a1, a2, a3] (.ref p :: st) h Q := w_aload_n dX9_vanish_0 rfl
theorem X9_vanish_1 : iWp d mX9_vanish 1 [a0, a1, a2, a3] (.ref p :: st) h Q = iWp d mX9_vanish 2 [a0, a1, a2, a3] (.ref p :: .ref p :: st) h Q := w_dup dX9_vanish_1 rfl
theorem X9_vanish_2 : iWp d mX9_vanish 2 [a0, a1, a2, a3] (.ref p :: st) h Q = iOb (iGet h p 9 25) (fun v => iWp d mX9_vanish 5 [a0, a1, a2, a3] (v :: st) h Q) := w_getf dX9_vanish_2 fF_9_200
theorem X9_vanish_5 : iWp d mX9_vanish 5 [a0, a1, .int x, a3] st h Q = iWp d mX9_vanish 6 [a0, a1, .int x, a3] (.int x :: st) h Q := w_iload_n dX9_vanish_5 rfl
theorem X9_vanish_6 : iWp d mX9_vanish 6 [a0, a1, a2, a3] (.int y :: .int x :: st) h Q = iWp d mX9_vanish 7 [a0, a1, a2, a3] (.int (x - y) :: st) h Q := w_isub dX9_vanish_6
theorem X9_vanish_7 : iWp d mX9_vanish 7 [a0, a1, a2, a3] (.int x :: .ref p :: st) h Q = iOb (iPut h p 9 25 (.int x)) (fun g => iWp d mX9_vanish 10 [a0, a1, a2, a3] st g Q) := w_putf dX9_vanish_7 fF_9_200 ⟨rfl, (Or.inl rfl)⟩
theorem X9_vanish_10 : iWp d mX9_vanish 10 [a0, a1, a2, a3] st h Q = iWp d mX9_vanish 12 [a0, a1, a2, a3] (.int 7 :: st) h Q := w_bipush dX9_vanish_10 rfl
theorem X9_vanish_12 : iWp d mX9_vanish 12 [a0, .int x, a2, a3] st h Q = iWp d mX9_vanish 13 [a0, .int x, a2, a3] (.int x :: st) h Q := w_iload_n dX9_vanish_12 rfl
theorem X9_vanish_13 : iWp d mX9_vanish 13 [a0, a1, a2, a3] (.int y :: .int x :: st) h Q = iWp d mX9_vanish 14 [a0, a1, a2, a3] (.int (x * y) :: st) h Q := w_imul dX9_vanish_13
theorem X9_vanish_14 : iWp d mX9_vanish 14 [a0, a1, a2, a3] (.int x :: st) h Q = iWp d mX9_vanish 15 [a0, a1, iClr a2, .int x] st h Q := w_istore_n dX9_vanish_14 (Nat.le_of_ble_eq_true rfl) rfl
theorem X9_vanish_15 : iWp d mX9_vanish 15 [a0, a1, a2, .int x] st h Q = iWp d mX9_vanish 16 [a0, a1, a2, .int x] (.int x :: st) h Q := w_iload_n dX9_vanish_15 rfl
theorem X9_vanish_16 : iWp d mX9_vanish 16 [a0, a1, a2, a3] st h Q = iWp d mX9_vanish 18 [a0, a1, a2, a3] (.int 7 :: st) h Q := w_bipush dX9_vanish_16 rfl
theorem X9_vanish_18 : iWp d mX9_vanish 18 [.ref p, a1, a2, a3] st h Q = iWp d mX9_vanish 19 [.ref p, a1, a2, a3] (.ref p :: st) h Q := w_aload_n dX9_vanish_18 rfl
theorem X9_vanish_19 : iWp d mX9_vanish 19 [a0, a1, a2, a3] (.ref p :: st) h Q = iOb (iGet h p 9 25) (fun v => iWp d mX9_vanish 22 [a0, a1, a2, a3] (v :: st) h Q) := w_getf dX9_vanish_19 fF_9_200
theorem X9_vanish_22 : iWp d mX9_vanish 22 [a0, a1, a2, a3] (.int y :: .int x :: st) h Q = iWp d mX9_vanish 23 [a0, a1, a2, a3] (.int (x * y) :: st) h Q := w_imul dX9_vanish_22
theorem X9_vanish_23 : iWp d mX9_vanish 23 [a0, a1, a2, a3] (.int y :: .int x :: st) h Q = if y ≤ x then iWp d mX9_vanish 49 [a0, a1, a2, a3] st h Q else iWp d mX9_vanish 26 [a0, a1, a2, a3] st h Q := w_icmp_ge dX9_vanish_23 rfl
theorem X9_vanish_26 : iWp d mX9_vanish 26 [.ref p, a1, a2, a3] st h Q = iWp d mX9_vanish 27 [.ref p, a1, a2, a3] (.ref p :: st) h Q := w_aload_n dX9_vanish_26 rfl
theorem X9_vanish_27 : iWp d mX9_vanish 27 [a0, a1, a2, a3] (.ref p :: st) h Q = iOb (iGet h p 9 26) (fun v => iWp d mX9_vanish 30 [a0, a1, a2, a3] (v :: st) h Q) := w_getf dX9_vanish_27 fF_9_62
theorem X9_vanish_30 : iWp d mX9_vanish 30 [a0, a1, a2, .int x] st h Q = iWp d mX9_vanish 31 [a0, a1, a2, .int x] (.int x :: st) h Q := w_iload_n dX9_vanish_30 rfl
theorem X9_vanish_31 : iWp d mX9_vanish 31 [.ref p, a1, a2, a3] st h Q = iWp d mX9_vanish 32 [.ref p, a1, a2, a3] (.ref p :: st) h Q := w_aload_n dX9_vanish_31 rfl
theorem X9_vanish_32 : iWp d mX9_vanish 32 [a0, a1, a2, a3] (.ref p :: st) h Q = iOb (iGet h p 9 26) (fun v => iWp d mX9_vanish 35 [a0, a1, a2, a3] (v :: st) h Q) := w_getf dX9_vanish_32 fF_9_62
theorem X9_vanish_35 : iWp d mX9_vanish 35 [a0, a1, a2, .int x] st h Q = iWp d mX9_vanish 36 [a0, a1, a2, .int x] (.int x :: st) h Q := w_iload_n dX9_vanish_35 rfl
theorem X9_vanish_36 : iWp d mX9_vanish 36 [a0, a1, a2, a3] st h Q = iWp d mX9_vanish 38 [a0, a1, a2, a3] (.int 7 :: st) h Q := w_bipush dX9_vanish_36 rfl
theorem X9_vanish_38 : iWp d mX9_vanish 38 [a0, a1, .int x, a3] st h Q = iWp d mX9_vanish 39 [a0, a1, .int x, a3] (.int x :: st) h Q := w_iload_n dX9_vanish_38 rfl
theorem X9_vanish_39 : iWp d mX9_vanish 39 [a0, a1, a2, a3] (.int y :: .int x :: st) h Q = iWp d mX9_vanish 40 [a0, a1, a2, a3] (.int (x * y) :: st) h Q := w_imul dX9_vanish_39
theorem X9_vanish_40 : iWp d mX9_vanish 40 [a0, a1, a2, a3] (.int y :: .int x :: st) h Q = iWp d mX9_vanish 41 [a0, a1, a2, a3] (.int (x + y) :: st) h Q := w_iadd dX9_vanish_40
theorem X9_vanish_41 : iWp d mX9_vanish 41 [a0, a1, a2, a3] (.int x :: .ref p :: st) h Q = iOb (iLdI h p x) (fun v => iWp d mX9_vanish 42 [a0, a1, a2, a3] (.int v :: st) h Q) := w_iaload dX9_vanish_41
theorem X9_vanish_42 : iWp d mX9_vanish 42 [a0, a1, a2, a3] (.int y :: .int x :: .ref p :: st) h Q = iOb (iStI h p x y) (fun g => iWp d mX9_vanish 43 [a0, a1, a2, a3] st g Q) := w_iastore dX9_vanish_42
theorem X9_vanish_43 : iWp d mX9_vanish 43 [a0, a1, a2, .int x] st h Q = iWp d mX9_vanish 46 [a0, a1, iClr a2, .int (x + 1)] st h Q := w_iinc dX9_vanish_43 rfl (Nat.le_of_ble_eq_true rfl) rfl
theorem X9_vanish_46 : iWp d mX9_vanish 46 [a0, a1, a2, a3] st h Q = iWp d mX9_vanish 15 [a0, a1, a2, a3] st h Q := w_goto dX9_vanish_46 rfl
theorem X9_vanish_49 : iWp d mX9_vanish 49 [a0, a1, a2, a3] [] h Q = Q none h := w_ret dX9_vanish_49 rfl
theorem I9_vanish {Q : Option Value → iHp → Prop} (hw : iWp 1 mX9_vanish 0 [.ref p, .int x0, .int x1, iU] [] h Q) : ∃ r h1, iEv mX9_vanish [.ref p, .int x0, .int x1] h r h1 ∧ Q r h1 := iEv_of (by rfl) rfl hw
theorem J9_vanish {r : Option Value} {h1 : iHp} (hw : iWp 1 mX9_vanish 0 [.ref p, .int x0, .int x1, iU] [] h (fun r' h' => r' = r ∧ h' = h1)) : iEv mX9_vanish [.ref p, .int x0, .int x1] h r h1 := iEv_ev (by rfl) rfl hw
theorem X9_within_0 : iWp d mX9_within 0 [.int x, a1, a2] st h Q = iWp d mX9_within 1 [.int x, a1, a2] (.int x :: st) h Q := w_iload_n dX9_within_0 rfl
theorem X9_within_1 : iWp d mX9_within 1 [a0, .int x, a2] st h Q = iWp d mX9_within 2 [a0, .int x, a2] (.int x :: st) h Q := w_iload_n dX9_within_1 rfl
theorem X9_within_2 : iWp d mX9_within 2 [a0, a1, a2] (.int y :: .int x :: st) h Q = if x < y then iWp d mX9_within 14 [a0, a1, a2] st h Q else iWp d mX9_within 5 [a0, a1, a2] st h Q := w_icmp_lt dX9_within_2 rfl
theorem X9_within_5 : iWp d mX9_within 5 [.int x, a1, a2] st h Q = iWp d mX9_within 6 [.int x, a1, a2] (.int x :: st) h Q := w_iload_n dX9_within_5 rfl
theorem X9_within_6 : iWp d mX9_within 6 [a0, a1, .int x] st h Q = iWp d mX9_within 7 [a0, a1, .int x] (.int x :: st) h Q := w_iload_n dX9_within_6 rfl
theorem X9_within_7 : iWp d mX9_within 7 [a0, a1, a2] (.int y :: .int x :: st) h Q = if y < x then iWp d mX9_within 14 [a0, a1, a2] st h Q else iWp d mX9_within 10 [a0, a1, a2] st h Q := w_icmp_gt dX9_within_7 rfl
theorem X9_within_10 : iWp d mX9_within 10 [a0, a1, a2] st h Q = iWp d mX9_within 11 [a0, a1, a2] (.int 1 :: st) h Q := w_iconst dX9_within_10 rfl
theorem X9_within_11 : iWp d mX9_within 11 [a0, a1, a2] st h Q = iWp d mX9_within 15 [a0, a1, a2] st h Q := w_goto dX9_within_11 rfl
theorem X9_within_14 : iWp d mX9_within 14 [a0, a1, a2] st h Q = iWp d mX9_within 15 [a0, a1, a2] (.int 0 :: st) h Q := w_iconst dX9_within_14 rfl
theorem X9_within_15 : iWp d mX9_within 15 [a0, a1, a2] [.int (iB b)] h Q = Q (some (.int (iB b))) h := w_iretb dX9_within_15 rfl
theorem X9_within_15z : iWp d mX9_within 15 [a0, a1, a2] [.int 0] h Q = Q (some (.int (iB false))) h := w_iretb (bb := false) dX9_within_15 rfl
theorem X9_within_15o : iWp d mX9_within 15 [a0, a1, a2] [.int 1] h Q = Q (some (.int (iB true))) h := w_iretb (bb := true) dX9_within_15 rfl
theorem I9_within {Q : Option Value → iHp → Prop} (hw : iWp 1 mX9_within 0 [.int x0, .int x1, .int x2] [] h Q) : ∃ r h1, iEv mX9_within [.int x0, .int x1, .int x2] h r h1 ∧ Q r h1 := iEv_of (by rfl) rfl hw
theorem J9_within {r : Option Value} {h1 : iHp} (hw : iWp 1 mX9_within 0 [.int x0, .int x1, .int x2] [] h (fun r' h' => r' = r ∧ h' = h1)) : iEv mX9_within [.int x0, .int x1, .int x2] h r h1 := iEv_ev (by rfl) rfl hw
end XS

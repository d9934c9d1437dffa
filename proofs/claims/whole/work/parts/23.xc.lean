section XS
variable {d : Nat} {a0 a1 a2 a3 a4 a5 a6 a7 a8 a9 a10 a11 a12 a13 b0 b1 b2 b3 rw : Value} {x y z x0 x1 x2 x3 x4 x5 x6 r0 r1 r2 r3 r4 r5 r6 rv : Int32} {u v u0 u1 u2 s0 s1 rl : Int64} {p q t0 t1 t2 t3 t4 t5 t6 : Nat} {b : Bool} {st : List Value} {h h2 : iHp} {Q : Option Value → iHp → Prop}

theorem X8_above_0 : iWp d mX8_above 0 [.ref p, a1, a2, a3, a4, a5, a6] st h Q = iWp d mX8_above 1 [.ref p, a1, a2, a3, a4, a5, a6] (.ref p :: st) h Q := w_aload_n dX8_above_0 rfl
theorem X8_above_1 : iWp d mX8_above 1 [a0, .int x, a2, a3, a4, a5, a6] st h Q = iWp d mX8_above 2 [a0, .int x, a2, a3, a4, a5, a6] (.int x :: st) h Q := w_iload_n dX8_above_1 rfl
theorem X8_above_2 (he : iEv mX8_treeAt [.ref p, .int x0] h (some rw) h2) (ho : iObj h p 8 = true) : iWp 5 mX8_above 2 [a0, a1, a2, a3, a4, a5, a6] [.int x0, .ref p] h Q = iWp 5 mX8_above 5 [a0, a1, a2, a3, a4, a5, a6] [rw] h2 Q := iWp_cV dX8_above_2 fK_8_121 rfl rfl ho (Nat.le_of_ble_eq_true rfl) (Nat.le_of_ble_eq_true rfl) rfl (Nat.le_of_ble_eq_true rfl) he rfl
theorem X8_above_5 : iWp d mX8_above 5 [a0, a1, a2, a3, a4, a5, a6] (.ref p :: st) h Q = iWp d mX8_above 7 [a0, a1, a2, iClr a3, .ref p, a5, a6] st h Q := w_astore dX8_above_5 (Nat.le_of_ble_eq_true rfl) rfl
theorem X8_above_5n : iWp d mX8_above 5 [a0, a1, a2, a3, a4, a5, a6] (.null :: st) h Q = iWp d mX8_above 7 [a0, a1, a2, iClr a3, .null, a5, a6] st h Q := w_astoreN dX8_above_5 (Nat.le_of_ble_eq_true rfl) rfl
theorem X8_above_7 : iWp d mX8_above 7 [a0, a1, a2, a3, .ref p, a5, a6] st h Q = iWp d mX8_above 9 [a0, a1, a2, a3, .ref p, a5, a6] (.ref p :: st) h Q := w_aload dX8_above_7 rfl
theorem X8_above_7n : iWp d mX8_above 7 [a0, a1, a2, a3, .null, a5, a6] st h Q = iWp d mX8_above 9 [a0, a1, a2, a3, .null, a5, a6] (.null :: st) h Q := w_aloadN dX8_above_7 rfl
theorem X8_above_9 : iWp d mX8_above 9 [a0, a1, a2, a3, a4, a5, a6] (.ref p :: st) h Q = iWp d mX8_above 18 [a0, a1, a2, a3, a4, a5, a6] st h Q := w_ifnonnull dX8_above_9 rfl
theorem X8_above_9n : iWp d mX8_above 9 [a0, a1, a2, a3, a4, a5, a6] (.null :: st) h Q = iWp d mX8_above 12 [a0, a1, a2, a3, a4, a5, a6] st h Q := w_ifnonnullN dX8_above_9
theorem X8_above_12 : iWp d mX8_above 12 [.ref p, a1, a2, a3, a4, a5, a6] st h Q = iWp d mX8_above 13 [.ref p, a1, a2, a3, a4, a5, a6] (.ref p :: st) h Q := w_aload_n dX8_above_12 rfl
theorem X8_above_13 : iWp d mX8_above 13 [a0, a1, a2, a3, a4, a5, a6] st h Q = iWp d mX8_above 14 [a0, a1, a2, a3, a4, a5, a6] (.int (-1) :: st) h Q := w_iconst dX8_above_13 rfl
theorem X8_above_14 (he : iEv mX8_refuse [.ref p, .int x0] h (some (.int rv)) h2) (ho : iObj h p 8 = true) : iWp 5 mX8_above 14 [a0, a1, a2, a3, a4, a5, a6] [.int x0, .ref p] h Q = iWp 5 mX8_above 17 [a0, a1, a2, a3, a4, a5, a6] [.int rv] h2 Q := iWp_cV dX8_above_14 fK_8_50 rfl rfl ho (Nat.le_of_ble_eq_true rfl) (Nat.le_of_ble_eq_true rfl) rfl (Nat.le_of_ble_eq_true rfl) he rfl
theorem X8_above_17 : iWp d mX8_above 17 [a0, a1, a2, a3, a4, a5, a6] [.int x] h Q = Q (some (.int x)) h := w_ireti dX8_above_17 rfl
theorem X8_above_18 : iWp d mX8_above 18 [a0, a1, a2, a3, .ref p, a5, a6] st h Q = iWp d mX8_above 20 [a0, a1, a2, a3, .ref p, a5, a6] (.ref p :: st) h Q := w_aload dX8_above_18 rfl
theorem X8_above_18n : iWp d mX8_above 18 [a0, a1, a2, a3, .null, a5, a6] st h Q = iWp d mX8_above 20 [a0, a1, a2, a3, .null, a5, a6] (.null :: st) h Q := w_aloadN dX8_above_18 rfl
theorem X8_above_20 : iWp d mX8_above 20 [a0, a1, .int x, a3, a4, a5, a6] st h Q = iWp d mX8_above 21 [a0, a1, .int x, a3, a4, a5, a6] (.int x :: st) h Q := w_iload_n dX8_above_20 rfl
theorem X8_above_21 (he : iEv mX7_whereOf [.ref p, .int x0] h (some (.int rv)) h2) (ho : iObj h p 7 = true) : iWp 5 mX8_above 21 [a0, a1, a2, a3, a4, a5, a6] [.int x0, .ref p] h Q = iWp 5 mX8_above 24 [a0, a1, a2, a3, a4, a5, a6] [.int rv] h2 Q := iWp_cV dX8_above_21 fK_8_155 rfl rfl ho (Nat.le_of_ble_eq_true rfl) (Nat.le_of_ble_eq_true rfl) rfl (Nat.le_of_ble_eq_true rfl) he rfl
theorem X8_above_24 : iWp d mX8_above 24 [a0, a1, a2, a3, a4, a5, a6] (.int x :: st) h Q = iWp d mX8_above 26 [a0, a1, a2, a3, iClr a4, .int x, a6] st h Q := w_istore dX8_above_24 (Nat.le_of_ble_eq_true rfl) rfl
theorem X8_above_26 : iWp d mX8_above 26 [a0, a1, a2, a3, .ref p, a5, a6] st h Q = iWp d mX8_above 28 [a0, a1, a2, a3, .ref p, a5, a6] (.ref p :: st) h Q := w_aload dX8_above_26 rfl
theorem X8_above_26n : iWp d mX8_above 26 [a0, a1, a2, a3, .null, a5, a6] st h Q = iWp d mX8_above 28 [a0, a1, a2, a3, .null, a5, a6] (.null :: st) h Q := w_aloadN dX8_above_26 rfl
theorem X8_above_28 : iWp d mX8_above 28 [a0, a1, a2, .int x, a4, a5, a6] st h Q = iWp d mX8_above 29 [a0, a1, a2, .int x, a4, a5, a6] (.int x :: st) h Q := w_iload_n dX8_above_28 rfl
theorem X8_above_29 (he : iEv mX7_whereOf [.ref p, .int x0] h (some (.int rv)) h2) (ho : iObj h p 7 = true) : iWp 5 mX8_above 29 [a0, a1, a2, a3, a4, a5, a6] [.int x0, .ref p] h Q = iWp 5 mX8_above 32 [a0, a1, a2, a3, a4, a5, a6] [.int rv] h2 Q := iWp_cV dX8_above_29 fK_8_155 rfl rfl ho (Nat.le_of_ble_eq_true rfl) (Nat.le_of_ble_eq_true rfl) rfl (Nat.le_of_ble_eq_true rfl) he rfl
theorem X8_above_32 : iWp d mX8_above 32 [a0, a1, a2, a3, a4, a5, a6] (.int x :: st) h Q = iWp d mX8_above 34 [a0, a1, a2, a3, a4, iClr a5, .int x] st h Q := w_istore dX8_above_32 (Nat.le_of_ble_eq_true rfl) rfl
theorem X8_above_34 : iWp d mX8_above 34 [a0, a1, a2, a3, a4, .int x, a6] st h Q = iWp d mX8_above 36 [a0, a1, a2, a3, a4, .int x, a6] (.int x :: st) h Q := w_iload dX8_above_34 rfl
theorem X8_above_36 : iWp d mX8_above 36 [a0, a1, a2, a3, a4, a5, a6] st h Q = iWp d mX8_above 37 [a0, a1, a2, a3, a4, a5, a6] (.int (-1) :: st) h Q := w_iconst dX8_above_36 rfl
theorem X8_above_37 : iWp d mX8_above 37 [a0, a1, a2, a3, a4, a5, a6] (.int y :: .int x :: st) h Q = if x = y then iWp d mX8_above 46 [a0, a1, a2, a3, a4, a5, a6] st h Q else iWp d mX8_above 40 [a0, a1, a2, a3, a4, a5, a6] st h Q := w_icmp_eq dX8_above_37 rfl
theorem X8_above_40 : iWp d mX8_above 40 [a0, a1, a2, a3, a4, a5, .int x] st h Q = iWp d mX8_above 42 [a0, a1, a2, a3, a4, a5, .int x] (.int x :: st) h Q := w_iload dX8_above_40 rfl
theorem X8_above_42 : iWp d mX8_above 42 [a0, a1, a2, a3, a4, a5, a6] st h Q = iWp d mX8_above 43 [a0, a1, a2, a3, a4, a5, a6] (.int (-1) :: st) h Q := w_iconst dX8_above_42 rfl
theorem X8_above_43 : iWp d mX8_above 43 [a0, a1, a2, a3, a4, a5, a6] (.int y :: .int x :: st) h Q = if x = y then iWp d mX8_above 46 [a0, a1, a2, a3, a4, a5, a6] st h Q else iWp d mX8_above 53 [a0, a1, a2, a3, a4, a5, a6] st h Q := w_icmp_ne dX8_above_43 rfl
theorem X8_above_46 : iWp d mX8_above 46 [.ref p, a1, a2, a3, a4, a5, a6] st h Q = iWp d mX8_above 47 [.ref p, a1, a2, a3, a4, a5, a6] (.ref p :: st) h Q := w_aload_n dX8_above_46 rfl
theorem X8_above_47 : iWp d mX8_above 47 [a0, a1, a2, a3, a4, a5, a6] st h Q = iWp d mX8_above 49 [a0, a1, a2, a3, a4, a5, a6] (.int (-5) :: st) h Q := w_bipush dX8_above_47 rfl
theorem X8_above_49 (he : iEv mX8_refuse [.ref p, .int x0] h (some (.int rv)) h2) (ho : iObj h p 8 = true) : iWp 5 mX8_above 49 [a0, a1, a2, a3, a4, a5, a6] [.int x0, .ref p] h Q = iWp 5 mX8_above 52 [a0, a1, a2, a3, a4, a5, a6] [.int rv] h2 Q := iWp_cV dX8_above_49 fK_8_50 rfl rfl ho (Nat.le_of_ble_eq_true rfl) (Nat.le_of_ble_eq_true rfl) rfl (Nat.le_of_ble_eq_true rfl) he rfl
theorem X8_above_52 : iWp d mX8_above 52 [a0, a1, a2, a3, a4, a5, a6] [.int x] h Q = Q (some (.int x)) h := w_ireti dX8_above_52 rfl
theorem X8_above_53 : iWp d mX8_above 53 [a0, a1, a2, a3, .ref p, a5, a6] st h Q = iWp d mX8_above 55 [a0, a1, a2, a3, .ref p, a5, a6] (.ref p :: st) h Q := w_aload dX8_above_53 rfl
theorem X8_above_53n : iWp d mX8_above 53 [a0, a1, a2, a3, .null, a5, a6] st h Q = iWp d mX8_above 55 [a0, a1, a2, a3, .null, a5, a6] (.null :: st) h Q := w_aloadN dX8_above_53 rfl
theorem X8_above_55 : iWp d mX8_above 55 [a0, a1, a2, a3, .ref p, a5, a6] st h Q = iWp d mX8_above 57 [a0, a1, a2, a3, .ref p, a5, a6] (.ref p :: st) h Q := w_aload dX8_above_55 rfl
theorem X8_above_55n : iWp d mX8_above 55 [a0, a1, a2, a3, .null, a5, a6] st h Q = iWp d mX8_above 57 [a0, a1, a2, a3, .null, a5, a6] (.null :: st) h Q := w_aloadN dX8_above_55 rfl
theorem X8_above_57 : iWp d mX8_above 57 [a0, a1, a2, a3, a4, .int x, a6] st h Q = iWp d mX8_above 59 [a0, a1, a2, a3, a4, .int x, a6] (.int x :: st) h Q := w_iload dX8_above_57 rfl
theorem X8_above_59 : iWp d mX8_above 59 [a0, a1, a2, a3, a4, a5, .int x] st h Q = iWp d mX8_above 61 [a0, a1, a2, a3, a4, a5, .int x] (.int x :: st) h Q := w_iload dX8_above_59 rfl
theorem X8_above_61 (he : iEv mX7_lowestOver [.ref p, .int x0, .int x1] h (some (.int rv)) h2) (ho : iObj h p 7 = true) : iWp 5 mX8_above 61 [a0, a1, a2, a3, a4, a5, a6] [.int x1, .int x0, .ref p, .ref t0] h Q = iWp 5 mX8_above 64 [a0, a1, a2, a3, a4, a5, a6] [.int rv, .ref t0] h2 Q := iWp_cV dX8_above_61 fK_8_162 rfl rfl ho (Nat.le_of_ble_eq_true rfl) (Nat.le_of_ble_eq_true rfl) rfl (Nat.le_of_ble_eq_true rfl) he rfl
theorem X8_above_64 (he : iEv mX7_keyAt [.ref p, .int x0] h (some (.int rv)) h2) (ho : iObj h p 7 = true) : iWp 5 mX8_above 64 [a0, a1, a2, a3, a4, a5, a6] [.int x0, .ref p] h Q = iWp 5 mX8_above 67 [a0, a1, a2, a3, a4, a5, a6] [.int rv] h2 Q := iWp_cV dX8_above_64 fK_8_131 rfl rfl ho (Nat.le_of_ble_eq_true rfl) (Nat.le_of_ble_eq_true rfl) rfl (Nat.le_of_ble_eq_true rfl) he rfl
theorem X8_above_67 : iWp d mX8_above 67 [a0, a1, a2, a3, a4, a5, a6] [.int x] h Q = Q (some (.int x)) h := w_ireti dX8_above_67 rfl
theorem I8_above {Q : Option Value → iHp → Prop} (hw : iWp 5 mX8_above 0 [.ref p, .int x0, .int x1, .int x2, iU, iU, iU] [] h Q) : ∃ r h1, iEv mX8_above [.ref p, .int x0, .int x1, .int x2] h r h1 ∧ Q r h1 := iEv_of (by rfl) rfl hw
theorem J8_above {r : Option Value} {h1 : iHp} (hw : iWp 5 mX8_above 0 [.ref p, .int x0, .int x1, .int x2, iU, iU, iU] [] h (fun r' h' => r' = r ∧ h' = h1)) : iEv mX8_above [.ref p, .int x0, .int x1, .int x2] h r h1 := iEv_ev (by rfl) rfl hw
theorem X8_apply_0 : iWp d mX8_apply 0 [.ref p, a1, a2, a3, a4, a5] st h Q = iWp d mX8_apply 1 [.ref p, a1, a2, a3, a4, a5] (.ref p :: st) h Q := w_aload_n dX8_apply_0 rfl
theorem X8_apply_1 : iWp d mX8_apply 1 [a0, .int x, a2, a3, a4, a5] st h Q = iWp d mX8_apply 2 [a0, .int x, a2, a3, a4, a5] (.int x :: st) h Q := w_iload_n dX8_apply_1 rfl
theorem X8_apply_2 (he : iEv mX8_patchAt [.ref p, .int x0] h (some rw) h2) (ho : iObj h p 8 = true) : iWp 7 mX8_apply 2 [a0, a1, a2, a3, a4, a5] [.int x0, .ref p] h Q = iWp 7 mX8_apply 5 [a0, a1, a2, a3, a4, a5] [rw] h2 Q := iWp_cV dX8_apply_2 fK_8_92 rfl rfl ho (Nat.le_of_ble_eq_true rfl) (Nat.le_of_ble_eq_true rfl) rfl (Nat.le_of_ble_eq_true rfl) he rfl
theorem X8_apply_5 : iWp d mX8_apply 5 [a0, a1, a2, a3, a4, a5] (.ref p :: st) h Q = iWp d mX8_apply 6 [a0, a1, iClr a2, .ref p, a4, a5] st h Q := w_astore_n dX8_apply_5 (Nat.le_of_ble_eq_true rfl) rfl
theorem X8_apply_5n : iWp d mX8_apply 5 [a0, a1, a2, a3, a4, a5] (.null :: st) h Q = iWp d mX8_apply 6 [a0, a1, iClr a2, .null, a4, a5] st h Q := w_astore_nN dX8_apply_5 (Nat.le_of_ble_eq_true rfl) rfl
theorem X8_apply_6 : iWp d mX8_apply 6 [.ref p, a1, a2, a3, a4, a5] st h Q = iWp d mX8_apply 7 [.ref p, a1, a2, a3, a4, a5] (.ref p :: st) h Q := w_aload_n dX8_apply_6 rfl
theorem X8_apply_7 : iWp d mX8_apply 7 [a0, a1, .int x, a3, a4, a5] st h Q = iWp d mX8_apply 8 [a0, a1, .int x, a3, a4, a5] (.int x :: st) h Q := w_iload_n dX8_apply_7 rfl
theorem X8_apply_8 (he : iEv mX8_treeAt [.ref p, .int x0] h (some rw) h2) (ho : iObj h p 8 = true) : iWp 7 mX8_apply 8 [a0, a1, a2, a3, a4, a5] [.int x0, .ref p] h Q = iWp 7 mX8_apply 11 [a0, a1, a2, a3, a4, a5] [rw] h2 Q := iWp_cV dX8_apply_8 fK_8_121 rfl rfl ho (Nat.le_of_ble_eq_true rfl) (Nat.le_of_ble_eq_true rfl) rfl (Nat.le_of_ble_eq_true rfl) he rfl
theorem X8_apply_11 : iWp d mX8_apply 11 [a0, a1, a2, a3, a4, a5] (.ref p :: st) h Q = iWp d mX8_apply 13 [a0, a1, a2, iClr a3, .ref p, a5] st h Q := w_astore dX8_apply_11 (Nat.le_of_ble_eq_true rfl) rfl
theorem X8_apply_11n : iWp d mX8_apply 11 [a0, a1, a2, a3, a4, a5] (.null :: st) h Q = iWp d mX8_apply 13 [a0, a1, a2, iClr a3, .null, a5] st h Q := w_astoreN dX8_apply_11 (Nat.le_of_ble_eq_true rfl) rfl
theorem X8_apply_13 : iWp d mX8_apply 13 [a0, a1, a2, .ref p, a4, a5] st h Q = iWp d mX8_apply 14 [a0, a1, a2, .ref p, a4, a5] (.ref p :: st) h Q := w_aload_n dX8_apply_13 rfl
theorem X8_apply_13n : iWp d mX8_apply 13 [a0, a1, a2, .null, a4, a5] st h Q = iWp d mX8_apply 14 [a0, a1, a2, .null, a4, a5] (.null :: st) h Q := w_aload_nN dX8_apply_13 rfl
theorem X8_apply_14 : iWp d mX8_apply 14 [a0, a1, a2, a3, a4, a5] (.ref p :: st) h Q = iWp d mX8_apply 17 [a0, a1, a2, a3, a4, a5] st h Q := w_ifnull dX8_apply_14
theorem X8_apply_14n : iWp d mX8_apply 14 [a0, a1, a2, a3, a4, a5] (.null :: st) h Q = iWp d mX8_apply 22 [a0, a1, a2, a3, a4, a5] st h Q := w_ifnullN dX8_apply_14 rfl
theorem X8_apply_17 : iWp d mX8_apply 17 [a0, a1, a2, a3, .ref p, a5] st h Q = iWp d mX8_apply 19 [a0, a1, a2, a3, .ref p, a5] (.ref p :: st) h Q := w_aload dX8_apply_17 rfl
theorem X8_apply_17n : iWp d mX8_apply 17 [a0, a1, a2, a3, .null, a5] st h Q = iWp d mX8_apply 19 [a0, a1, a2, a3, .null, a5] (.null :: st) h Q := w_aloadN dX8_apply_17 rfl
theorem X8_apply_19 : iWp d mX8_apply 19 [a0, a1, a2, a3, a4, a5] (.ref p :: st) h Q = iWp d mX8_apply 28 [a0, a1, a2, a3, a4, a5] st h Q := w_ifnonnull dX8_apply_19 rfl
theorem X8_apply_19n : iWp d mX8_apply 19 [a0, a1, a2, a3, a4, a5] (.null :: st) h Q = iWp d mX8_apply 22 [a0, a1, a2, a3, a4, a5] st h Q := w_ifnonnullN dX8_apply_19
theorem X8_apply_22 : iWp d mX8_apply 22 [.ref p, a1, a2, a3, a4, a5] st h Q = iWp d mX8_apply 23 [.ref p, a1, a2, a3, a4, a5] (.ref p :: st) h Q := w_aload_n dX8_apply_22 rfl
theorem X8_apply_23 : iWp d mX8_apply 23 [a0, a1, a2, a3, a4, a5] st h Q = iWp d mX8_apply 24 [a0, a1, a2, a3, a4, a5] (.int (-1) :: st) h Q := w_iconst dX8_apply_23 rfl
theorem X8_apply_24 (he : iEv mX8_refuse [.ref p, .int x0] h (some (.int rv)) h2) (ho : iObj h p 8 = true) : iWp 7 mX8_apply 24 [a0, a1, a2, a3, a4, a5] [.int x0, .ref p] h Q = iWp 7 mX8_apply 27 [a0, a1, a2, a3, a4, a5] [.int rv] h2 Q := iWp_cV dX8_apply_24 fK_8_50 rfl rfl ho (Nat.le_of_ble_eq_true rfl) (Nat.le_of_ble_eq_true rfl) rfl (Nat.le_of_ble_eq_true rfl) he rfl
theorem X8_apply_27 : iWp d mX8_apply 27 [a0, a1, a2, a3, a4, a5] [.int x] h Q = Q (some (.int x)) h := w_ireti dX8_apply_27 rfl
theorem X8_apply_28 : iWp d mX8_apply 28 [a0, a1, a2, a3, a4, a5] st h Q = iWp d mX8_apply 31 [a0, a1, a2, a3, a4, a5] (.ref h.2.1 :: st) (iNewO h 7) Q := w_new dX8_apply_28 fC_8_126
theorem X8_apply_31 : iWp d mX8_apply 31 [a0, a1, a2, a3, a4, a5] (.ref p :: st) h Q = iWp d mX8_apply 32 [a0, a1, a2, a3, a4, a5] (.ref p :: .ref p :: st) h Q := w_dup dX8_apply_31 rfl
theorem X8_apply_32 : iWp d mX8_apply 32 [a0, a1, a2, a3, .ref p, a5] st h Q = iWp d mX8_apply 34 [a0, a1, a2, a3, .ref p, a5] (.ref p :: st) h Q := w_aload dX8_apply_32 rfl
theorem X8_apply_32n : iWp d mX8_apply 32 [a0, a1, a2, a3, .null, a5] st h Q = iWp d mX8_apply 34 [a0, a1, a2, a3, .null, a5] (.null :: st) h Q := w_aloadN dX8_apply_32 rfl
theorem X8_apply_34 (he : iEv mX7_init_ [.ref p, b0] h none h2) (c0 : b0.category = 1) : iWp 7 mX8_apply 34 [a0, a1, a2, a3, a4, a5] [b0, .ref p, .ref t0] h Q = iWp 7 mX8_apply 37 [a0, a1, a2, a3, a4, a5] [.ref t0] h2 Q := iWp_cI dX8_apply_34 fK_8_206 rfl rfl (Nat.le_of_ble_eq_true rfl) (Nat.le_of_ble_eq_true rfl) (by simp [iInit, cat_i, cat_r, cat_l, mX7_init_, c0]) (Nat.le_of_ble_eq_true rfl) he rfl
theorem X8_apply_37 : iWp d mX8_apply 37 [a0, a1, a2, a3, a4, a5] (.ref p :: st) h Q = iWp d mX8_apply 39 [a0, a1, a2, a3, iClr a4, .ref p] st h Q := w_astore dX8_apply_37 (Nat.le_of_ble_eq_true rfl) rfl
theorem X8_apply_37n : iWp d mX8_apply 37 [a0, a1, a2, a3, a4, a5] (.null :: st) h Q = iWp d mX8_apply 39 [a0, a1, a2, a3, iClr a4, .null] st h Q := w_astoreN dX8_apply_37 (Nat.le_of_ble_eq_true rfl) rfl
theorem X8_apply_39 : iWp d mX8_apply 39 [a0, a1, a2, .ref p, a4, a5] st h Q = iWp d mX8_apply 40 [a0, a1, a2, .ref p, a4, a5] (.ref p :: st) h Q := w_aload_n dX8_apply_39 rfl
theorem X8_apply_39n : iWp d mX8_apply 39 [a0, a1, a2, .null, a4, a5] st h Q = iWp d mX8_apply 40 [a0, a1, a2, .null, a4, a5] (.null :: st) h Q := w_aload_nN dX8_apply_39 rfl
theorem X8_apply_40 : iWp d mX8_apply 40 [a0, a1, a2, a3, a4, .ref p] st h Q = iWp d mX8_apply 42 [a0, a1, a2, a3, a4, .ref p] (.ref p :: st) h Q := w_aload dX8_apply_40 rfl
theorem X8_apply_40n : iWp d mX8_apply 40 [a0, a1, a2, a3, a4, .null] st h Q = iWp d mX8_apply 42 [a0, a1, a2, a3, a4, .null] (.null :: st) h Q := w_aloadN dX8_apply_40 rfl
theorem X8_apply_42 (he : iEv mX3_changeUntilMisfit [.ref p, b0] h (some (.int rv)) h2) (ho : iObj h p 3 = true) (c0 : b0.category = 1) : iWp 7 mX8_apply 42 [a0, a1, a2, a3, a4, a5] [b0, .ref p] h Q = iWp 7 mX8_apply 45 [a0, a1, a2, a3, a4, a5] [.int rv] h2 Q := iWp_cV dX8_apply_42 fK_8_209 rfl rfl ho (Nat.le_of_ble_eq_true rfl) (Nat.le_of_ble_eq_true rfl) (by simp [iInit, cat_i, cat_r, cat_l, mX3_changeUntilMisfit, c0]) (Nat.le_of_ble_eq_true rfl) he rfl
theorem X8_apply_45 : iWp d mX8_apply 45 [a0, a1, a2, a3, a4, a5] st h Q = iWp d mX8_apply 46 [a0, a1, a2, a3, a4, a5] (.int (-1) :: st) h Q := w_iconst dX8_apply_45 rfl
theorem X8_apply_46 : iWp d mX8_apply 46 [a0, a1, a2, a3, a4, a5] (.int y :: .int x :: st) h Q = if x = y then iWp d mX8_apply 56 [a0, a1, a2, a3, a4, a5] st h Q else iWp d mX8_apply 49 [a0, a1, a2, a3, a4, a5] st h Q := w_icmp_eq dX8_apply_46 rfl
theorem X8_apply_49 : iWp d mX8_apply 49 [.ref p, a1, a2, a3, a4, a5] st h Q = iWp d mX8_apply 50 [.ref p, a1, a2, a3, a4, a5] (.ref p :: st) h Q := w_aload_n dX8_apply_49 rfl
theorem X8_apply_50 : iWp d mX8_apply 50 [a0, a1, a2, a3, a4, a5] st h Q = iWp d mX8_apply 52 [a0, a1, a2, a3, a4, a5] (.int (-6) :: st) h Q := w_bipush dX8_apply_50 rfl
theorem X8_apply_52 (he : iEv mX8_refuse [.ref p, .int x0] h (some (.int rv)) h2) (ho : iObj h p 8 = true) : iWp 7 mX8_apply 52 [a0, a1, a2, a3, a4, a5] [.int x0, .ref p] h Q = iWp 7 mX8_apply 55 [a0, a1, a2, a3, a4, a5] [.int rv] h2 Q := iWp_cV dX8_apply_52 fK_8_50 rfl rfl ho (Nat.le_of_ble_eq_true rfl) (Nat.le_of_ble_eq_true rfl) rfl (Nat.le_of_ble_eq_true rfl) he rfl
theorem X8_apply_55 : iWp d mX8_apply 55 [a0, a1, a2, a3, a4, a5] [.int x] h Q = Q (some (.int x)) h := w_ireti dX8_apply_55 rfl
theorem X8_apply_56 : iWp d mX8_apply 56 [.ref p, a1, a2, a3, a4, a5] st h Q = iWp d mX8_apply 57 [.ref p, a1, a2, a3, a4, a5] (.ref p :: st) h Q := w_aload_n dX8_apply_56 rfl
theorem X8_apply_57 : iWp d mX8_apply 57 [a0, a1, a2, a3, a4, a5] (.ref p :: st) h Q = iOb (iGet h p 8 4) (fun v => iWp d mX8_apply 60 [a0, a1, a2, a3, a4, a5] (v :: st) h Q) := w_getf dX8_apply_57 fF_8_32
theorem X8_apply_60 : iWp d mX8_apply 60 [a0, a1, .int x, a3, a4, a5] st h Q = iWp d mX8_apply 61 [a0, a1, .int x, a3, a4, a5] (.int x :: st) h Q := w_iload_n dX8_apply_60 rfl
theorem X8_apply_61 : iWp d mX8_apply 61 [a0, a1, a2, a3, a4, .ref p] st h Q = iWp d mX8_apply 63 [a0, a1, a2, a3, a4, .ref p] (.ref p :: st) h Q := w_aload dX8_apply_61 rfl
theorem X8_apply_61n : iWp d mX8_apply 61 [a0, a1, a2, a3, a4, .null] st h Q = iWp d mX8_apply 63 [a0, a1, a2, a3, a4, .null] (.null :: st) h Q := w_aloadN dX8_apply_61 rfl
theorem X8_apply_63 (he : iEv mX6_replaceTree [.ref p, .int x0, b1] h none h2) (ho : iObj h p 6 = true) (c1 : b1.category = 1) : iWp 7 mX8_apply 63 [a0, a1, a2, a3, a4, a5] [b1, .int x0, .ref p] h Q = iWp 7 mX8_apply 66 [a0, a1, a2, a3, a4, a5] [] h2 Q := iWp_cV dX8_apply_63 fK_8_212 rfl rfl ho (Nat.le_of_ble_eq_true rfl) (Nat.le_of_ble_eq_true rfl) (by simp [iInit, cat_i, cat_r, cat_l, mX6_replaceTree, c1]) (Nat.le_of_ble_eq_true rfl) he rfl
theorem X8_apply_66 : iWp d mX8_apply 66 [a0, a1, a2, a3, a4, .ref p] st h Q = iWp d mX8_apply 68 [a0, a1, a2, a3, a4, .ref p] (.ref p :: st) h Q := w_aload dX8_apply_66 rfl
theorem X8_apply_66n : iWp d mX8_apply 66 [a0, a1, a2, a3, a4, .null] st h Q = iWp d mX8_apply 68 [a0, a1, a2, a3, a4, .null] (.null :: st) h Q := w_aloadN dX8_apply_66 rfl
theorem X8_apply_68 : iWp d mX8_apply 68 [a0, a1, a2, a3, a4, a5] (.ref p :: st) h Q = iOb (iGet h p 7 3) (fun v => iWp d mX8_apply 71 [a0, a1, a2, a3, a4, a5] (v :: st) h Q) := w_getf dX8_apply_68 fF_8_125
theorem X8_apply_71 : iWp d mX8_apply 71 [a0, a1, a2, a3, a4, a5] [.int x] h Q = Q (some (.int x)) h := w_ireti dX8_apply_71 rfl
theorem I8_apply {Q : Option Value → iHp → Prop} (hw : iWp 7 mX8_apply 0 [.ref p, .int x0, .int x1, iU, iU, iU] [] h Q) : ∃ r h1, iEv mX8_apply [.ref p, .int x0, .int x1] h r h1 ∧ Q r h1 := iEv_of (by rfl) rfl hw
theorem J8_apply {r : Option Value} {h1 : iHp} (hw : iWp 7 mX8_apply 0 [.ref p, .int x0, .int x1, iU, iU, iU] [] h (fun r' h' => r' = r ∧ h' = h1)) : iEv mX8_apply [.ref p, .int x0, .int x1] h r h1 := iEv_ev (by rfl) rfl hw
theorem X8_behind_0 : iWp d mX8_behind 0 [.ref p, a1, a2, a3, a4] st h Q = iWp d mX8_behind 1 [.ref p, a1, a2, a3, a4] (.ref p :: st) h Q := w_aload_n dX8_behind_0 rfl
theorem X8_behind_1 : iWp d mX8_behind 1 [a0, .int x, a2, a3, a4] st h Q = iWp d mX8_behind 2 [a0, .int x, a2, a3, a4] (.int x :: st) h Q := w_iload_n dX8_behind_1 rfl
theorem X8_behind_2 (he : iEv mX8_patchAt [.ref p, .int x0] h (some rw) h2) (ho : iObj h p 8 = true) : iWp 4 mX8_behind 2 [a0, a1, a2, a3, a4] [.int x0, .ref p] h Q = iWp 4 mX8_behind 5 [a0, a1, a2, a3, a4] [rw] h2 Q := iWp_cV dX8_behind_2 fK_8_92 rfl rfl ho (Nat.le_of_ble_eq_true rfl) (Nat.le_of_ble_eq_true rfl) rfl (Nat.le_of_ble_eq_true rfl) he rfl
theorem X8_behind_5 : iWp d mX8_behind 5 [a0, a1, a2, a3, a4] (.ref p :: st) h Q = iWp d mX8_behind 6 [a0, a1, iClr a2, .ref p, a4] st h Q := w_astore_n dX8_behind_5 (Nat.le_of_ble_eq_true rfl) rfl
theorem X8_behind_5n : iWp d mX8_behind 5 [a0, a1, a2, a3, a4] (.null :: st) h Q = iWp d mX8_behind 6 [a0, a1, iClr a2, .null, a4] st h Q := w_astore_nN dX8_behind_5 (Nat.le_of_ble_eq_true rfl) rfl
theorem X8_behind_6 : iWp d mX8_behind 6 [.ref p, a1, a2, a3, a4] st h Q = iWp d mX8_behind 7 [.ref p, a1, a2, a3, a4] (.ref p :: st) h Q := w_aload_n dX8_behind_6 rfl
theorem X8_behind_7 : iWp d mX8_behind 7 [a0, a1, .int x, a3, a4] st h Q = iWp d mX8_behind 8 [a0, a1, .int x, a3, a4] (.int x :: st) h Q := w_iload_n dX8_behind_7 rfl
theorem X8_behind_8 (he : iEv mX8_patchAt [.ref p, .int x0] h (some rw) h2) (ho : iObj h p 8 = true) : iWp 4 mX8_behind 8 [a0, a1, a2, a3, a4] [.int x0, .ref p] h Q = iWp 4 mX8_behind 11 [a0, a1, a2, a3, a4] [rw] h2 Q := iWp_cV dX8_behind_8 fK_8_92 rfl rfl ho (Nat.le_of_ble_eq_true rfl) (Nat.le_of_ble_eq_true rfl) rfl (Nat.le_of_ble_eq_true rfl) he rfl
theorem X8_behind_11 : iWp d mX8_behind 11 [a0, a1, a2, a3, a4] (.ref p :: st) h Q = iWp d mX8_behind 13 [a0, a1, a2, iClr a3, .ref p] st h Q := w_astore dX8_behind_11 (Nat.le_of_ble_eq_true rfl) rfl
theorem X8_behind_11n : iWp d mX8_behind 11 [a0, a1, a2, a3, a4] (.null :: st) h Q = iWp d mX8_behind 13 [a0, a1, a2, iClr a3, .null] st h Q := w_astoreN dX8_behind_11 (Nat.le_of_ble_eq_true rfl) rfl
theorem X8_behind_13 : iWp d mX8_behind 13 [a0, a1, a2, .ref p, a4] st h Q = iWp d mX8_behind 14 [a0, a1, a2, .ref p, a4] (.ref p :: st) h Q := w_aload_n dX8_behind_13 rfl
theorem X8_behind_13n : iWp d mX8_behind 13 [a0, a1, a2, .null, a4] st h Q = iWp d mX8_behind 14 [a0, a1, a2, .null, a4] (.null :: st) h Q := w_aload_nN dX8_behind_13 rfl
theorem X8_behind_14 : iWp d mX8_behind 14 [a0, a1, a2, a3, a4] (.ref p :: st) h Q = iWp d mX8_behind 17 [a0, a1, a2, a3, a4] st h Q := w_ifnull dX8_behind_14
theorem X8_behind_14n : iWp d mX8_behind 14 [a0, a1, a2, a3, a4] (.null :: st) h Q = iWp d mX8_behind 22 [a0, a1, a2, a3, a4] st h Q := w_ifnullN dX8_behind_14 rfl
theorem X8_behind_17 : iWp d mX8_behind 17 [a0, a1, a2, a3, .ref p] st h Q = iWp d mX8_behind 19 [a0, a1, a2, a3, .ref p] (.ref p :: st) h Q := w_aload dX8_behind_17 rfl
theorem X8_behind_17n : iWp d mX8_behind 17 [a0, a1, a2, a3, .null] st h Q = iWp d mX8_behind 19 [a0, a1, a2, a3, .null] (.null :: st) h Q := w_aloadN dX8_behind_17 rfl
theorem X8_behind_19 : iWp d mX8_behind 19 [a0, a1, a2, a3, a4] (.ref p :: st) h Q = iWp d mX8_behind 28 [a0, a1, a2, a3, a4] st h Q := w_ifnonnull dX8_behind_19 rfl
theorem X8_behind_19n : iWp d mX8_behind 19 [a0, a1, a2, a3, a4] (.null :: st) h Q = iWp d mX8_behind 22 [a0, a1, a2, a3, a4] st h Q := w_ifnonnullN dX8_behind_19
theorem X8_behind_22 : iWp d mX8_behind 22 [.ref p, a1, a2, a3, a4] st h Q = iWp d mX8_behind 23 [.ref p, a1, a2, a3, a4] (.ref p :: st) h Q := w_aload_n dX8_behind_22 rfl
theorem X8_behind_23 : iWp d mX8_behind 23 [a0, a1, a2, a3, a4] st h Q = iWp d mX8_behind 24 [a0, a1, a2, a3, a4] (.int (-1) :: st) h Q := w_iconst dX8_behind_23 rfl
theorem X8_behind_24 (he : iEv mX8_refuse [.ref p, .int x0] h (some (.int rv)) h2) (ho : iObj h p 8 = true) : iWp 4 mX8_behind 24 [a0, a1, a2, a3, a4] [.int x0, .ref p] h Q = iWp 4 mX8_behind 27 [a0, a1, a2, a3, a4] [.int rv] h2 Q := iWp_cV dX8_behind_24 fK_8_50 rfl rfl ho (Nat.le_of_ble_eq_true rfl) (Nat.le_of_ble_eq_true rfl) rfl (Nat.le_of_ble_eq_true rfl) he rfl
theorem X8_behind_27 : iWp d mX8_behind 27 [a0, a1, a2, a3, a4] [.int x] h Q = Q (some (.int x)) h := w_ireti dX8_behind_27 rfl
theorem X8_behind_28 : iWp d mX8_behind 28 [.ref p, a1, a2, a3, a4] st h Q = iWp d mX8_behind 29 [.ref p, a1, a2, a3, a4] (.ref p :: st) h Q := w_aload_n dX8_behind_28 rfl
theorem X8_behind_29 : iWp d mX8_behind 29 [a0, a1, a2, a3, a4] (.ref p :: st) h Q = iOb (iGet h p 8 3) (fun v => iWp d mX8_behind 32 [a0, a1, a2, a3, a4] (v :: st) h Q) := w_getf dX8_behind_29 fF_8_25
theorem X8_behind_32 (he : iEv mX1_clear [.ref p] h none h2) (ho : iObj h p 1 = true) : iWp 4 mX8_behind 32 [a0, a1, a2, a3, a4] [.ref p] h Q = iWp 4 mX8_behind 35 [a0, a1, a2, a3, a4] [] h2 Q := iWp_cV dX8_behind_32 fK_8_222 rfl rfl ho (Nat.le_of_ble_eq_true rfl) (Nat.le_of_ble_eq_true rfl) rfl (Nat.le_of_ble_eq_true rfl) he rfl
theorem X8_behind_35 : iWp d mX8_behind 35 [.ref p, a1, a2, a3, a4] st h Q = iWp d mX8_behind 36 [.ref p, a1, a2, a3, a4] (.ref p :: st) h Q := w_aload_n dX8_behind_35 rfl
theorem X8_behind_36 : iWp d mX8_behind 36 [a0, a1, a2, a3, a4] (.ref p :: st) h Q = iOb (iGet h p 8 3) (fun v => iWp d mX8_behind 39 [a0, a1, a2, a3, a4] (v :: st) h Q) := w_getf dX8_behind_36 fF_8_25
theorem X8_behind_39 : iWp d mX8_behind 39 [a0, a1, a2, .ref p, a4] st h Q = iWp d mX8_behind 40 [a0, a1, a2, .ref p, a4] (.ref p :: st) h Q := w_aload_n dX8_behind_39 rfl
theorem X8_behind_39n : iWp d mX8_behind 39 [a0, a1, a2, .null, a4] st h Q = iWp d mX8_behind 40 [a0, a1, a2, .null, a4] (.null :: st) h Q := w_aload_nN dX8_behind_39 rfl
theorem X8_behind_40 (he : iEv mX1_addAll [.ref p, b0] h none h2) (ho : iObj h p 1 = true) (c0 : b0.category = 1) : iWp 4 mX8_behind 40 [a0, a1, a2, a3, a4] [b0, .ref p] h Q = iWp 4 mX8_behind 43 [a0, a1, a2, a3, a4] [] h2 Q := iWp_cV dX8_behind_40 fK_8_233 rfl rfl ho (Nat.le_of_ble_eq_true rfl) (Nat.le_of_ble_eq_true rfl) (by simp [iInit, cat_i, cat_r, cat_l, mX1_addAll, c0]) (Nat.le_of_ble_eq_true rfl) he rfl
theorem X8_behind_43 : iWp d mX8_behind 43 [.ref p, a1, a2, a3, a4] st h Q = iWp d mX8_behind 44 [.ref p, a1, a2, a3, a4] (.ref p :: st) h Q := w_aload_n dX8_behind_43 rfl
theorem X8_behind_44 : iWp d mX8_behind 44 [a0, a1, a2, a3, a4] (.ref p :: st) h Q = iOb (iGet h p 8 3) (fun v => iWp d mX8_behind 47 [a0, a1, a2, a3, a4] (v :: st) h Q) := w_getf dX8_behind_44 fF_8_25
theorem X8_behind_47 : iWp d mX8_behind 47 [a0, a1, a2, a3, .ref p] st h Q = iWp d mX8_behind 49 [a0, a1, a2, a3, .ref p] (.ref p :: st) h Q := w_aload dX8_behind_47 rfl
theorem X8_behind_47n : iWp d mX8_behind 47 [a0, a1, a2, a3, .null] st h Q = iWp d mX8_behind 49 [a0, a1, a2, a3, .null] (.null :: st) h Q := w_aloadN dX8_behind_47 rfl
theorem X8_behind_49 (he : iEv mX1_addAll [.ref p, b0] h none h2) (ho : iObj h p 1 = true) (c0 : b0.category = 1) : iWp 4 mX8_behind 49 [a0, a1, a2, a3, a4] [b0, .ref p] h Q = iWp 4 mX8_behind 52 [a0, a1, a2, a3, a4] [] h2 Q := iWp_cV dX8_behind_49 fK_8_233 rfl rfl ho (Nat.le_of_ble_eq_true rfl) (Nat.le_of_ble_eq_true rfl) (by simp [iInit, cat_i, cat_r, cat_l, mX1_addAll, c0]) (Nat.le_of_ble_eq_true rfl) he rfl
theorem X8_behind_52 : iWp d mX8_behind 52 [.ref p, a1, a2, a3, a4] st h Q = iWp d mX8_behind 53 [.ref p, a1, a2, a3, a4] (.ref p :: st) h Q := w_aload_n dX8_behind_52 rfl
theorem X8_behind_53 : iWp d mX8_behind 53 [a0, a1, a2, a3, a4] st h Q = iWp d mX8_behind 54 [a0, a1, a2, a3, a4] (.int 0 :: st) h Q := w_iconst dX8_behind_53 rfl
theorem X8_behind_54 : iWp d mX8_behind 54 [a0, a1, a2, a3, a4] st h Q = iWp d mX8_behind 55 [a0, a1, a2, a3, a4] (.int (-1) :: st) h Q := w_iconst dX8_behind_54 rfl
theorem X8_behind_55 (he : iEv mX8_keepDraft [.ref p, .int x0, .int x1] h (some (.int rv)) h2) (ho : iObj h p 8 = true) : iWp 4 mX8_behind 55 [a0, a1, a2, a3, a4] [.int x1, .int x0, .ref p] h Q = iWp 4 mX8_behind 58 [a0, a1, a2, a3, a4] [.int rv] h2 Q := iWp_cV dX8_behind_55 fK_8_181 rfl rfl ho (Nat.le_of_ble_eq_true rfl) (Nat.le_of_ble_eq_true rfl) rfl (Nat.le_of_ble_eq_true rfl) he rfl
theorem X8_behind_58 : iWp d mX8_behind 58 [a0, a1, a2, a3, a4] [.int x] h Q = Q (some (.int x)) h := w_ireti dX8_behind_58 rfl
theorem I8_behind {Q : Option Value → iHp → Prop} (hw : iWp 4 mX8_behind 0 [.ref p, .int x0, .int x1, iU, iU] [] h Q) : ∃ r h1, iEv mX8_behind [.ref p, .int x0, .int x1] h r h1 ∧ Q r h1 := iEv_of (by rfl) rfl hw
theorem J8_behind {r : Option Value} {h1 : iHp} (hw : iWp 4 mX8_behind 0 [.ref p, .int x0, .int x1, iU, iU] [] h (fun r' h' => r' = r ∧ h' = h1)) : iEv mX8_behind [.ref p, .int x0, .int x1] h r h1 := iEv_ev (by rfl) rfl hw
theorem X8_child_0 : iWp d mX8_child 0 [.ref p, a1, a2, a3, a4, a5] st h Q = iWp d mX8_child 1 [.ref p, a1, a2, a3, a4, a5] (.ref p :: st) h Q := w_aload_n dX8_child_0 rfl
theorem X8_child_1 : iWp d mX8_child 1 [a0, .int x, a2, a3, a4, a5] st h Q = iWp d mX8_child 2 [a0, .int x, a2, a3, a4, a5] (.int x :: st) h Q := w_iload_n dX8_child_1 rfl
theorem X8_child_2 (he : iEv mX8_treeAt [.ref p, .int x0] h (some rw) h2) (ho : iObj h p 8 = true) : iWp 4 mX8_child 2 [a0, a1, a2, a3, a4, a5] [.int x0, .ref p] h Q = iWp 4 mX8_child 5 [a0, a1, a2, a3, a4, a5] [rw] h2 Q := iWp_cV dX8_child_2 fK_8_121 rfl rfl ho (Nat.le_of_ble_eq_true rfl) (Nat.le_of_ble_eq_true rfl) rfl (Nat.le_of_ble_eq_true rfl) he rfl
theorem X8_child_5 : iWp d mX8_child 5 [a0, a1, a2, a3, a4, a5] (.ref p :: st) h Q = iWp d mX8_child 7 [a0, a1, a2, iClr a3, .ref p, a5] st h Q := w_astore dX8_child_5 (Nat.le_of_ble_eq_true rfl) rfl
theorem X8_child_5n : iWp d mX8_child 5 [a0, a1, a2, a3, a4, a5] (.null :: st) h Q = iWp d mX8_child 7 [a0, a1, a2, iClr a3, .null, a5] st h Q := w_astoreN dX8_child_5 (Nat.le_of_ble_eq_true rfl) rfl
theorem X8_child_7 : iWp d mX8_child 7 [a0, a1, a2, a3, .ref p, a5] st h Q = iWp d mX8_child 9 [a0, a1, a2, a3, .ref p, a5] (.ref p :: st) h Q := w_aload dX8_child_7 rfl
theorem X8_child_7n : iWp d mX8_child 7 [a0, a1, a2, a3, .null, a5] st h Q = iWp d mX8_child 9 [a0, a1, a2, a3, .null, a5] (.null :: st) h Q := w_aloadN dX8_child_7 rfl
theorem X8_child_9 : iWp d mX8_child 9 [a0, a1, a2, a3, a4, a5] (.ref p :: st) h Q = iWp d mX8_child 18 [a0, a1, a2, a3, a4, a5] st h Q := w_ifnonnull dX8_child_9 rfl
theorem X8_child_9n : iWp d mX8_child 9 [a0, a1, a2, a3, a4, a5] (.null :: st) h Q = iWp d mX8_child 12 [a0, a1, a2, a3, a4, a5] st h Q := w_ifnonnullN dX8_child_9
theorem X8_child_12 : iWp d mX8_child 12 [.ref p, a1, a2, a3, a4, a5] st h Q = iWp d mX8_child 13 [.ref p, a1, a2, a3, a4, a5] (.ref p :: st) h Q := w_aload_n dX8_child_12 rfl
theorem X8_child_13 : iWp d mX8_child 13 [a0, a1, a2, a3, a4, a5] st h Q = iWp d mX8_child 14 [a0, a1, a2, a3, a4, a5] (.int (-1) :: st) h Q := w_iconst dX8_child_13 rfl
theorem X8_child_14 (he : iEv mX8_refuse [.ref p, .int x0] h (some (.int rv)) h2) (ho : iObj h p 8 = true) : iWp 4 mX8_child 14 [a0, a1, a2, a3, a4, a5] [.int x0, .ref p] h Q = iWp 4 mX8_child 17 [a0, a1, a2, a3, a4, a5] [.int rv] h2 Q := iWp_cV dX8_child_14 fK_8_50 rfl rfl ho (Nat.le_of_ble_eq_true rfl) (Nat.le_of_ble_eq_true rfl) rfl (Nat.le_of_ble_eq_true rfl) he rfl
theorem X8_child_17 : iWp d mX8_child 17 [a0, a1, a2, a3, a4, a5] [.int x] h Q = Q (some (.int x)) h := w_ireti dX8_child_17 rfl
theorem X8_child_18 : iWp d mX8_child 18 [a0, a1, a2, a3, .ref p, a5] st h Q = iWp d mX8_child 20 [a0, a1, a2, a3, .ref p, a5] (.ref p :: st) h Q := w_aload dX8_child_18 rfl
theorem X8_child_18n : iWp d mX8_child 18 [a0, a1, a2, a3, .null, a5] st h Q = iWp d mX8_child 20 [a0, a1, a2, a3, .null, a5] (.null :: st) h Q := w_aloadN dX8_child_18 rfl
theorem X8_child_20 : iWp d mX8_child 20 [a0, a1, .int x, a3, a4, a5] st h Q = iWp d mX8_child 21 [a0, a1, .int x, a3, a4, a5] (.int x :: st) h Q := w_iload_n dX8_child_20 rfl
theorem X8_child_21 (he : iEv mX7_whereOf [.ref p, .int x0] h (some (.int rv)) h2) (ho : iObj h p 7 = true) : iWp 4 mX8_child 21 [a0, a1, a2, a3, a4, a5] [.int x0, .ref p] h Q = iWp 4 mX8_child 24 [a0, a1, a2, a3, a4, a5] [.int rv] h2 Q := iWp_cV dX8_child_21 fK_8_155 rfl rfl ho (Nat.le_of_ble_eq_true rfl) (Nat.le_of_ble_eq_true rfl) rfl (Nat.le_of_ble_eq_true rfl) he rfl
theorem X8_child_24 : iWp d mX8_child 24 [a0, a1, a2, a3, a4, a5] (.int x :: st) h Q = iWp d mX8_child 26 [a0, a1, a2, a3, iClr a4, .int x] st h Q := w_istore dX8_child_24 (Nat.le_of_ble_eq_true rfl) rfl
theorem X8_child_26 : iWp d mX8_child 26 [a0, a1, a2, a3, a4, .int x] st h Q = iWp d mX8_child 28 [a0, a1, a2, a3, a4, .int x] (.int x :: st) h Q := w_iload dX8_child_26 rfl
theorem X8_child_28 : iWp d mX8_child 28 [a0, a1, a2, a3, a4, a5] st h Q = iWp d mX8_child 29 [a0, a1, a2, a3, a4, a5] (.int (-1) :: st) h Q := w_iconst dX8_child_28 rfl
theorem X8_child_29 : iWp d mX8_child 29 [a0, a1, a2, a3, a4, a5] (.int y :: .int x :: st) h Q = if x = y then iWp d mX8_child 47 [a0, a1, a2, a3, a4, a5] st h Q else iWp d mX8_child 32 [a0, a1, a2, a3, a4, a5] st h Q := w_icmp_eq dX8_child_29 rfl
theorem X8_child_32 : iWp d mX8_child 32 [a0, a1, a2, .int x, a4, a5] st h Q = iWp d mX8_child 33 [a0, a1, a2, .int x, a4, a5] (.int x :: st) h Q := w_iload_n dX8_child_32 rfl
theorem X8_child_33 : iWp d mX8_child 33 [a0, a1, a2, a3, a4, a5] (.int x :: st) h Q = if x < 0 then iWp d mX8_child 47 [a0, a1, a2, a3, a4, a5] st h Q else iWp d mX8_child 36 [a0, a1, a2, a3, a4, a5] st h Q := w_ifc_lt dX8_child_33 rfl
theorem X8_child_36 : iWp d mX8_child 36 [a0, a1, a2, .int x, a4, a5] st h Q = iWp d mX8_child 37 [a0, a1, a2, .int x, a4, a5] (.int x :: st) h Q := w_iload_n dX8_child_36 rfl
theorem X8_child_37 : iWp d mX8_child 37 [a0, a1, a2, a3, .ref p, a5] st h Q = iWp d mX8_child 39 [a0, a1, a2, a3, .ref p, a5] (.ref p :: st) h Q := w_aload dX8_child_37 rfl
theorem X8_child_37n : iWp d mX8_child 37 [a0, a1, a2, a3, .null, a5] st h Q = iWp d mX8_child 39 [a0, a1, a2, a3, .null, a5] (.null :: st) h Q := w_aloadN dX8_child_37 rfl
theorem X8_child_39 : iWp d mX8_child 39 [a0, a1, a2, a3, a4, .int x] st h Q = iWp d mX8_child 41 [a0, a1, a2, a3, a4, .int x] (.int x :: st) h Q := w_iload dX8_child_39 rfl
theorem X8_child_41 (he : iEv mX7_childCount [.ref p, .int x0] h (some (.int rv)) h2) (ho : iObj h p 7 = true) : iWp 4 mX8_child 41 [a0, a1, a2, a3, a4, a5] [.int x0, .ref p, .int r0] h Q = iWp 4 mX8_child 44 [a0, a1, a2, a3, a4, a5] [.int rv, .int r0] h2 Q := iWp_cV dX8_child_41 fK_8_143 rfl rfl ho (Nat.le_of_ble_eq_true rfl) (Nat.le_of_ble_eq_true rfl) rfl (Nat.le_of_ble_eq_true rfl) he rfl
theorem X8_child_44 : iWp d mX8_child 44 [a0, a1, a2, a3, a4, a5] (.int y :: .int x :: st) h Q = if x < y then iWp d mX8_child 54 [a0, a1, a2, a3, a4, a5] st h Q else iWp d mX8_child 47 [a0, a1, a2, a3, a4, a5] st h Q := w_icmp_lt dX8_child_44 rfl
theorem X8_child_47 : iWp d mX8_child 47 [.ref p, a1, a2, a3, a4, a5] st h Q = iWp d mX8_child 48 [.ref p, a1, a2, a3, a4, a5] (.ref p :: st) h Q := w_aload_n dX8_child_47 rfl
theorem X8_child_48 : iWp d mX8_child 48 [a0, a1, a2, a3, a4, a5] st h Q = iWp d mX8_child 50 [a0, a1, a2, a3, a4, a5] (.int (-5) :: st) h Q := w_bipush dX8_child_48 rfl
theorem X8_child_50 (he : iEv mX8_refuse [.ref p, .int x0] h (some (.int rv)) h2) (ho : iObj h p 8 = true) : iWp 4 mX8_child 50 [a0, a1, a2, a3, a4, a5] [.int x0, .ref p] h Q = iWp 4 mX8_child 53 [a0, a1, a2, a3, a4, a5] [.int rv] h2 Q := iWp_cV dX8_child_50 fK_8_50 rfl rfl ho (Nat.le_of_ble_eq_true rfl) (Nat.le_of_ble_eq_true rfl) rfl (Nat.le_of_ble_eq_true rfl) he rfl
theorem X8_child_53 : iWp d mX8_child 53 [a0, a1, a2, a3, a4, a5] [.int x] h Q = Q (some (.int x)) h := w_ireti dX8_child_53 rfl
theorem X8_child_54 : iWp d mX8_child 54 [a0, a1, a2, a3, .ref p, a5] st h Q = iWp d mX8_child 56 [a0, a1, a2, a3, .ref p, a5] (.ref p :: st) h Q := w_aload dX8_child_54 rfl
theorem X8_child_54n : iWp d mX8_child 54 [a0, a1, a2, a3, .null, a5] st h Q = iWp d mX8_child 56 [a0, a1, a2, a3, .null, a5] (.null :: st) h Q := w_aloadN dX8_child_54 rfl
theorem X8_child_56 : iWp d mX8_child 56 [a0, a1, a2, a3, .ref p, a5] st h Q = iWp d mX8_child 58 [a0, a1, a2, a3, .ref p, a5] (.ref p :: st) h Q := w_aload dX8_child_56 rfl
theorem X8_child_56n : iWp d mX8_child 56 [a0, a1, a2, a3, .null, a5] st h Q = iWp d mX8_child 58 [a0, a1, a2, a3, .null, a5] (.null :: st) h Q := w_aloadN dX8_child_56 rfl
theorem X8_child_58 : iWp d mX8_child 58 [a0, a1, a2, a3, a4, .int x] st h Q = iWp d mX8_child 60 [a0, a1, a2, a3, a4, .int x] (.int x :: st) h Q := w_iload dX8_child_58 rfl
theorem X8_child_60 : iWp d mX8_child 60 [a0, a1, a2, .int x, a4, a5] st h Q = iWp d mX8_child 61 [a0, a1, a2, .int x, a4, a5] (.int x :: st) h Q := w_iload_n dX8_child_60 rfl
theorem X8_child_61 : iWp d mX8_child 61 [a0, a1, a2, a3, a4, a5] st h Q = iWp d mX8_child 62 [a0, a1, a2, a3, a4, a5] (.int (-1) :: st) h Q := w_iconst dX8_child_61 rfl
theorem X8_child_62 (he : iEv mX7_spot [.ref p, .int x0, .int x1, .int x2] h (some (.int rv)) h2) (ho : iObj h p 7 = true) : iWp 4 mX8_child 62 [a0, a1, a2, a3, a4, a5] [.int x2, .int x1, .int x0, .ref p, .ref t0] h Q = iWp 4 mX8_child 65 [a0, a1, a2, a3, a4, a5] [.int rv, .ref t0] h2 Q := iWp_cV dX8_child_62 fK_8_158 rfl rfl ho (Nat.le_of_ble_eq_true rfl) (Nat.le_of_ble_eq_true rfl) rfl (Nat.le_of_ble_eq_true rfl) he rfl
theorem X8_child_65 (he : iEv mX7_keyAt [.ref p, .int x0] h (some (.int rv)) h2) (ho : iObj h p 7 = true) : iWp 4 mX8_child 65 [a0, a1, a2, a3, a4, a5] [.int x0, .ref p] h Q = iWp 4 mX8_child 68 [a0, a1, a2, a3, a4, a5] [.int rv] h2 Q := iWp_cV dX8_child_65 fK_8_131 rfl rfl ho (Nat.le_of_ble_eq_true rfl) (Nat.le_of_ble_eq_true rfl) rfl (Nat.le_of_ble_eq_true rfl) he rfl
theorem X8_child_68 : iWp d mX8_child 68 [a0, a1, a2, a3, a4, a5] [.int x] h Q = Q (some (.int x)) h := w_ireti dX8_child_68 rfl
theorem I8_child {Q : Option Value → iHp → Prop} (hw : iWp 4 mX8_child 0 [.ref p, .int x0, .int x1, .int x2, iU, iU] [] h Q) : ∃ r h1, iEv mX8_child [.ref p, .int x0, .int x1, .int x2] h r h1 ∧ Q r h1 := iEv_of (by rfl) rfl hw
theorem J8_child {r : Option Value} {h1 : iHp} (hw : iWp 4 mX8_child 0 [.ref p, .int x0, .int x1, .int x2, iU, iU] [] h (fun r' h' => r' = r ∧ h' = h1)) : iEv mX8_child [.ref p, .int x0, .int x1, .int x2] h r h1 := iEv_ev (by rfl) rfl hw
theorem X8_conflict_0 : iWp d mX8_conflict 0 [.ref p, a1, a2, a3, a4] st h Q = iWp d mX8_conflict 1 [.ref p, a1, a2, a3, a4] (.ref p :: st) h Q := w_aload_n dX8_conflict_0 rfl
theorem X8_conflict_1 : iWp d mX8_conflict 1 [a0, .int x, a2, a3, a4] st h Q = iWp d mX8_conflict 2 [a0, .int x, a2, a3, a4] (.int x :: st) h Q := w_iload_n dX8_conflict_1 rfl
theorem X8_conflict_2 (he : iEv mX8_patchAt [.ref p, .int x0] h (some rw) h2) (ho : iObj h p 8 = true) : iWp 3 mX8_conflict 2 [a0, a1, a2, a3, a4] [.int x0, .ref p] h Q = iWp 3 mX8_conflict 5 [a0, a1, a2, a3, a4] [rw] h2 Q := iWp_cV dX8_conflict_2 fK_8_92 rfl rfl ho (Nat.le_of_ble_eq_true rfl) (Nat.le_of_ble_eq_true rfl) rfl (Nat.le_of_ble_eq_true rfl) he rfl
theorem X8_conflict_5 : iWp d mX8_conflict 5 [a0, a1, a2, a3, a4] (.ref p :: st) h Q = iWp d mX8_conflict 7 [a0, a1, a2, iClr a3, .ref p] st h Q := w_astore dX8_conflict_5 (Nat.le_of_ble_eq_true rfl) rfl
theorem X8_conflict_5n : iWp d mX8_conflict 5 [a0, a1, a2, a3, a4] (.null :: st) h Q = iWp d mX8_conflict 7 [a0, a1, a2, iClr a3, .null] st h Q := w_astoreN dX8_conflict_5 (Nat.le_of_ble_eq_true rfl) rfl
theorem X8_conflict_7 : iWp d mX8_conflict 7 [a0, a1, a2, a3, .ref p] st h Q = iWp d mX8_conflict 9 [a0, a1, a2, a3, .ref p] (.ref p :: st) h Q := w_aload dX8_conflict_7 rfl
theorem X8_conflict_7n : iWp d mX8_conflict 7 [a0, a1, a2, a3, .null] st h Q = iWp d mX8_conflict 9 [a0, a1, a2, a3, .null] (.null :: st) h Q := w_aloadN dX8_conflict_7 rfl
theorem X8_conflict_9 : iWp d mX8_conflict 9 [a0, a1, a2, a3, a4] (.ref p :: st) h Q = iWp d mX8_conflict 18 [a0, a1, a2, a3, a4] st h Q := w_ifnonnull dX8_conflict_9 rfl
theorem X8_conflict_9n : iWp d mX8_conflict 9 [a0, a1, a2, a3, a4] (.null :: st) h Q = iWp d mX8_conflict 12 [a0, a1, a2, a3, a4] st h Q := w_ifnonnullN dX8_conflict_9
theorem X8_conflict_12 : iWp d mX8_conflict 12 [.ref p, a1, a2, a3, a4] st h Q = iWp d mX8_conflict 13 [.ref p, a1, a2, a3, a4] (.ref p :: st) h Q := w_aload_n dX8_conflict_12 rfl
theorem X8_conflict_13 : iWp d mX8_conflict 13 [a0, a1, a2, a3, a4] st h Q = iWp d mX8_conflict 14 [a0, a1, a2, a3, a4] (.int (-1) :: st) h Q := w_iconst dX8_conflict_13 rfl
theorem X8_conflict_14 (he : iEv mX8_refuse [.ref p, .int x0] h (some (.int rv)) h2) (ho : iObj h p 8 = true) : iWp 3 mX8_conflict 14 [a0, a1, a2, a3, a4] [.int x0, .ref p] h Q = iWp 3 mX8_conflict 17 [a0, a1, a2, a3, a4] [.int rv] h2 Q := iWp_cV dX8_conflict_14 fK_8_50 rfl rfl ho (Nat.le_of_ble_eq_true rfl) (Nat.le_of_ble_eq_true rfl) rfl (Nat.le_of_ble_eq_true rfl) he rfl
theorem X8_conflict_17 : iWp d mX8_conflict 17 [a0, a1, a2, a3, a4] [.int x] h Q = Q (some (.int x)) h := w_ireti dX8_conflict_17 rfl
theorem X8_conflict_18 : iWp d mX8_conflict 18 [a0, a1, .int x, a3, a4] st h Q = iWp d mX8_conflict 19 [a0, a1, .int x, a3, a4] (.int x :: st) h Q := w_iload_n dX8_conflict_18 rfl
theorem X8_conflict_19 : iWp d mX8_conflict 19 [a0, a1, a2, a3, a4] (.int x :: st) h Q = if x < 0 then iWp d mX8_conflict 40 [a0, a1, a2, a3, a4] st h Q else iWp d mX8_conflict 22 [a0, a1, a2, a3, a4] st h Q := w_ifc_lt dX8_conflict_19 rfl
theorem X8_conflict_22 : iWp d mX8_conflict 22 [a0, a1, .int x, a3, a4] st h Q = iWp d mX8_conflict 23 [a0, a1, .int x, a3, a4] (.int x :: st) h Q := w_iload_n dX8_conflict_22 rfl
theorem X8_conflict_23 : iWp d mX8_conflict 23 [a0, a1, a2, a3, .ref p] st h Q = iWp d mX8_conflict 25 [a0, a1, a2, a3, .ref p] (.ref p :: st) h Q := w_aload dX8_conflict_23 rfl
theorem X8_conflict_23n : iWp d mX8_conflict 23 [a0, a1, a2, a3, .null] st h Q = iWp d mX8_conflict 25 [a0, a1, a2, a3, .null] (.null :: st) h Q := w_aloadN dX8_conflict_23 rfl
theorem X8_conflict_25 (he : iEv mX3_conflictCount [.ref p] h (some (.int rv)) h2) (ho : iObj h p 3 = true) : iWp 3 mX8_conflict 25 [a0, a1, a2, a3, a4] [.ref p, .int r0] h Q = iWp 3 mX8_conflict 28 [a0, a1, a2, a3, a4] [.int rv, .int r0] h2 Q := iWp_cV dX8_conflict_25 fK_8_216 rfl rfl ho (Nat.le_of_ble_eq_true rfl) (Nat.le_of_ble_eq_true rfl) rfl (Nat.le_of_ble_eq_true rfl) he rfl
theorem X8_conflict_28 : iWp d mX8_conflict 28 [a0, a1, a2, a3, a4] (.int y :: .int x :: st) h Q = if y ≤ x then iWp d mX8_conflict 40 [a0, a1, a2, a3, a4] st h Q else iWp d mX8_conflict 31 [a0, a1, a2, a3, a4] st h Q := w_icmp_ge dX8_conflict_28 rfl
theorem X8_conflict_31 : iWp d mX8_conflict 31 [a0, a1, a2, .int x, a4] st h Q = iWp d mX8_conflict 32 [a0, a1, a2, .int x, a4] (.int x :: st) h Q := w_iload_n dX8_conflict_31 rfl
theorem X8_conflict_32 : iWp d mX8_conflict 32 [a0, a1, a2, a3, a4] (.int x :: st) h Q = if x < 0 then iWp d mX8_conflict 40 [a0, a1, a2, a3, a4] st h Q else iWp d mX8_conflict 35 [a0, a1, a2, a3, a4] st h Q := w_ifc_lt dX8_conflict_32 rfl
theorem X8_conflict_35 : iWp d mX8_conflict 35 [a0, a1, a2, .int x, a4] st h Q = iWp d mX8_conflict 36 [a0, a1, a2, .int x, a4] (.int x :: st) h Q := w_iload_n dX8_conflict_35 rfl
theorem X8_conflict_36 : iWp d mX8_conflict 36 [a0, a1, a2, a3, a4] st h Q = iWp d mX8_conflict 37 [a0, a1, a2, a3, a4] (.int 1 :: st) h Q := w_iconst dX8_conflict_36 rfl
theorem X8_conflict_37 : iWp d mX8_conflict 37 [a0, a1, a2, a3, a4] (.int y :: .int x :: st) h Q = if x ≤ y then iWp d mX8_conflict 47 [a0, a1, a2, a3, a4] st h Q else iWp d mX8_conflict 40 [a0, a1, a2, a3, a4] st h Q := w_icmp_le dX8_conflict_37 rfl
theorem X8_conflict_40 : iWp d mX8_conflict 40 [.ref p, a1, a2, a3, a4] st h Q = iWp d mX8_conflict 41 [.ref p, a1, a2, a3, a4] (.ref p :: st) h Q := w_aload_n dX8_conflict_40 rfl
theorem X8_conflict_41 : iWp d mX8_conflict 41 [a0, a1, a2, a3, a4] st h Q = iWp d mX8_conflict 43 [a0, a1, a2, a3, a4] (.int (-5) :: st) h Q := w_bipush dX8_conflict_41 rfl
theorem X8_conflict_43 (he : iEv mX8_refuse [.ref p, .int x0] h (some (.int rv)) h2) (ho : iObj h p 8 = true) : iWp 3 mX8_conflict 43 [a0, a1, a2, a3, a4] [.int x0, .ref p] h Q = iWp 3 mX8_conflict 46 [a0, a1, a2, a3, a4] [.int rv] h2 Q := iWp_cV dX8_conflict_43 fK_8_50 rfl rfl ho (Nat.le_of_ble_eq_true rfl) (Nat.le_of_ble_eq_true rfl) rfl (Nat.le_of_ble_eq_true rfl) he rfl
theorem X8_conflict_46 : iWp d mX8_conflict 46 [a0, a1, a2, a3, a4] [.int x] h Q = Q (some (.int x)) h := w_ireti dX8_conflict_46 rfl
theorem X8_conflict_47 : iWp d mX8_conflict 47 [a0, a1, a2, a3, .ref p] st h Q = iWp d mX8_conflict 49 [a0, a1, a2, a3, .ref p] (.ref p :: st) h Q := w_aload dX8_conflict_47 rfl
theorem X8_conflict_47n : iWp d mX8_conflict 47 [a0, a1, a2, a3, .null] st h Q = iWp d mX8_conflict 49 [a0, a1, a2, a3, .null] (.null :: st) h Q := w_aloadN dX8_conflict_47 rfl
theorem X8_conflict_49 : iWp d mX8_conflict 49 [a0, a1, .int x, a3, a4] st h Q = iWp d mX8_conflict 50 [a0, a1, .int x, a3, a4] (.int x :: st) h Q := w_iload_n dX8_conflict_49 rfl
theorem X8_conflict_50 : iWp d mX8_conflict 50 [a0, a1, a2, .int x, a4] st h Q = iWp d mX8_conflict 51 [a0, a1, a2, .int x, a4] (.int x :: st) h Q := w_iload_n dX8_conflict_50 rfl
theorem X8_conflict_51 (he : iEv mX3_conflictAt [.ref p, .int x0, .int x1] h (some (.int rv)) h2) (ho : iObj h p 3 = true) : iWp 3 mX8_conflict 51 [a0, a1, a2, a3, a4] [.int x1, .int x0, .ref p] h Q = iWp 3 mX8_conflict 54 [a0, a1, a2, a3, a4] [.int rv] h2 Q := iWp_cV dX8_conflict_51 fK_8_219 rfl rfl ho (Nat.le_of_ble_eq_true rfl) (Nat.le_of_ble_eq_true rfl) rfl (Nat.le_of_ble_eq_true rfl) he rfl
theorem X8_conflict_54 : iWp d mX8_conflict 54 [a0, a1, a2, a3, a4] [.int x] h Q = Q (some (.int x)) h := w_ireti dX8_conflict_54 rfl
theorem I8_conflict {Q : Option Value → iHp → Prop} (hw : iWp 3 mX8_conflict 0 [.ref p, .int x0, .int x1, .int x2, iU] [] h Q) : ∃ r h1, iEv mX8_conflict [.ref p, .int x0, .int x1, .int x2] h r h1 ∧ Q r h1 := iEv_of (by rfl) rfl hw
theorem J8_conflict {r : Option Value} {h1 : iHp} (hw : iWp 3 mX8_conflict 0 [.ref p, .int x0, .int x1, .int x2, iU] [] h (fun r' h' => r' = r ∧ h' = h1)) : iEv mX8_conflict [.ref p, .int x0, .int x1, .int x2] h r h1 := iEv_ev (by rfl) rfl hw
theorem X8_copy_0 : iWp d mX8_copy 0 [a0, .int x, a2, a3, a4, a5, a6, a7] st h Q = iWp d mX8_copy 1 [a0, .int x, a2, a3, a4, a5, a6, a7] (.int x :: st) h Q := w_iload_n dX8_copy_0 rfl
theorem X8_copy_1 (he : iEv mX8_isShelf [.int x0] h (some (.int rv)) h2) : iWp 3 mX8_copy 1 [a0, a1, a2, a3, a4, a5, a6, a7] [.int x0] h Q = iWp 3 mX8_copy 4 [a0, a1, a2, a3, a4, a5, a6, a7] [.int rv] h2 Q := iWp_cS dX8_copy_1 fK_8_46 rfl rfl (Nat.le_of_ble_eq_true rfl) (Nat.le_of_ble_eq_true rfl) rfl (Nat.le_of_ble_eq_true rfl) he rfl
theorem X8_copy_4 : iWp d mX8_copy 4 [a0, a1, a2, a3, a4, a5, a6, a7] (.int x :: st) h Q = if x = 0 then iWp d mX8_copy 14 [a0, a1, a2, a3, a4, a5, a6, a7] st h Q else iWp d mX8_copy 7 [a0, a1, a2, a3, a4, a5, a6, a7] st h Q := w_ifc_eq dX8_copy_4 rfl
theorem X8_copy_7 : iWp d mX8_copy 7 [a0, a1, .int x, a3, a4, a5, a6, a7] st h Q = iWp d mX8_copy 8 [a0, a1, .int x, a3, a4, a5, a6, a7] (.int x :: st) h Q := w_iload_n dX8_copy_7 rfl
theorem X8_copy_8 (he : iEv mX8_isShelf [.int x0] h (some (.int rv)) h2) : iWp 3 mX8_copy 8 [a0, a1, a2, a3, a4, a5, a6, a7] [.int x0] h Q = iWp 3 mX8_copy 11 [a0, a1, a2, a3, a4, a5, a6, a7] [.int rv] h2 Q := iWp_cS dX8_copy_8 fK_8_46 rfl rfl (Nat.le_of_ble_eq_true rfl) (Nat.le_of_ble_eq_true rfl) rfl (Nat.le_of_ble_eq_true rfl) he rfl
theorem X8_copy_11 : iWp d mX8_copy 11 [a0, a1, a2, a3, a4, a5, a6, a7] (.int x :: st) h Q = if x = 0 then iWp d mX8_copy 14 [a0, a1, a2, a3, a4, a5, a6, a7] st h Q else iWp d mX8_copy 20 [a0, a1, a2, a3, a4, a5, a6, a7] st h Q := w_ifc_ne dX8_copy_11 rfl
theorem X8_copy_14 : iWp d mX8_copy 14 [.ref p, a1, a2, a3, a4, a5, a6, a7] st h Q = iWp d mX8_copy 15 [.ref p, a1, a2, a3, a4, a5, a6, a7] (.ref p :: st) h Q := w_aload_n dX8_copy_14 rfl
theorem X8_copy_15 : iWp d mX8_copy 15 [a0, a1, a2, a3, a4, a5, a6, a7] st h Q = iWp d mX8_copy 16 [a0, a1, a2, a3, a4, a5, a6, a7] (.int (-1) :: st) h Q := w_iconst dX8_copy_15 rfl
theorem X8_copy_16 (he : iEv mX8_refuse [.ref p, .int x0] h (some (.int rv)) h2) (ho : iObj h p 8 = true) : iWp 3 mX8_copy 16 [a0, a1, a2, a3, a4, a5, a6, a7] [.int x0, .ref p] h Q = iWp 3 mX8_copy 19 [a0, a1, a2, a3, a4, a5, a6, a7] [.int rv] h2 Q := iWp_cV dX8_copy_16 fK_8_50 rfl rfl ho (Nat.le_of_ble_eq_true rfl) (Nat.le_of_ble_eq_true rfl) rfl (Nat.le_of_ble_eq_true rfl) he rfl
theorem X8_copy_19 : iWp d mX8_copy 19 [a0, a1, a2, a3, a4, a5, a6, a7] [.int x] h Q = Q (some (.int x)) h := w_ireti dX8_copy_19 rfl
theorem X8_copy_20 : iWp d mX8_copy 20 [.ref p, a1, a2, a3, a4, a5, a6, a7] st h Q = iWp d mX8_copy 21 [.ref p, a1, a2, a3, a4, a5, a6, a7] (.ref p :: st) h Q := w_aload_n dX8_copy_20 rfl
theorem X8_copy_21 : iWp d mX8_copy 21 [a0, .int x, a2, a3, a4, a5, a6, a7] st h Q = iWp d mX8_copy 22 [a0, .int x, a2, a3, a4, a5, a6, a7] (.int x :: st) h Q := w_iload_n dX8_copy_21 rfl
theorem X8_copy_22 (he : iEv mX8_rowAt [.ref p, .int x0] h (some rw) h2) (ho : iObj h p 8 = true) : iWp 3 mX8_copy 22 [a0, a1, a2, a3, a4, a5, a6, a7] [.int x0, .ref p] h Q = iWp 3 mX8_copy 25 [a0, a1, a2, a3, a4, a5, a6, a7] [rw] h2 Q := iWp_cV dX8_copy_22 fK_8_57 rfl rfl ho (Nat.le_of_ble_eq_true rfl) (Nat.le_of_ble_eq_true rfl) rfl (Nat.le_of_ble_eq_true rfl) he rfl
theorem X8_copy_25 : iWp d mX8_copy 25 [a0, a1, a2, a3, a4, a5, a6, a7] (.ref p :: st) h Q = iWp d mX8_copy 27 [a0, a1, a2, a3, a4, iClr a5, .ref p, a7] st h Q := w_astore dX8_copy_25 (Nat.le_of_ble_eq_true rfl) rfl
theorem X8_copy_25n : iWp d mX8_copy 25 [a0, a1, a2, a3, a4, a5, a6, a7] (.null :: st) h Q = iWp d mX8_copy 27 [a0, a1, a2, a3, a4, iClr a5, .null, a7] st h Q := w_astoreN dX8_copy_25 (Nat.le_of_ble_eq_true rfl) rfl
theorem X8_copy_27 : iWp d mX8_copy 27 [.ref p, a1, a2, a3, a4, a5, a6, a7] st h Q = iWp d mX8_copy 28 [.ref p, a1, a2, a3, a4, a5, a6, a7] (.ref p :: st) h Q := w_aload_n dX8_copy_27 rfl
theorem X8_copy_28 : iWp d mX8_copy 28 [a0, a1, .int x, a3, a4, a5, a6, a7] st h Q = iWp d mX8_copy 29 [a0, a1, .int x, a3, a4, a5, a6, a7] (.int x :: st) h Q := w_iload_n dX8_copy_28 rfl
theorem X8_copy_29 (he : iEv mX8_rowAt [.ref p, .int x0] h (some rw) h2) (ho : iObj h p 8 = true) : iWp 3 mX8_copy 29 [a0, a1, a2, a3, a4, a5, a6, a7] [.int x0, .ref p] h Q = iWp 3 mX8_copy 32 [a0, a1, a2, a3, a4, a5, a6, a7] [rw] h2 Q := iWp_cV dX8_copy_29 fK_8_57 rfl rfl ho (Nat.le_of_ble_eq_true rfl) (Nat.le_of_ble_eq_true rfl) rfl (Nat.le_of_ble_eq_true rfl) he rfl
theorem X8_copy_32 : iWp d mX8_copy 32 [a0, a1, a2, a3, a4, a5, a6, a7] (.ref p :: st) h Q = iWp d mX8_copy 34 [a0, a1, a2, a3, a4, a5, iClr a6, .ref p] st h Q := w_astore dX8_copy_32 (Nat.le_of_ble_eq_true rfl) rfl
theorem X8_copy_32n : iWp d mX8_copy 32 [a0, a1, a2, a3, a4, a5, a6, a7] (.null :: st) h Q = iWp d mX8_copy 34 [a0, a1, a2, a3, a4, a5, iClr a6, .null] st h Q := w_astoreN dX8_copy_32 (Nat.le_of_ble_eq_true rfl) rfl
theorem X8_copy_34 : iWp d mX8_copy 34 [.ref p, a1, a2, a3, a4, a5, a6, a7] st h Q = iWp d mX8_copy 35 [.ref p, a1, a2, a3, a4, a5, a6, a7] (.ref p :: st) h Q := w_aload_n dX8_copy_34 rfl
theorem X8_copy_35 : iWp d mX8_copy 35 [a0, a1, a2, a3, a4, a5, a6, a7] (.ref p :: st) h Q = iOb (iGet h p 8 1) (fun v => iWp d mX8_copy 38 [a0, a1, a2, a3, a4, a5, a6, a7] (v :: st) h Q) := w_getf dX8_copy_35 fF_8_15
theorem X8_copy_38 : iWp d mX8_copy 38 [a0, .int x, a2, a3, a4, a5, a6, a7] st h Q = iWp d mX8_copy 39 [a0, .int x, a2, a3, a4, a5, a6, a7] (.int x :: st) h Q := w_iload_n dX8_copy_38 rfl
theorem X8_copy_39 : iWp d mX8_copy 39 [a0, a1, a2, a3, a4, a5, a6, a7] (.int x :: .ref p :: st) h Q = iOb (iLdI h p x) (fun v => iWp d mX8_copy 40 [a0, a1, a2, a3, a4, a5, a6, a7] (.int v :: st) h Q) := w_iaload dX8_copy_39
theorem X8_copy_40 : iWp d mX8_copy 40 [a0, a1, a2, a3, a4, a5, a6, a7] st h Q = iWp d mX8_copy 41 [a0, a1, a2, a3, a4, a5, a6, a7] (.int (-1) :: st) h Q := w_iconst dX8_copy_40 rfl
theorem X8_copy_41 : iWp d mX8_copy 41 [a0, a1, a2, a3, a4, a5, a6, a7] (.int y :: .int x :: st) h Q = if x = y then iWp d mX8_copy 44 [a0, a1, a2, a3, a4, a5, a6, a7] st h Q else iWp d mX8_copy 54 [a0, a1, a2, a3, a4, a5, a6, a7] st h Q := w_icmp_ne dX8_copy_41 rfl
theorem X8_copy_44 : iWp d mX8_copy 44 [.ref p, a1, a2, a3, a4, a5, a6, a7] st h Q = iWp d mX8_copy 45 [.ref p, a1, a2, a3, a4, a5, a6, a7] (.ref p :: st) h Q := w_aload_n dX8_copy_44 rfl
theorem X8_copy_45 : iWp d mX8_copy 45 [a0, a1, a2, a3, a4, a5, a6, a7] (.ref p :: st) h Q = iOb (iGet h p 8 1) (fun v => iWp d mX8_copy 48 [a0, a1, a2, a3, a4, a5, a6, a7] (v :: st) h Q) := w_getf dX8_copy_45 fF_8_15
theorem X8_copy_48 : iWp d mX8_copy 48 [a0, a1, .int x, a3, a4, a5, a6, a7] st h Q = iWp d mX8_copy 49 [a0, a1, .int x, a3, a4, a5, a6, a7] (.int x :: st) h Q := w_iload_n dX8_copy_48 rfl
theorem X8_copy_49 : iWp d mX8_copy 49 [a0, a1, a2, a3, a4, a5, a6, a7] (.int x :: .ref p :: st) h Q = iOb (iLdI h p x) (fun v => iWp d mX8_copy 50 [a0, a1, a2, a3, a4, a5, a6, a7] (.int v :: st) h Q) := w_iaload dX8_copy_49
theorem X8_copy_50 : iWp d mX8_copy 50 [a0, a1, a2, a3, a4, a5, a6, a7] st h Q = iWp d mX8_copy 51 [a0, a1, a2, a3, a4, a5, a6, a7] (.int (-1) :: st) h Q := w_iconst dX8_copy_50 rfl
theorem X8_copy_51 : iWp d mX8_copy 51 [a0, a1, a2, a3, a4, a5, a6, a7] (.int y :: .int x :: st) h Q = if x = y then iWp d mX8_copy 61 [a0, a1, a2, a3, a4, a5, a6, a7] st h Q else iWp d mX8_copy 54 [a0, a1, a2, a3, a4, a5, a6, a7] st h Q := w_icmp_eq dX8_copy_51 rfl
theorem X8_copy_54 : iWp d mX8_copy 54 [.ref p, a1, a2, a3, a4, a5, a6, a7] st h Q = iWp d mX8_copy 55 [.ref p, a1, a2, a3, a4, a5, a6, a7] (.ref p :: st) h Q := w_aload_n dX8_copy_54 rfl
theorem X8_copy_55 : iWp d mX8_copy 55 [a0, a1, a2, a3, a4, a5, a6, a7] st h Q = iWp d mX8_copy 57 [a0, a1, a2, a3, a4, a5, a6, a7] (.int (-2) :: st) h Q := w_bipush dX8_copy_55 rfl
theorem X8_copy_57 (he : iEv mX8_refuse [.ref p, .int x0] h (some (.int rv)) h2) (ho : iObj h p 8 = true) : iWp 3 mX8_copy 57 [a0, a1, a2, a3, a4, a5, a6, a7] [.int x0, .ref p] h Q = iWp 3 mX8_copy 60 [a0, a1, a2, a3, a4, a5, a6, a7] [.int rv] h2 Q := iWp_cV dX8_copy_57 fK_8_50 rfl rfl ho (Nat.le_of_ble_eq_true rfl) (Nat.le_of_ble_eq_true rfl) rfl (Nat.le_of_ble_eq_true rfl) he rfl
theorem X8_copy_60 : iWp d mX8_copy 60 [a0, a1, a2, a3, a4, a5, a6, a7] [.int x] h Q = Q (some (.int x)) h := w_ireti dX8_copy_60 rfl
theorem X8_copy_61 : iWp d mX8_copy 61 [a0, a1, a2, a3, a4, a5, .ref p, a7] st h Q = iWp d mX8_copy 63 [a0, a1, a2, a3, a4, a5, .ref p, a7] (.ref p :: st) h Q := w_aload dX8_copy_61 rfl
theorem X8_copy_61n : iWp d mX8_copy 61 [a0, a1, a2, a3, a4, a5, .null, a7] st h Q = iWp d mX8_copy 63 [a0, a1, a2, a3, a4, a5, .null, a7] (.null :: st) h Q := w_aloadN dX8_copy_61 rfl
theorem X8_copy_63 : iWp d mX8_copy 63 [a0, a1, a2, a3, a4, a5, a6, a7] (.ref p :: st) h Q = iWp d mX8_copy 66 [a0, a1, a2, a3, a4, a5, a6, a7] st h Q := w_ifnull dX8_copy_63
theorem X8_copy_63n : iWp d mX8_copy 63 [a0, a1, a2, a3, a4, a5, a6, a7] (.null :: st) h Q = iWp d mX8_copy 91 [a0, a1, a2, a3, a4, a5, a6, a7] st h Q := w_ifnullN dX8_copy_63 rfl
theorem X8_copy_66 : iWp d mX8_copy 66 [a0, a1, a2, a3, a4, a5, a6, .ref p] st h Q = iWp d mX8_copy 68 [a0, a1, a2, a3, a4, a5, a6, .ref p] (.ref p :: st) h Q := w_aload dX8_copy_66 rfl
theorem X8_copy_66n : iWp d mX8_copy 66 [a0, a1, a2, a3, a4, a5, a6, .null] st h Q = iWp d mX8_copy 68 [a0, a1, a2, a3, a4, a5, a6, .null] (.null :: st) h Q := w_aloadN dX8_copy_66 rfl
theorem X8_copy_68 : iWp d mX8_copy 68 [a0, a1, a2, a3, a4, a5, a6, a7] (.ref p :: st) h Q = iWp d mX8_copy 71 [a0, a1, a2, a3, a4, a5, a6, a7] st h Q := w_ifnull dX8_copy_68
theorem X8_copy_68n : iWp d mX8_copy 68 [a0, a1, a2, a3, a4, a5, a6, a7] (.null :: st) h Q = iWp d mX8_copy 91 [a0, a1, a2, a3, a4, a5, a6, a7] st h Q := w_ifnullN dX8_copy_68 rfl
theorem X8_copy_71 : iWp d mX8_copy 71 [a0, a1, a2, a3, a4, a5, .ref p, a7] st h Q = iWp d mX8_copy 73 [a0, a1, a2, a3, a4, a5, .ref p, a7] (.ref p :: st) h Q := w_aload dX8_copy_71 rfl
theorem X8_copy_71n : iWp d mX8_copy 71 [a0, a1, a2, a3, a4, a5, .null, a7] st h Q = iWp d mX8_copy 73 [a0, a1, a2, a3, a4, a5, .null, a7] (.null :: st) h Q := w_aloadN dX8_copy_71 rfl
theorem X8_copy_73 : iWp d mX8_copy 73 [a0, a1, a2, a3, a4, a5, a6, a7] (.ref p :: st) h Q = iOb (iGet h p 5 0) (fun v => iWp d mX8_copy 76 [a0, a1, a2, a3, a4, a5, a6, a7] (v :: st) h Q) := w_getf dX8_copy_73 fF_8_71
theorem X8_copy_76 : iWp d mX8_copy 76 [a0, a1, a2, a3, a4, a5, a6, .ref p] st h Q = iWp d mX8_copy 78 [a0, a1, a2, a3, a4, a5, a6, .ref p] (.ref p :: st) h Q := w_aload dX8_copy_76 rfl
theorem X8_copy_76n : iWp d mX8_copy 76 [a0, a1, a2, a3, a4, a5, a6, .null] st h Q = iWp d mX8_copy 78 [a0, a1, a2, a3, a4, a5, a6, .null] (.null :: st) h Q := w_aloadN dX8_copy_76 rfl
theorem X8_copy_78 : iWp d mX8_copy 78 [a0, a1, a2, a3, a4, a5, a6, a7] (.ref p :: st) h Q = iOb (iGet h p 5 0) (fun v => iWp d mX8_copy 81 [a0, a1, a2, a3, a4, a5, a6, a7] (v :: st) h Q) := w_getf dX8_copy_78 fF_8_71
theorem X8_copy_81 : iWp d mX8_copy 81 [a0, a1, a2, a3, a4, a5, a6, a7] (.int y :: .int x :: st) h Q = if x = y then iWp d mX8_copy 91 [a0, a1, a2, a3, a4, a5, a6, a7] st h Q else iWp d mX8_copy 84 [a0, a1, a2, a3, a4, a5, a6, a7] st h Q := w_icmp_eq dX8_copy_81 rfl
theorem X8_copy_84 : iWp d mX8_copy 84 [.ref p, a1, a2, a3, a4, a5, a6, a7] st h Q = iWp d mX8_copy 85 [.ref p, a1, a2, a3, a4, a5, a6, a7] (.ref p :: st) h Q := w_aload_n dX8_copy_84 rfl
theorem X8_copy_85 : iWp d mX8_copy 85 [a0, a1, a2, a3, a4, a5, a6, a7] st h Q = iWp d mX8_copy 87 [a0, a1, a2, a3, a4, a5, a6, a7] (.int (-2) :: st) h Q := w_bipush dX8_copy_85 rfl
theorem X8_copy_87 (he : iEv mX8_refuse [.ref p, .int x0] h (some (.int rv)) h2) (ho : iObj h p 8 = true) : iWp 3 mX8_copy 87 [a0, a1, a2, a3, a4, a5, a6, a7] [.int x0, .ref p] h Q = iWp 3 mX8_copy 90 [a0, a1, a2, a3, a4, a5, a6, a7] [.int rv] h2 Q := iWp_cV dX8_copy_87 fK_8_50 rfl rfl ho (Nat.le_of_ble_eq_true rfl) (Nat.le_of_ble_eq_true rfl) rfl (Nat.le_of_ble_eq_true rfl) he rfl
theorem X8_copy_90 : iWp d mX8_copy 90 [a0, a1, a2, a3, a4, a5, a6, a7] [.int x] h Q = Q (some (.int x)) h := w_ireti dX8_copy_90 rfl
theorem X8_copy_91 : iWp d mX8_copy 91 [a0, a1, a2, a3, a4, a5, .ref p, a7] st h Q = iWp d mX8_copy 93 [a0, a1, a2, a3, a4, a5, .ref p, a7] (.ref p :: st) h Q := w_aload dX8_copy_91 rfl
theorem X8_copy_91n : iWp d mX8_copy 91 [a0, a1, a2, a3, a4, a5, .null, a7] st h Q = iWp d mX8_copy 93 [a0, a1, a2, a3, a4, a5, .null, a7] (.null :: st) h Q := w_aloadN dX8_copy_91 rfl
theorem X8_copy_93 : iWp d mX8_copy 93 [a0, a1, a2, a3, a4, a5, a6, a7] (.ref p :: st) h Q = iWp d mX8_copy 96 [a0, a1, a2, a3, a4, a5, a6, a7] st h Q := w_ifnull dX8_copy_93
theorem X8_copy_93n : iWp d mX8_copy 93 [a0, a1, a2, a3, a4, a5, a6, a7] (.null :: st) h Q = iWp d mX8_copy 101 [a0, a1, a2, a3, a4, a5, a6, a7] st h Q := w_ifnullN dX8_copy_93 rfl
theorem X8_copy_96 : iWp d mX8_copy 96 [a0, a1, a2, a3, a4, a5, a6, .ref p] st h Q = iWp d mX8_copy 98 [a0, a1, a2, a3, a4, a5, a6, .ref p] (.ref p :: st) h Q := w_aload dX8_copy_96 rfl
theorem X8_copy_96n : iWp d mX8_copy 96 [a0, a1, a2, a3, a4, a5, a6, .null] st h Q = iWp d mX8_copy 98 [a0, a1, a2, a3, a4, a5, a6, .null] (.null :: st) h Q := w_aloadN dX8_copy_96 rfl
theorem X8_copy_98 : iWp d mX8_copy 98 [a0, a1, a2, a3, a4, a5, a6, a7] (.ref p :: st) h Q = iWp d mX8_copy 108 [a0, a1, a2, a3, a4, a5, a6, a7] st h Q := w_ifnonnull dX8_copy_98 rfl
theorem X8_copy_98n : iWp d mX8_copy 98 [a0, a1, a2, a3, a4, a5, a6, a7] (.null :: st) h Q = iWp d mX8_copy 101 [a0, a1, a2, a3, a4, a5, a6, a7] st h Q := w_ifnonnullN dX8_copy_98
theorem X8_copy_101 : iWp d mX8_copy 101 [.ref p, a1, a2, a3, a4, a5, a6, a7] st h Q = iWp d mX8_copy 102 [.ref p, a1, a2, a3, a4, a5, a6, a7] (.ref p :: st) h Q := w_aload_n dX8_copy_101 rfl
theorem X8_copy_102 : iWp d mX8_copy 102 [a0, a1, a2, a3, a4, a5, a6, a7] st h Q = iWp d mX8_copy 104 [a0, a1, a2, a3, a4, a5, a6, a7] (.int (-3) :: st) h Q := w_bipush dX8_copy_102 rfl
theorem X8_copy_104 (he : iEv mX8_refuse [.ref p, .int x0] h (some (.int rv)) h2) (ho : iObj h p 8 = true) : iWp 3 mX8_copy 104 [a0, a1, a2, a3, a4, a5, a6, a7] [.int x0, .ref p] h Q = iWp 3 mX8_copy 107 [a0, a1, a2, a3, a4, a5, a6, a7] [.int rv] h2 Q := iWp_cV dX8_copy_104 fK_8_50 rfl rfl ho (Nat.le_of_ble_eq_true rfl) (Nat.le_of_ble_eq_true rfl) rfl (Nat.le_of_ble_eq_true rfl) he rfl
theorem X8_copy_107 : iWp d mX8_copy 107 [a0, a1, a2, a3, a4, a5, a6, a7] [.int x] h Q = Q (some (.int x)) h := w_ireti dX8_copy_107 rfl
theorem X8_copy_108 : iWp d mX8_copy 108 [a0, a1, a2, a3, a4, .int x, a6, a7] st h Q = iWp d mX8_copy 110 [a0, a1, a2, a3, a4, .int x, a6, a7] (.int x :: st) h Q := w_iload dX8_copy_108 rfl
theorem X8_copy_110 : iWp d mX8_copy 110 [a0, a1, a2, a3, a4, a5, a6, a7] (.int x :: st) h Q = if 0 ≤ x then iWp d mX8_copy 120 [a0, a1, a2, a3, a4, a5, a6, a7] st h Q else iWp d mX8_copy 113 [a0, a1, a2, a3, a4, a5, a6, a7] st h Q := w_ifc_ge dX8_copy_110 rfl
theorem X8_copy_113 : iWp d mX8_copy 113 [.ref p, a1, a2, a3, a4, a5, a6, a7] st h Q = iWp d mX8_copy 114 [.ref p, a1, a2, a3, a4, a5, a6, a7] (.ref p :: st) h Q := w_aload_n dX8_copy_113 rfl
theorem X8_copy_114 : iWp d mX8_copy 114 [a0, a1, a2, a3, a4, a5, a6, a7] st h Q = iWp d mX8_copy 116 [a0, a1, a2, a3, a4, a5, a6, a7] (.int (-4) :: st) h Q := w_bipush dX8_copy_114 rfl
theorem X8_copy_116 (he : iEv mX8_refuse [.ref p, .int x0] h (some (.int rv)) h2) (ho : iObj h p 8 = true) : iWp 3 mX8_copy 116 [a0, a1, a2, a3, a4, a5, a6, a7] [.int x0, .ref p] h Q = iWp 3 mX8_copy 119 [a0, a1, a2, a3, a4, a5, a6, a7] [.int rv] h2 Q := iWp_cV dX8_copy_116 fK_8_50 rfl rfl ho (Nat.le_of_ble_eq_true rfl) (Nat.le_of_ble_eq_true rfl) rfl (Nat.le_of_ble_eq_true rfl) he rfl
theorem X8_copy_119 : iWp d mX8_copy 119 [a0, a1, a2, a3, a4, a5, a6, a7] [.int x] h Q = Q (some (.int x)) h := w_ireti dX8_copy_119 rfl
theorem X8_copy_120 : iWp d mX8_copy 120 [a0, a1, a2, a3, a4, a5, .ref p, a7] st h Q = iWp d mX8_copy 122 [a0, a1, a2, a3, a4, a5, .ref p, a7] (.ref p :: st) h Q := w_aload dX8_copy_120 rfl
theorem X8_copy_120n : iWp d mX8_copy 120 [a0, a1, a2, a3, a4, a5, .null, a7] st h Q = iWp d mX8_copy 122 [a0, a1, a2, a3, a4, a5, .null, a7] (.null :: st) h Q := w_aloadN dX8_copy_120 rfl
theorem X8_copy_122 : iWp d mX8_copy 122 [a0, a1, a2, .int x, a4, a5, a6, a7] st h Q = iWp d mX8_copy 123 [a0, a1, a2, .int x, a4, a5, a6, a7] (.int x :: st) h Q := w_iload_n dX8_copy_122 rfl
theorem X8_copy_123 : iWp d mX8_copy 123 [a0, a1, a2, a3, a4, .int x, a6, a7] st h Q = iWp d mX8_copy 125 [a0, a1, a2, a3, a4, .int x, a6, a7] (.int x :: st) h Q := w_iload dX8_copy_123 rfl
theorem X8_copy_125 (he : iEv mX5_hasRun [.ref p, .int x0, .int x1] h (some (.int rv)) h2) (ho : iObj h p 5 = true) : iWp 3 mX8_copy 125 [a0, a1, a2, a3, a4, a5, a6, a7] [.int x1, .int x0, .ref p] h Q = iWp 3 mX8_copy 128 [a0, a1, a2, a3, a4, a5, a6, a7] [.int rv] h2 Q := iWp_cV dX8_copy_125 fK_8_74 rfl rfl ho (Nat.le_of_ble_eq_true rfl) (Nat.le_of_ble_eq_true rfl) rfl (Nat.le_of_ble_eq_true rfl) he rfl
theorem X8_copy_128 : iWp d mX8_copy 128 [a0, a1, a2, a3, a4, a5, a6, a7] (.int x :: st) h Q = if x = 0 then iWp d mX8_copy 143 [a0, a1, a2, a3, a4, a5, a6, a7] st h Q else iWp d mX8_copy 131 [a0, a1, a2, a3, a4, a5, a6, a7] st h Q := w_ifc_eq dX8_copy_128 rfl
theorem X8_copy_131 : iWp d mX8_copy 131 [a0, a1, a2, a3, a4, a5, a6, .ref p] st h Q = iWp d mX8_copy 133 [a0, a1, a2, a3, a4, a5, a6, .ref p] (.ref p :: st) h Q := w_aload dX8_copy_131 rfl
theorem X8_copy_131n : iWp d mX8_copy 131 [a0, a1, a2, a3, a4, a5, a6, .null] st h Q = iWp d mX8_copy 133 [a0, a1, a2, a3, a4, a5, a6, .null] (.null :: st) h Q := w_aloadN dX8_copy_131 rfl
theorem X8_copy_133 : iWp d mX8_copy 133 [a0, a1, a2, a3, .int x, a5, a6, a7] st h Q = iWp d mX8_copy 135 [a0, a1, a2, a3, .int x, a5, a6, a7] (.int x :: st) h Q := w_iload dX8_copy_133 rfl
theorem X8_copy_135 : iWp d mX8_copy 135 [a0, a1, a2, a3, a4, .int x, a6, a7] st h Q = iWp d mX8_copy 137 [a0, a1, a2, a3, a4, .int x, a6, a7] (.int x :: st) h Q := w_iload dX8_copy_135 rfl
theorem X8_copy_137 (he : iEv mX5_hasRun [.ref p, .int x0, .int x1] h (some (.int rv)) h2) (ho : iObj h p 5 = true) : iWp 3 mX8_copy 137 [a0, a1, a2, a3, a4, a5, a6, a7] [.int x1, .int x0, .ref p] h Q = iWp 3 mX8_copy 140 [a0, a1, a2, a3, a4, a5, a6, a7] [.int rv] h2 Q := iWp_cV dX8_copy_137 fK_8_74 rfl rfl ho (Nat.le_of_ble_eq_true rfl) (Nat.le_of_ble_eq_true rfl) rfl (Nat.le_of_ble_eq_true rfl) he rfl
theorem X8_copy_140 : iWp d mX8_copy 140 [a0, a1, a2, a3, a4, a5, a6, a7] (.int x :: st) h Q = if x = 0 then iWp d mX8_copy 143 [a0, a1, a2, a3, a4, a5, a6, a7] st h Q else iWp d mX8_copy 150 [a0, a1, a2, a3, a4, a5, a6, a7] st h Q := w_ifc_ne dX8_copy_140 rfl
theorem X8_copy_143 : iWp d mX8_copy 143 [.ref p, a1, a2, a3, a4, a5, a6, a7] st h Q = iWp d mX8_copy 144 [.ref p, a1, a2, a3, a4, a5, a6, a7] (.ref p :: st) h Q := w_aload_n dX8_copy_143 rfl
theorem X8_copy_144 : iWp d mX8_copy 144 [a0, a1, a2, a3, a4, a5, a6, a7] st h Q = iWp d mX8_copy 146 [a0, a1, a2, a3, a4, a5, a6, a7] (.int (-5) :: st) h Q := w_bipush dX8_copy_144 rfl
theorem X8_copy_146 (he : iEv mX8_refuse [.ref p, .int x0] h (some (.int rv)) h2) (ho : iObj h p 8 = true) : iWp 3 mX8_copy 146 [a0, a1, a2, a3, a4, a5, a6, a7] [.int x0, .ref p] h Q = iWp 3 mX8_copy 149 [a0, a1, a2, a3, a4, a5, a6, a7] [.int rv] h2 Q := iWp_cV dX8_copy_146 fK_8_50 rfl rfl ho (Nat.le_of_ble_eq_true rfl) (Nat.le_of_ble_eq_true rfl) rfl (Nat.le_of_ble_eq_true rfl) he rfl
theorem X8_copy_149 : iWp d mX8_copy 149 [a0, a1, a2, a3, a4, a5, a6, a7] [.int x] h Q = Q (some (.int x)) h := w_ireti dX8_copy_149 rfl
theorem X8_copy_150 : iWp d mX8_copy 150 [a0, a1, a2, a3, a4, a5, .ref p, a7] st h Q = iWp d mX8_copy 152 [a0, a1, a2, a3, a4, a5, .ref p, a7] (.ref p :: st) h Q := w_aload dX8_copy_150 rfl
theorem X8_copy_150n : iWp d mX8_copy 150 [a0, a1, a2, a3, a4, a5, .null, a7] st h Q = iWp d mX8_copy 152 [a0, a1, a2, a3, a4, a5, .null, a7] (.null :: st) h Q := w_aloadN dX8_copy_150 rfl
theorem X8_copy_152 : iWp d mX8_copy 152 [a0, a1, a2, a3, a4, a5, a6, a7] (.ref p :: st) h Q = iOb (iGet h p 5 1) (fun v => iWp d mX8_copy 155 [a0, a1, a2, a3, a4, a5, a6, a7] (v :: st) h Q) := w_getf dX8_copy_152 fF_8_78
theorem X8_copy_155 : iWp d mX8_copy 155 [a0, a1, a2, .int x, a4, a5, a6, a7] st h Q = iWp d mX8_copy 156 [a0, a1, a2, .int x, a4, a5, a6, a7] (.int x :: st) h Q := w_iload_n dX8_copy_155 rfl
theorem X8_copy_156 : iWp d mX8_copy 156 [a0, a1, a2, a3, a4, a5, a6, .ref p] st h Q = iWp d mX8_copy 158 [a0, a1, a2, a3, a4, a5, a6, .ref p] (.ref p :: st) h Q := w_aload dX8_copy_156 rfl
theorem X8_copy_156n : iWp d mX8_copy 156 [a0, a1, a2, a3, a4, a5, a6, .null] st h Q = iWp d mX8_copy 158 [a0, a1, a2, a3, a4, a5, a6, .null] (.null :: st) h Q := w_aloadN dX8_copy_156 rfl
theorem X8_copy_158 : iWp d mX8_copy 158 [a0, a1, a2, a3, a4, a5, a6, a7] (.ref p :: st) h Q = iOb (iGet h p 5 1) (fun v => iWp d mX8_copy 161 [a0, a1, a2, a3, a4, a5, a6, a7] (v :: st) h Q) := w_getf dX8_copy_158 fF_8_78
theorem X8_copy_161 : iWp d mX8_copy 161 [a0, a1, a2, a3, .int x, a5, a6, a7] st h Q = iWp d mX8_copy 163 [a0, a1, a2, a3, .int x, a5, a6, a7] (.int x :: st) h Q := w_iload dX8_copy_161 rfl
theorem X8_copy_163 : iWp d mX8_copy 163 [a0, a1, a2, a3, a4, .int x, a6, a7] st h Q = iWp d mX8_copy 165 [a0, a1, a2, a3, a4, .int x, a6, a7] (.int x :: st) h Q := w_iload dX8_copy_163 rfl
theorem X8_copy_165 (hs : iSum st ≤ 8) : iWp d mX8_copy 165 [a0, a1, a2, a3, a4, a5, a6, a7] (.int z :: .int y :: .ref q :: .int x :: .ref p :: st) h Q = iOb (iCpy h p x q y z) (fun g => iWp d mX8_copy 168 [a0, a1, a2, a3, a4, a5, a6, a7] st g Q) := w_cpy dX8_copy_165 hs fK_8_82 rfl rfl
theorem X8_copy_168 : iWp d mX8_copy 168 [a0, a1, a2, a3, a4, a5, a6, a7] st h Q = iWp d mX8_copy 169 [a0, a1, a2, a3, a4, a5, a6, a7] (.int 1 :: st) h Q := w_iconst dX8_copy_168 rfl
theorem X8_copy_169 : iWp d mX8_copy 169 [a0, a1, a2, a3, a4, a5, a6, a7] [.int x] h Q = Q (some (.int x)) h := w_ireti dX8_copy_169 rfl
theorem I8_copy {Q : Option Value → iHp → Prop} (hw : iWp 3 mX8_copy 0 [.ref p, .int x0, .int x1, .int x2, .int x3, .int x4, iU, iU] [] h Q) : ∃ r h1, iEv mX8_copy [.ref p, .int x0, .int x1, .int x2, .int x3, .int x4] h r h1 ∧ Q r h1 := iEv_of (by rfl) rfl hw
theorem J8_copy {r : Option Value} {h1 : iHp} (hw : iWp 3 mX8_copy 0 [.ref p, .int x0, .int x1, .int x2, .int x3, .int x4, iU, iU] [] h (fun r' h' => r' = r ∧ h' = h1)) : iEv mX8_copy [.ref p, .int x0, .int x1, .int x2, .int x3, .int x4] h r h1 := iEv_ev (by rfl) rfl hw
theorem X8_days_0 : iWp d mX8_days 0 [.ref p, a1, a2, a3, a4, a5] st h Q = iWp d mX8_days 1 [.ref p, a1, a2, a3, a4, a5] (.ref p :: st) h Q := w_aload_n dX8_days_0 rfl
theorem X8_days_1 : iWp d mX8_days 1 [a0, .int x, a2, a3, a4, a5] st h Q = iWp d mX8_days 2 [a0, .int x, a2, a3, a4, a5] (.int x :: st) h Q := w_iload_n dX8_days_1 rfl
theorem X8_days_2 (he : iEv mX8_treeAt [.ref p, .int x0] h (some rw) h2) (ho : iObj h p 8 = true) : iWp 4 mX8_days 2 [a0, a1, a2, a3, a4, a5] [.int x0, .ref p] h Q = iWp 4 mX8_days 5 [a0, a1, a2, a3, a4, a5] [rw] h2 Q := iWp_cV dX8_days_2 fK_8_121 rfl rfl ho (Nat.le_of_ble_eq_true rfl) (Nat.le_of_ble_eq_true rfl) rfl (Nat.le_of_ble_eq_true rfl) he rfl
theorem X8_days_5 : iWp d mX8_days 5 [a0, a1, a2, a3, a4, a5] (.ref p :: st) h Q = iWp d mX8_days 6 [a0, a1, iClr a2, .ref p, a4, a5] st h Q := w_astore_n dX8_days_5 (Nat.le_of_ble_eq_true rfl) rfl
theorem X8_days_5n : iWp d mX8_days 5 [a0, a1, a2, a3, a4, a5] (.null :: st) h Q = iWp d mX8_days 6 [a0, a1, iClr a2, .null, a4, a5] st h Q := w_astore_nN dX8_days_5 (Nat.le_of_ble_eq_true rfl) rfl
theorem X8_days_6 : iWp d mX8_days 6 [a0, a1, a2, .ref p, a4, a5] st h Q = iWp d mX8_days 7 [a0, a1, a2, .ref p, a4, a5] (.ref p :: st) h Q := w_aload_n dX8_days_6 rfl
theorem X8_days_6n : iWp d mX8_days 6 [a0, a1, a2, .null, a4, a5] st h Q = iWp d mX8_days 7 [a0, a1, a2, .null, a4, a5] (.null :: st) h Q := w_aload_nN dX8_days_6 rfl
theorem X8_days_7 : iWp d mX8_days 7 [a0, a1, a2, a3, a4, a5] (.ref p :: st) h Q = iWp d mX8_days 16 [a0, a1, a2, a3, a4, a5] st h Q := w_ifnonnull dX8_days_7 rfl
theorem X8_days_7n : iWp d mX8_days 7 [a0, a1, a2, a3, a4, a5] (.null :: st) h Q = iWp d mX8_days 10 [a0, a1, a2, a3, a4, a5] st h Q := w_ifnonnullN dX8_days_7
theorem X8_days_10 : iWp d mX8_days 10 [.ref p, a1, a2, a3, a4, a5] st h Q = iWp d mX8_days 11 [.ref p, a1, a2, a3, a4, a5] (.ref p :: st) h Q := w_aload_n dX8_days_10 rfl
theorem X8_days_11 : iWp d mX8_days 11 [a0, a1, a2, a3, a4, a5] st h Q = iWp d mX8_days 12 [a0, a1, a2, a3, a4, a5] (.int (-1) :: st) h Q := w_iconst dX8_days_11 rfl
theorem X8_days_12 (he : iEv mX8_refuse [.ref p, .int x0] h (some (.int rv)) h2) (ho : iObj h p 8 = true) : iWp 4 mX8_days 12 [a0, a1, a2, a3, a4, a5] [.int x0, .ref p] h Q = iWp 4 mX8_days 15 [a0, a1, a2, a3, a4, a5] [.int rv] h2 Q := iWp_cV dX8_days_12 fK_8_50 rfl rfl ho (Nat.le_of_ble_eq_true rfl) (Nat.le_of_ble_eq_true rfl) rfl (Nat.le_of_ble_eq_true rfl) he rfl
theorem X8_days_15 : iWp d mX8_days 15 [a0, a1, a2, a3, a4, a5] [.int x] h Q = Q (some (.int x)) h := w_ireti dX8_days_15 rfl
theorem X8_days_16 : iWp d mX8_days 16 [a0, a1, .int x, a3, a4, a5] st h Q = iWp d mX8_days 17 [a0, a1, .int x, a3, a4, a5] (.int x :: st) h Q := w_iload_n dX8_days_16 rfl
theorem X8_days_17 : iWp d mX8_days 17 [a0, a1, a2, a3, a4, a5] st h Q = iWp d mX8_days 18 [a0, a1, a2, a3, a4, a5] (.int 1 :: st) h Q := w_iconst dX8_days_17 rfl
theorem X8_days_18 : iWp d mX8_days 18 [a0, a1, a2, a3, a4, a5] (.int y :: .int x :: st) h Q = if x < y then iWp d mX8_days 27 [a0, a1, a2, a3, a4, a5] st h Q else iWp d mX8_days 21 [a0, a1, a2, a3, a4, a5] st h Q := w_icmp_lt dX8_days_18 rfl
theorem X8_days_21 : iWp d mX8_days 21 [a0, a1, .int x, a3, a4, a5] st h Q = iWp d mX8_days 22 [a0, a1, .int x, a3, a4, a5] (.int x :: st) h Q := w_iload_n dX8_days_21 rfl
theorem X8_days_22 : iWp d mX8_days 22 [a0, a1, a2, a3, a4, a5] st h Q = iWp d mX8_days 24 [a0, a1, a2, a3, a4, a5] (.int 60 :: st) h Q := w_bipush dX8_days_22 rfl
theorem X8_days_24 : iWp d mX8_days 24 [a0, a1, a2, a3, a4, a5] (.int y :: .int x :: st) h Q = if x ≤ y then iWp d mX8_days 34 [a0, a1, a2, a3, a4, a5] st h Q else iWp d mX8_days 27 [a0, a1, a2, a3, a4, a5] st h Q := w_icmp_le dX8_days_24 rfl
theorem X8_days_27 : iWp d mX8_days 27 [.ref p, a1, a2, a3, a4, a5] st h Q = iWp d mX8_days 28 [.ref p, a1, a2, a3, a4, a5] (.ref p :: st) h Q := w_aload_n dX8_days_27 rfl
theorem X8_days_28 : iWp d mX8_days 28 [a0, a1, a2, a3, a4, a5] st h Q = iWp d mX8_days 30 [a0, a1, a2, a3, a4, a5] (.int (-6) :: st) h Q := w_bipush dX8_days_28 rfl
theorem X8_days_30 (he : iEv mX8_refuse [.ref p, .int x0] h (some (.int rv)) h2) (ho : iObj h p 8 = true) : iWp 4 mX8_days 30 [a0, a1, a2, a3, a4, a5] [.int x0, .ref p] h Q = iWp 4 mX8_days 33 [a0, a1, a2, a3, a4, a5] [.int rv] h2 Q := iWp_cV dX8_days_30 fK_8_50 rfl rfl ho (Nat.le_of_ble_eq_true rfl) (Nat.le_of_ble_eq_true rfl) rfl (Nat.le_of_ble_eq_true rfl) he rfl
theorem X8_days_33 : iWp d mX8_days 33 [a0, a1, a2, a3, a4, a5] [.int x] h Q = Q (some (.int x)) h := w_ireti dX8_days_33 rfl
theorem X8_days_34 : iWp d mX8_days 34 [a0, a1, a2, a3, a4, a5] st h Q = iWp d mX8_days 37 [a0, a1, a2, a3, a4, a5] (.ref h.2.1 :: st) (iNewO h 7) Q := w_new dX8_days_34 fC_8_126
theorem X8_days_37 : iWp d mX8_days 37 [a0, a1, a2, a3, a4, a5] (.ref p :: st) h Q = iWp d mX8_days 38 [a0, a1, a2, a3, a4, a5] (.ref p :: .ref p :: st) h Q := w_dup dX8_days_37 rfl
theorem X8_days_38 : iWp d mX8_days 38 [a0, a1, a2, .ref p, a4, a5] st h Q = iWp d mX8_days 39 [a0, a1, a2, .ref p, a4, a5] (.ref p :: st) h Q := w_aload_n dX8_days_38 rfl
theorem X8_days_38n : iWp d mX8_days 38 [a0, a1, a2, .null, a4, a5] st h Q = iWp d mX8_days 39 [a0, a1, a2, .null, a4, a5] (.null :: st) h Q := w_aload_nN dX8_days_38 rfl
theorem X8_days_39 (he : iEv mX7_init_ [.ref p, b0] h none h2) (c0 : b0.category = 1) : iWp 4 mX8_days 39 [a0, a1, a2, a3, a4, a5] [b0, .ref p, .ref t0] h Q = iWp 4 mX8_days 42 [a0, a1, a2, a3, a4, a5] [.ref t0] h2 Q := iWp_cI dX8_days_39 fK_8_206 rfl rfl (Nat.le_of_ble_eq_true rfl) (Nat.le_of_ble_eq_true rfl) (by simp [iInit, cat_i, cat_r, cat_l, mX7_init_, c0]) (Nat.le_of_ble_eq_true rfl) he rfl
theorem X8_days_42 : iWp d mX8_days 42 [a0, a1, a2, a3, a4, a5] (.ref p :: st) h Q = iWp d mX8_days 44 [a0, a1, a2, iClr a3, .ref p, a5] st h Q := w_astore dX8_days_42 (Nat.le_of_ble_eq_true rfl) rfl
theorem X8_days_42n : iWp d mX8_days 42 [a0, a1, a2, a3, a4, a5] (.null :: st) h Q = iWp d mX8_days 44 [a0, a1, a2, iClr a3, .null, a5] st h Q := w_astoreN dX8_days_42 (Nat.le_of_ble_eq_true rfl) rfl
theorem X8_days_44 : iWp d mX8_days 44 [a0, a1, a2, a3, a4, a5] st h Q = iWp d mX8_days 45 [a0, a1, a2, a3, a4, a5] (.int 0 :: st) h Q := w_iconst dX8_days_44 rfl
theorem X8_days_45 : iWp d mX8_days 45 [a0, a1, a2, a3, a4, a5] (.int x :: st) h Q = iWp d mX8_days 47 [a0, a1, a2, a3, iClr a4, .int x] st h Q := w_istore dX8_days_45 (Nat.le_of_ble_eq_true rfl) rfl
theorem X8_days_47 : iWp d mX8_days 47 [a0, a1, a2, a3, a4, .int x] st h Q = iWp d mX8_days 49 [a0, a1, a2, a3, a4, .int x] (.int x :: st) h Q := w_iload dX8_days_47 rfl
theorem X8_days_49 : iWp d mX8_days 49 [a0, a1, .int x, a3, a4, a5] st h Q = iWp d mX8_days 50 [a0, a1, .int x, a3, a4, a5] (.int x :: st) h Q := w_iload_n dX8_days_49 rfl
theorem X8_days_50 : iWp d mX8_days 50 [a0, a1, a2, a3, a4, a5] (.int y :: .int x :: st) h Q = if y ≤ x then iWp d mX8_days 65 [a0, a1, a2, a3, a4, a5] st h Q else iWp d mX8_days 53 [a0, a1, a2, a3, a4, a5] st h Q := w_icmp_ge dX8_days_50 rfl
theorem X8_days_53 : iWp d mX8_days 53 [.ref p, a1, a2, a3, a4, a5] st h Q = iWp d mX8_days 54 [.ref p, a1, a2, a3, a4, a5] (.ref p :: st) h Q := w_aload_n dX8_days_53 rfl
theorem X8_days_54 : iWp d mX8_days 54 [a0, a1, a2, a3, .ref p, a5] st h Q = iWp d mX8_days 56 [a0, a1, a2, a3, .ref p, a5] (.ref p :: st) h Q := w_aload dX8_days_54 rfl
theorem X8_days_54n : iWp d mX8_days 54 [a0, a1, a2, a3, .null, a5] st h Q = iWp d mX8_days 56 [a0, a1, a2, a3, .null, a5] (.null :: st) h Q := w_aloadN dX8_days_54 rfl
theorem X8_days_56 (he : iEv mX8_passDay [.ref p, b0] h none h2) (ho : iObj h p 8 = true) (c0 : b0.category = 1) : iWp 4 mX8_days 56 [a0, a1, a2, a3, a4, a5] [b0, .ref p] h Q = iWp 4 mX8_days 59 [a0, a1, a2, a3, a4, a5] [] h2 Q := iWp_cV dX8_days_56 fK_8_275 rfl rfl ho (Nat.le_of_ble_eq_true rfl) (Nat.le_of_ble_eq_true rfl) (by simp [iInit, cat_i, cat_r, cat_l, mX8_passDay, c0]) (Nat.le_of_ble_eq_true rfl) he rfl
theorem X8_days_59 : iWp d mX8_days 59 [a0, a1, a2, a3, a4, .int x] st h Q = iWp d mX8_days 62 [a0, a1, a2, a3, iClr a4, .int (x + 1)] st h Q := w_iinc dX8_days_59 rfl (Nat.le_of_ble_eq_true rfl) rfl
theorem X8_days_62 : iWp d mX8_days 62 [a0, a1, a2, a3, a4, a5] st h Q = iWp d mX8_days 47 [a0, a1, a2, a3, a4, a5] st h Q := w_goto dX8_days_62 rfl
theorem X8_days_65 : iWp d mX8_days 65 [.ref p, a1, a2, a3, a4, a5] st h Q = iWp d mX8_days 66 [.ref p, a1, a2, a3, a4, a5] (.ref p :: st) h Q := w_aload_n dX8_days_65 rfl
theorem X8_days_66 : iWp d mX8_days 66 [a0, a1, a2, a3, a4, a5] (.ref p :: st) h Q = iOb (iGet h p 8 4) (fun v => iWp d mX8_days 69 [a0, a1, a2, a3, a4, a5] (v :: st) h Q) := w_getf dX8_days_66 fF_8_32
theorem X8_days_69 : iWp d mX8_days 69 [a0, .int x, a2, a3, a4, a5] st h Q = iWp d mX8_days 70 [a0, .int x, a2, a3, a4, a5] (.int x :: st) h Q := w_iload_n dX8_days_69 rfl
theorem X8_days_70 : iWp d mX8_days 70 [a0, a1, a2, a3, .ref p, a5] st h Q = iWp d mX8_days 72 [a0, a1, a2, a3, .ref p, a5] (.ref p :: st) h Q := w_aload dX8_days_70 rfl
theorem X8_days_70n : iWp d mX8_days 70 [a0, a1, a2, a3, .null, a5] st h Q = iWp d mX8_days 72 [a0, a1, a2, a3, .null, a5] (.null :: st) h Q := w_aloadN dX8_days_70 rfl
theorem X8_days_72 (he : iEv mX6_replaceTree [.ref p, .int x0, b1] h none h2) (ho : iObj h p 6 = true) (c1 : b1.category = 1) : iWp 4 mX8_days 72 [a0, a1, a2, a3, a4, a5] [b1, .int x0, .ref p] h Q = iWp 4 mX8_days 75 [a0, a1, a2, a3, a4, a5] [] h2 Q := iWp_cV dX8_days_72 fK_8_212 rfl rfl ho (Nat.le_of_ble_eq_true rfl) (Nat.le_of_ble_eq_true rfl) (by simp [iInit, cat_i, cat_r, cat_l, mX6_replaceTree, c1]) (Nat.le_of_ble_eq_true rfl) he rfl
theorem X8_days_75 : iWp d mX8_days 75 [a0, a1, a2, a3, .ref p, a5] st h Q = iWp d mX8_days 77 [a0, a1, a2, a3, .ref p, a5] (.ref p :: st) h Q := w_aload dX8_days_75 rfl
theorem X8_days_75n : iWp d mX8_days 75 [a0, a1, a2, a3, .null, a5] st h Q = iWp d mX8_days 77 [a0, a1, a2, a3, .null, a5] (.null :: st) h Q := w_aloadN dX8_days_75 rfl
theorem X8_days_77 : iWp d mX8_days 77 [a0, a1, a2, a3, a4, a5] (.ref p :: st) h Q = iOb (iGet h p 7 3) (fun v => iWp d mX8_days 80 [a0, a1, a2, a3, a4, a5] (v :: st) h Q) := w_getf dX8_days_77 fF_8_125
theorem X8_days_80 : iWp d mX8_days 80 [a0, a1, a2, a3, a4, a5] [.int x] h Q = Q (some (.int x)) h := w_ireti dX8_days_80 rfl
theorem I8_days {Q : Option Value → iHp → Prop} (hw : iWp 4 mX8_days 0 [.ref p, .int x0, .int x1, iU, iU, iU] [] h Q) : ∃ r h1, iEv mX8_days [.ref p, .int x0, .int x1] h r h1 ∧ Q r h1 := iEv_of (by rfl) rfl hw
theorem J8_days {r : Option Value} {h1 : iHp} (hw : iWp 4 mX8_days 0 [.ref p, .int x0, .int x1, iU, iU, iU] [] h (fun r' h' => r' = r ∧ h' = h1)) : iEv mX8_days [.ref p, .int x0, .int x1] h r h1 := iEv_ev (by rfl) rfl hw
theorem X8_difference_0 : iWp d mX8_difference 0 [.ref p, a1, a2, a3] st h Q = iWp d mX8_difference 1 [.ref p, a1, a2, a3] (.ref p :: st) h Q := w_aload_n dX8_difference_0 rfl
theorem X8_difference_1 : iWp d mX8_difference 1 [a0, a1, a2, a3] (.ref p :: st) h Q = iOb (iGet h p 8 3) (fun v => iWp d mX8_difference 4 [a0, a1, a2, a3] (v :: st) h Q) := w_getf dX8_difference_1 fF_8_25
theorem X8_difference_4 : iWp d mX8_difference 4 [.ref p, a1, a2, a3] st h Q = iWp d mX8_difference 5 [.ref p, a1, a2, a3] (.ref p :: st) h Q := w_aload_n dX8_difference_4 rfl
theorem X8_difference_5 : iWp d mX8_difference 5 [a0, .int x, a2, a3] st h Q = iWp d mX8_difference 6 [a0, .int x, a2, a3] (.int x :: st) h Q := w_iload_n dX8_difference_5 rfl
theorem X8_difference_6 (he : iEv mX8_treeAt [.ref p, .int x0] h (some rw) h2) (ho : iObj h p 8 = true) : iWp 8 mX8_difference 6 [a0, a1, a2, a3] [.int x0, .ref p, .ref t0] h Q = iWp 8 mX8_difference 9 [a0, a1, a2, a3] [rw, .ref t0] h2 Q := iWp_cV dX8_difference_6 fK_8_121 rfl rfl ho (Nat.le_of_ble_eq_true rfl) (Nat.le_of_ble_eq_true rfl) rfl (Nat.le_of_ble_eq_true rfl) he rfl
theorem X8_difference_9 : iWp d mX8_difference 9 [.ref p, a1, a2, a3] st h Q = iWp d mX8_difference 10 [.ref p, a1, a2, a3] (.ref p :: st) h Q := w_aload_n dX8_difference_9 rfl
theorem X8_difference_10 : iWp d mX8_difference 10 [a0, a1, .int x, a3] st h Q = iWp d mX8_difference 11 [a0, a1, .int x, a3] (.int x :: st) h Q := w_iload_n dX8_difference_10 rfl
theorem X8_difference_11 (he : iEv mX8_treeAt [.ref p, .int x0] h (some rw) h2) (ho : iObj h p 8 = true) : iWp 8 mX8_difference 11 [a0, a1, a2, a3] [.int x0, .ref p, .ref t0, .ref t1] h Q = iWp 8 mX8_difference 14 [a0, a1, a2, a3] [rw, .ref t0, .ref t1] h2 Q := iWp_cV dX8_difference_11 fK_8_121 rfl rfl ho (Nat.le_of_ble_eq_true rfl) (Nat.le_of_ble_eq_true rfl) rfl (Nat.le_of_ble_eq_true rfl) he rfl
theorem X8_difference_14 (he : iEv mX0_draftInto [b0, b1, b2] h (some (.int rv)) h2) (c0 : b0.category = 1) (c1 : b1.category = 1) (c2 : b2.category = 1) : iWp 8 mX8_difference 14 [a0, a1, a2, a3] [b2, b1, b0] h Q = iWp 8 mX8_difference 17 [a0, a1, a2, a3] [.int rv] h2 Q := iWp_cS dX8_difference_14 fK_8_175 rfl rfl (Nat.le_of_ble_eq_true rfl) (Nat.le_of_ble_eq_true rfl) (by simp [iInit, cat_i, cat_r, cat_l, mX0_draftInto, c0, c1, c2]) (Nat.le_of_ble_eq_true rfl) he rfl
theorem X8_difference_17 : iWp d mX8_difference 17 [a0, a1, a2, a3] (.int x :: st) h Q = iWp d mX8_difference 18 [a0, a1, iClr a2, .int x] st h Q := w_istore_n dX8_difference_17 (Nat.le_of_ble_eq_true rfl) rfl
theorem X8_difference_18 : iWp d mX8_difference 18 [a0, a1, a2, .int x] st h Q = iWp d mX8_difference 19 [a0, a1, a2, .int x] (.int x :: st) h Q := w_iload_n dX8_difference_18 rfl
theorem X8_difference_19 : iWp d mX8_difference 19 [a0, a1, a2, a3] (.int x :: st) h Q = if x = 0 then iWp d mX8_difference 22 [a0, a1, a2, a3] st h Q else iWp d mX8_difference 31 [a0, a1, a2, a3] st h Q := w_ifc_ne dX8_difference_19 rfl
theorem X8_difference_22 : iWp d mX8_difference 22 [.ref p, a1, a2, a3] st h Q = iWp d mX8_difference 23 [.ref p, a1, a2, a3] (.ref p :: st) h Q := w_aload_n dX8_difference_22 rfl
theorem X8_difference_23 : iWp d mX8_difference 23 [a0, a1, a2, a3] st h Q = iWp d mX8_difference 24 [a0, a1, a2, a3] (.int 1 :: st) h Q := w_iconst dX8_difference_23 rfl
theorem X8_difference_24 : iWp d mX8_difference 24 [a0, a1, a2, a3] st h Q = iWp d mX8_difference 25 [a0, a1, a2, a3] (.int (-1) :: st) h Q := w_iconst dX8_difference_24 rfl
theorem X8_difference_25 (he : iEv mX8_keepDraft [.ref p, .int x0, .int x1] h (some (.int rv)) h2) (ho : iObj h p 8 = true) : iWp 8 mX8_difference 25 [a0, a1, a2, a3] [.int x1, .int x0, .ref p] h Q = iWp 8 mX8_difference 28 [a0, a1, a2, a3] [.int rv] h2 Q := iWp_cV dX8_difference_25 fK_8_181 rfl rfl ho (Nat.le_of_ble_eq_true rfl) (Nat.le_of_ble_eq_true rfl) rfl (Nat.le_of_ble_eq_true rfl) he rfl
theorem X8_difference_28 : iWp d mX8_difference 28 [a0, a1, a2, a3] st h Q = iWp d mX8_difference 36 [a0, a1, a2, a3] st h Q := w_goto dX8_difference_28 rfl
theorem X8_difference_31 : iWp d mX8_difference 31 [.ref p, a1, a2, a3] st h Q = iWp d mX8_difference 32 [.ref p, a1, a2, a3] (.ref p :: st) h Q := w_aload_n dX8_difference_31 rfl
theorem X8_difference_32 : iWp d mX8_difference 32 [a0, a1, a2, .int x] st h Q = iWp d mX8_difference 33 [a0, a1, a2, .int x] (.int x :: st) h Q := w_iload_n dX8_difference_32 rfl
theorem X8_difference_33 (he : iEv mX8_refuse [.ref p, .int x0] h (some (.int rv)) h2) (ho : iObj h p 8 = true) : iWp 8 mX8_difference 33 [a0, a1, a2, a3] [.int x0, .ref p] h Q = iWp 8 mX8_difference 36 [a0, a1, a2, a3] [.int rv] h2 Q := iWp_cV dX8_difference_33 fK_8_50 rfl rfl ho (Nat.le_of_ble_eq_true rfl) (Nat.le_of_ble_eq_true rfl) rfl (Nat.le_of_ble_eq_true rfl) he rfl
theorem X8_difference_36 : iWp d mX8_difference 36 [a0, a1, a2, a3] [.int x] h Q = Q (some (.int x)) h := w_ireti dX8_difference_36 rfl
theorem I8_difference {Q : Option Value → iHp → Prop} (hw : iWp 8 mX8_difference 0 [.ref p, .int x0, .int x1, iU] [] h Q) : ∃ r h1, iEv mX8_difference [.ref p, .int x0, .int x1] h r h1 ∧ Q r h1 := iEv_of (by rfl) rfl hw
theorem J8_difference {r : Option Value} {h1 : iHp} (hw : iWp 8 mX8_difference 0 [.ref p, .int x0, .int x1, iU] [] h (fun r' h' => r' = r ∧ h' = h1)) : iEv mX8_difference [.ref p, .int x0, .int x1] h r h1 := iEv_ev (by rfl) rfl hw
theorem X8_drop_0 : iWp d mX8_drop 0 [.ref p, a1] st h Q = iWp d mX8_drop 1 [.ref p, a1] (.ref p :: st) h Q := w_aload_n dX8_drop_0 rfl
theorem X8_drop_1 : iWp d mX8_drop 1 [a0, .int x] st h Q = iWp d mX8_drop 2 [a0, .int x] (.int x :: st) h Q := w_iload_n dX8_drop_1 rfl
theorem X8_drop_2 (he : iEv mX8_treeAt [.ref p, .int x0] h (some rw) h2) (ho : iObj h p 8 = true) : iWp 3 mX8_drop 2 [a0, a1] [.int x0, .ref p] h Q = iWp 3 mX8_drop 5 [a0, a1] [rw] h2 Q := iWp_cV dX8_drop_2 fK_8_121 rfl rfl ho (Nat.le_of_ble_eq_true rfl) (Nat.le_of_ble_eq_true rfl) rfl (Nat.le_of_ble_eq_true rfl) he rfl
theorem X8_drop_5 : iWp d mX8_drop 5 [a0, a1] (.ref p :: st) h Q = iWp d mX8_drop 14 [a0, a1] st h Q := w_ifnonnull dX8_drop_5 rfl
theorem X8_drop_5n : iWp d mX8_drop 5 [a0, a1] (.null :: st) h Q = iWp d mX8_drop 8 [a0, a1] st h Q := w_ifnonnullN dX8_drop_5
theorem X8_drop_8 : iWp d mX8_drop 8 [.ref p, a1] st h Q = iWp d mX8_drop 9 [.ref p, a1] (.ref p :: st) h Q := w_aload_n dX8_drop_8 rfl
theorem X8_drop_9 : iWp d mX8_drop 9 [a0, a1] st h Q = iWp d mX8_drop 10 [a0, a1] (.int (-1) :: st) h Q := w_iconst dX8_drop_9 rfl
theorem X8_drop_10 (he : iEv mX8_refuse [.ref p, .int x0] h (some (.int rv)) h2) (ho : iObj h p 8 = true) : iWp 3 mX8_drop 10 [a0, a1] [.int x0, .ref p] h Q = iWp 3 mX8_drop 13 [a0, a1] [.int rv] h2 Q := iWp_cV dX8_drop_10 fK_8_50 rfl rfl ho (Nat.le_of_ble_eq_true rfl) (Nat.le_of_ble_eq_true rfl) rfl (Nat.le_of_ble_eq_true rfl) he rfl
theorem X8_drop_13 : iWp d mX8_drop 13 [a0, a1] [.int x] h Q = Q (some (.int x)) h := w_ireti dX8_drop_13 rfl
theorem X8_drop_14 : iWp d mX8_drop 14 [a0, .int x] st h Q = iWp d mX8_drop 15 [a0, .int x] (.int x :: st) h Q := w_iload_n dX8_drop_14 rfl
theorem X8_drop_15 : iWp d mX8_drop 15 [.ref p, a1] st h Q = iWp d mX8_drop 16 [.ref p, a1] (.ref p :: st) h Q := w_aload_n dX8_drop_15 rfl
theorem X8_drop_16 : iWp d mX8_drop 16 [a0, a1] (.ref p :: st) h Q = iOb (iGet h p 8 4) (fun v => iWp d mX8_drop 19 [a0, a1] (v :: st) h Q) := w_getf dX8_drop_16 fF_8_32
theorem X8_drop_19 : iWp d mX8_drop 19 [a0, a1] (.ref p :: st) h Q = iOb (iGet h p 6 2) (fun v => iWp d mX8_drop 22 [a0, a1] (v :: st) h Q) := w_getf dX8_drop_19 fF_8_169
theorem X8_drop_22 : iWp d mX8_drop 22 [a0, a1] st h Q = iWp d mX8_drop 23 [a0, a1] (.int 1 :: st) h Q := w_iconst dX8_drop_22 rfl
theorem X8_drop_23 : iWp d mX8_drop 23 [a0, a1] (.int y :: .int x :: st) h Q = iWp d mX8_drop 24 [a0, a1] (.int (x - y) :: st) h Q := w_isub dX8_drop_23
theorem X8_drop_24 : iWp d mX8_drop 24 [a0, a1] (.int y :: .int x :: st) h Q = if x = y then iWp d mX8_drop 34 [a0, a1] st h Q else iWp d mX8_drop 27 [a0, a1] st h Q := w_icmp_eq dX8_drop_24 rfl
theorem X8_drop_27 : iWp d mX8_drop 27 [.ref p, a1] st h Q = iWp d mX8_drop 28 [.ref p, a1] (.ref p :: st) h Q := w_aload_n dX8_drop_27 rfl
theorem X8_drop_28 : iWp d mX8_drop 28 [a0, a1] st h Q = iWp d mX8_drop 30 [a0, a1] (.int (-6) :: st) h Q := w_bipush dX8_drop_28 rfl
theorem X8_drop_30 (he : iEv mX8_refuse [.ref p, .int x0] h (some (.int rv)) h2) (ho : iObj h p 8 = true) : iWp 3 mX8_drop 30 [a0, a1] [.int x0, .ref p] h Q = iWp 3 mX8_drop 33 [a0, a1] [.int rv] h2 Q := iWp_cV dX8_drop_30 fK_8_50 rfl rfl ho (Nat.le_of_ble_eq_true rfl) (Nat.le_of_ble_eq_true rfl) rfl (Nat.le_of_ble_eq_true rfl) he rfl
theorem X8_drop_33 : iWp d mX8_drop 33 [a0, a1] [.int x] h Q = Q (some (.int x)) h := w_ireti dX8_drop_33 rfl
theorem X8_drop_34 : iWp d mX8_drop 34 [.ref p, a1] st h Q = iWp d mX8_drop 35 [.ref p, a1] (.ref p :: st) h Q := w_aload_n dX8_drop_34 rfl
theorem X8_drop_35 : iWp d mX8_drop 35 [a0, a1] (.ref p :: st) h Q = iOb (iGet h p 8 4) (fun v => iWp d mX8_drop 38 [a0, a1] (v :: st) h Q) := w_getf dX8_drop_35 fF_8_32
theorem X8_drop_38 (he : iEv mX6_dropTree [.ref p] h none h2) (ho : iObj h p 6 = true) : iWp 3 mX8_drop 38 [a0, a1] [.ref p] h Q = iWp 3 mX8_drop 41 [a0, a1] [] h2 Q := iWp_cV dX8_drop_38 fK_8_172 rfl rfl ho (Nat.le_of_ble_eq_true rfl) (Nat.le_of_ble_eq_true rfl) rfl (Nat.le_of_ble_eq_true rfl) he rfl
theorem X8_drop_41 : iWp d mX8_drop 41 [.ref p, a1] st h Q = iWp d mX8_drop 42 [.ref p, a1] (.ref p :: st) h Q := w_aload_n dX8_drop_41 rfl
theorem X8_drop_42 : iWp d mX8_drop 42 [a0, a1] (.ref p :: st) h Q = iOb (iGet h p 8 4) (fun v => iWp d mX8_drop 45 [a0, a1] (v :: st) h Q) := w_getf dX8_drop_42 fF_8_32
theorem X8_drop_45 : iWp d mX8_drop 45 [a0, a1] (.ref p :: st) h Q = iOb (iGet h p 6 2) (fun v => iWp d mX8_drop 48 [a0, a1] (v :: st) h Q) := w_getf dX8_drop_45 fF_8_169
theorem X8_drop_48 : iWp d mX8_drop 48 [a0, a1] [.int x] h Q = Q (some (.int x)) h := w_ireti dX8_drop_48 rfl
theorem I8_drop {Q : Option Value → iHp → Prop} (hw : iWp 3 mX8_drop 0 [.ref p, .int x0] [] h Q) : ∃ r h1, iEv mX8_drop [.ref p, .int x0] h r h1 ∧ Q r h1 := iEv_of (by rfl) rfl hw
theorem J8_drop {r : Option Value} {h1 : iHp} (hw : iWp 3 mX8_drop 0 [.ref p, .int x0] [] h (fun r' h' => r' = r ∧ h' = h1)) : iEv mX8_drop [.ref p, .int x0] h r h1 := iEv_ev (by rfl) rfl hw
theorem X8_edit_0 : iWp d mX8_edit 0 [.ref p, a1, a2, a3, a4, a5] st h Q = iWp d mX8_edit 1 [.ref p, a1, a2, a3, a4, a5] (.ref p :: st) h Q := w_aload_n dX8_edit_0 rfl
theorem X8_edit_1 : iWp d mX8_edit 1 [a0, .int x, a2, a3, a4, a5] st h Q = iWp d mX8_edit 2 [a0, .int x, a2, a3, a4, a5] (.int x :: st) h Q := w_iload_n dX8_edit_1 rfl
theorem X8_edit_2 (he : iEv mX8_patchAt [.ref p, .int x0] h (some rw) h2) (ho : iObj h p 8 = true) : iWp 3 mX8_edit 2 [a0, a1, a2, a3, a4, a5] [.int x0, .ref p] h Q = iWp 3 mX8_edit 5 [a0, a1, a2, a3, a4, a5] [rw] h2 Q := iWp_cV dX8_edit_2 fK_8_92 rfl rfl ho (Nat.le_of_ble_eq_true rfl) (Nat.le_of_ble_eq_true rfl) rfl (Nat.le_of_ble_eq_true rfl) he rfl
theorem X8_edit_5 : iWp d mX8_edit 5 [a0, a1, a2, a3, a4, a5] (.ref p :: st) h Q = iWp d mX8_edit 7 [a0, a1, a2, iClr a3, .ref p, a5] st h Q := w_astore dX8_edit_5 (Nat.le_of_ble_eq_true rfl) rfl
theorem X8_edit_5n : iWp d mX8_edit 5 [a0, a1, a2, a3, a4, a5] (.null :: st) h Q = iWp d mX8_edit 7 [a0, a1, a2, iClr a3, .null, a5] st h Q := w_astoreN dX8_edit_5 (Nat.le_of_ble_eq_true rfl) rfl
theorem X8_edit_7 : iWp d mX8_edit 7 [a0, a1, a2, a3, .ref p, a5] st h Q = iWp d mX8_edit 9 [a0, a1, a2, a3, .ref p, a5] (.ref p :: st) h Q := w_aload dX8_edit_7 rfl
theorem X8_edit_7n : iWp d mX8_edit 7 [a0, a1, a2, a3, .null, a5] st h Q = iWp d mX8_edit 9 [a0, a1, a2, a3, .null, a5] (.null :: st) h Q := w_aloadN dX8_edit_7 rfl
theorem X8_edit_9 : iWp d mX8_edit 9 [a0, a1, a2, a3, a4, a5] (.ref p :: st) h Q = iWp d mX8_edit 18 [a0, a1, a2, a3, a4, a5] st h Q := w_ifnonnull dX8_edit_9 rfl
theorem X8_edit_9n : iWp d mX8_edit 9 [a0, a1, a2, a3, a4, a5] (.null :: st) h Q = iWp d mX8_edit 12 [a0, a1, a2, a3, a4, a5] st h Q := w_ifnonnullN dX8_edit_9
theorem X8_edit_12 : iWp d mX8_edit 12 [.ref p, a1, a2, a3, a4, a5] st h Q = iWp d mX8_edit 13 [.ref p, a1, a2, a3, a4, a5] (.ref p :: st) h Q := w_aload_n dX8_edit_12 rfl
theorem X8_edit_13 : iWp d mX8_edit 13 [a0, a1, a2, a3, a4, a5] st h Q = iWp d mX8_edit 14 [a0, a1, a2, a3, a4, a5] (.int (-1) :: st) h Q := w_iconst dX8_edit_13 rfl
theorem X8_edit_14 (he : iEv mX8_refuse [.ref p, .int x0] h (some (.int rv)) h2) (ho : iObj h p 8 = true) : iWp 3 mX8_edit 14 [a0, a1, a2, a3, a4, a5] [.int x0, .ref p] h Q = iWp 3 mX8_edit 17 [a0, a1, a2, a3, a4, a5] [.int rv] h2 Q := iWp_cV dX8_edit_14 fK_8_50 rfl rfl ho (Nat.le_of_ble_eq_true rfl) (Nat.le_of_ble_eq_true rfl) rfl (Nat.le_of_ble_eq_true rfl) he rfl
theorem X8_edit_17 : iWp d mX8_edit 17 [a0, a1, a2, a3, a4, a5] [.int x] h Q = Q (some (.int x)) h := w_ireti dX8_edit_17 rfl
theorem X8_edit_18 : iWp d mX8_edit 18 [a0, a1, a2, a3, .ref p, a5] st h Q = iWp d mX8_edit 20 [a0, a1, a2, a3, .ref p, a5] (.ref p :: st) h Q := w_aload dX8_edit_18 rfl
theorem X8_edit_18n : iWp d mX8_edit 18 [a0, a1, a2, a3, .null, a5] st h Q = iWp d mX8_edit 20 [a0, a1, a2, a3, .null, a5] (.null :: st) h Q := w_aloadN dX8_edit_18 rfl
theorem X8_edit_20 : iWp d mX8_edit 20 [a0, a1, .int x, a3, a4, a5] st h Q = iWp d mX8_edit 21 [a0, a1, .int x, a3, a4, a5] (.int x :: st) h Q := w_iload_n dX8_edit_20 rfl
theorem X8_edit_21 (he : iEv mX3_editAt [.ref p, .int x0] h (some rw) h2) (ho : iObj h p 3 = true) : iWp 3 mX8_edit 21 [a0, a1, a2, a3, a4, a5] [.int x0, .ref p] h Q = iWp 3 mX8_edit 24 [a0, a1, a2, a3, a4, a5] [rw] h2 Q := iWp_cV dX8_edit_21 fK_8_194 rfl rfl ho (Nat.le_of_ble_eq_true rfl) (Nat.le_of_ble_eq_true rfl) rfl (Nat.le_of_ble_eq_true rfl) he rfl
theorem X8_edit_24 : iWp d mX8_edit 24 [a0, a1, a2, a3, a4, a5] (.ref p :: st) h Q = iWp d mX8_edit 26 [a0, a1, a2, a3, iClr a4, .ref p] st h Q := w_astore dX8_edit_24 (Nat.le_of_ble_eq_true rfl) rfl
theorem X8_edit_24n : iWp d mX8_edit 24 [a0, a1, a2, a3, a4, a5] (.null :: st) h Q = iWp d mX8_edit 26 [a0, a1, a2, a3, iClr a4, .null] st h Q := w_astoreN dX8_edit_24 (Nat.le_of_ble_eq_true rfl) rfl
theorem X8_edit_26 : iWp d mX8_edit 26 [a0, a1, a2, a3, a4, .ref p] st h Q = iWp d mX8_edit 28 [a0, a1, a2, a3, a4, .ref p] (.ref p :: st) h Q := w_aload dX8_edit_26 rfl
theorem X8_edit_26n : iWp d mX8_edit 26 [a0, a1, a2, a3, a4, .null] st h Q = iWp d mX8_edit 28 [a0, a1, a2, a3, a4, .null] (.null :: st) h Q := w_aloadN dX8_edit_26 rfl
theorem X8_edit_28 : iWp d mX8_edit 28 [a0, a1, a2, a3, a4, a5] (.ref p :: st) h Q = iWp d mX8_edit 31 [a0, a1, a2, a3, a4, a5] st h Q := w_ifnull dX8_edit_28
theorem X8_edit_28n : iWp d mX8_edit 28 [a0, a1, a2, a3, a4, a5] (.null :: st) h Q = iWp d mX8_edit 41 [a0, a1, a2, a3, a4, a5] st h Q := w_ifnullN dX8_edit_28 rfl
theorem X8_edit_31 : iWp d mX8_edit 31 [a0, a1, a2, .int x, a4, a5] st h Q = iWp d mX8_edit 32 [a0, a1, a2, .int x, a4, a5] (.int x :: st) h Q := w_iload_n dX8_edit_31 rfl
theorem X8_edit_32 : iWp d mX8_edit 32 [a0, a1, a2, a3, a4, a5] (.int x :: st) h Q = if x < 0 then iWp d mX8_edit 41 [a0, a1, a2, a3, a4, a5] st h Q else iWp d mX8_edit 35 [a0, a1, a2, a3, a4, a5] st h Q := w_ifc_lt dX8_edit_32 rfl
theorem X8_edit_35 : iWp d mX8_edit 35 [a0, a1, a2, .int x, a4, a5] st h Q = iWp d mX8_edit 36 [a0, a1, a2, .int x, a4, a5] (.int x :: st) h Q := w_iload_n dX8_edit_35 rfl
theorem X8_edit_36 : iWp d mX8_edit 36 [a0, a1, a2, a3, a4, a5] st h Q = iWp d mX8_edit 38 [a0, a1, a2, a3, a4, a5] (.int 6 :: st) h Q := w_bipush dX8_edit_36 rfl
theorem X8_edit_38 : iWp d mX8_edit 38 [a0, a1, a2, a3, a4, a5] (.int y :: .int x :: st) h Q = if x ≤ y then iWp d mX8_edit 48 [a0, a1, a2, a3, a4, a5] st h Q else iWp d mX8_edit 41 [a0, a1, a2, a3, a4, a5] st h Q := w_icmp_le dX8_edit_38 rfl
theorem X8_edit_41 : iWp d mX8_edit 41 [.ref p, a1, a2, a3, a4, a5] st h Q = iWp d mX8_edit 42 [.ref p, a1, a2, a3, a4, a5] (.ref p :: st) h Q := w_aload_n dX8_edit_41 rfl
theorem X8_edit_42 : iWp d mX8_edit 42 [a0, a1, a2, a3, a4, a5] st h Q = iWp d mX8_edit 44 [a0, a1, a2, a3, a4, a5] (.int (-5) :: st) h Q := w_bipush dX8_edit_42 rfl
theorem X8_edit_44 (he : iEv mX8_refuse [.ref p, .int x0] h (some (.int rv)) h2) (ho : iObj h p 8 = true) : iWp 3 mX8_edit 44 [a0, a1, a2, a3, a4, a5] [.int x0, .ref p] h Q = iWp 3 mX8_edit 47 [a0, a1, a2, a3, a4, a5] [.int rv] h2 Q := iWp_cV dX8_edit_44 fK_8_50 rfl rfl ho (Nat.le_of_ble_eq_true rfl) (Nat.le_of_ble_eq_true rfl) rfl (Nat.le_of_ble_eq_true rfl) he rfl
theorem X8_edit_47 : iWp d mX8_edit 47 [a0, a1, a2, a3, a4, a5] [.int x] h Q = Q (some (.int x)) h := w_ireti dX8_edit_47 rfl
theorem X8_edit_48 : iWp d mX8_edit 48 [a0, a1, a2, a3, a4, .ref p] st h Q = iWp d mX8_edit 50 [a0, a1, a2, a3, a4, .ref p] (.ref p :: st) h Q := w_aload dX8_edit_48 rfl
theorem X8_edit_48n : iWp d mX8_edit 48 [a0, a1, a2, a3, a4, .null] st h Q = iWp d mX8_edit 50 [a0, a1, a2, a3, a4, .null] (.null :: st) h Q := w_aloadN dX8_edit_48 rfl
theorem X8_edit_50 : iWp d mX8_edit 50 [a0, a1, a2, .int x, a4, a5] st h Q = iWp d mX8_edit 51 [a0, a1, a2, .int x, a4, a5] (.int x :: st) h Q := w_iload_n dX8_edit_50 rfl
theorem X8_edit_51 (he : iEv mX2_told [.ref p, .int x0] h (some (.int rv)) h2) (ho : iObj h p 2 = true) : iWp 3 mX8_edit 51 [a0, a1, a2, a3, a4, a5] [.int x0, .ref p] h Q = iWp 3 mX8_edit 54 [a0, a1, a2, a3, a4, a5] [.int rv] h2 Q := iWp_cV dX8_edit_51 fK_8_198 rfl rfl ho (Nat.le_of_ble_eq_true rfl) (Nat.le_of_ble_eq_true rfl) rfl (Nat.le_of_ble_eq_true rfl) he rfl
theorem X8_edit_54 : iWp d mX8_edit 54 [a0, a1, a2, a3, a4, a5] [.int x] h Q = Q (some (.int x)) h := w_ireti dX8_edit_54 rfl
theorem I8_edit {Q : Option Value → iHp → Prop} (hw : iWp 3 mX8_edit 0 [.ref p, .int x0, .int x1, .int x2, iU, iU] [] h Q) : ∃ r h1, iEv mX8_edit [.ref p, .int x0, .int x1, .int x2] h r h1 ∧ Q r h1 := iEv_of (by rfl) rfl hw
theorem J8_edit {r : Option Value} {h1 : iHp} (hw : iWp 3 mX8_edit 0 [.ref p, .int x0, .int x1, .int x2, iU, iU] [] h (fun r' h' => r' = r ∧ h' = h1)) : iEv mX8_edit [.ref p, .int x0, .int x1, .int x2] h r h1 := iEv_ev (by rfl) rfl hw
theorem X8_element_0 : iWp d mX8_element 0 [.ref p, a1, a2, a3] st h Q = iWp d mX8_element 1 [.ref p, a1, a2, a3] (.ref p :: st) h Q := w_aload_n dX8_element_0 rfl
theorem X8_element_1 : iWp d mX8_element 1 [a0, .int x, a2, a3] st h Q = iWp d mX8_element 2 [a0, .int x, a2, a3] (.int x :: st) h Q := w_iload_n dX8_element_1 rfl
theorem X8_element_2 (he : iEv mX8_rowAt [.ref p, .int x0] h (some rw) h2) (ho : iObj h p 8 = true) : iWp 3 mX8_element 2 [a0, a1, a2, a3] [.int x0, .ref p] h Q = iWp 3 mX8_element 5 [a0, a1, a2, a3] [rw] h2 Q := iWp_cV dX8_element_2 fK_8_57 rfl rfl ho (Nat.le_of_ble_eq_true rfl) (Nat.le_of_ble_eq_true rfl) rfl (Nat.le_of_ble_eq_true rfl) he rfl
theorem X8_element_5 : iWp d mX8_element 5 [a0, a1, a2, a3] (.ref p :: st) h Q = iWp d mX8_element 6 [a0, a1, iClr a2, .ref p] st h Q := w_astore_n dX8_element_5 (Nat.le_of_ble_eq_true rfl) rfl
theorem X8_element_5n : iWp d mX8_element 5 [a0, a1, a2, a3] (.null :: st) h Q = iWp d mX8_element 6 [a0, a1, iClr a2, .null] st h Q := w_astore_nN dX8_element_5 (Nat.le_of_ble_eq_true rfl) rfl
theorem X8_element_6 : iWp d mX8_element 6 [a0, a1, a2, .ref p] st h Q = iWp d mX8_element 7 [a0, a1, a2, .ref p] (.ref p :: st) h Q := w_aload_n dX8_element_6 rfl
theorem X8_element_6n : iWp d mX8_element 6 [a0, a1, a2, .null] st h Q = iWp d mX8_element 7 [a0, a1, a2, .null] (.null :: st) h Q := w_aload_nN dX8_element_6 rfl
theorem X8_element_7 : iWp d mX8_element 7 [a0, a1, a2, a3] (.ref p :: st) h Q = iWp d mX8_element 14 [a0, a1, a2, a3] st h Q := w_ifnonnull dX8_element_7 rfl
theorem X8_element_7n : iWp d mX8_element 7 [a0, a1, a2, a3] (.null :: st) h Q = iWp d mX8_element 10 [a0, a1, a2, a3] st h Q := w_ifnonnullN dX8_element_7
theorem X8_element_10 : iWp d mX8_element 10 [a0, a1, a2, a3] st h Q = iWp d mX8_element 11 [a0, a1, a2, a3] (.long 0 :: st) h Q := w_lconst dX8_element_10 rfl
theorem X8_element_11 : iWp d mX8_element 11 [a0, a1, a2, a3] st h Q = iWp d mX8_element 19 [a0, a1, a2, a3] st h Q := w_goto dX8_element_11 rfl
theorem X8_element_14 : iWp d mX8_element 14 [a0, a1, a2, .ref p] st h Q = iWp d mX8_element 15 [a0, a1, a2, .ref p] (.ref p :: st) h Q := w_aload_n dX8_element_14 rfl
theorem X8_element_14n : iWp d mX8_element 14 [a0, a1, a2, .null] st h Q = iWp d mX8_element 15 [a0, a1, a2, .null] (.null :: st) h Q := w_aload_nN dX8_element_14 rfl
theorem X8_element_15 : iWp d mX8_element 15 [a0, a1, .int x, a3] st h Q = iWp d mX8_element 16 [a0, a1, .int x, a3] (.int x :: st) h Q := w_iload_n dX8_element_15 rfl
theorem X8_element_16 (he : iEv mX5_longAt [.ref p, .int x0] h (some (.long rl)) h2) (ho : iObj h p 5 = true) : iWp 3 mX8_element 16 [a0, a1, a2, a3] [.int x0, .ref p] h Q = iWp 3 mX8_element 19 [a0, a1, a2, a3] [.long rl] h2 Q := iWp_cV dX8_element_16 fK_8_88 rfl rfl ho (Nat.le_of_ble_eq_true rfl) (Nat.le_of_ble_eq_true rfl) rfl (Nat.le_of_ble_eq_true rfl) he rfl
theorem X8_element_19 : iWp d mX8_element 19 [a0, a1, a2, a3] [.long u] h Q = Q (some (.long u)) h := w_lret dX8_element_19 rfl
theorem I8_element {Q : Option Value → iHp → Prop} (hw : iWp 3 mX8_element 0 [.ref p, .int x0, .int x1, iU] [] h Q) : ∃ r h1, iEv mX8_element [.ref p, .int x0, .int x1] h r h1 ∧ Q r h1 := iEv_of (by rfl) rfl hw
theorem J8_element {r : Option Value} {h1 : iHp} (hw : iWp 3 mX8_element 0 [.ref p, .int x0, .int x1, iU] [] h (fun r' h' => r' = r ∧ h' = h1)) : iEv mX8_element [.ref p, .int x0, .int x1] h r h1 := iEv_ev (by rfl) rfl hw
theorem X8_emptyVainShelves_0 : iWp d mX8_emptyVainShelves 0 [a0, a1] st h Q = iWp d mX8_emptyVainShelves 1 [a0, a1] (.int 0 :: st) h Q := w_iconst dX8_emptyVainShelves_0 rfl
theorem X8_emptyVainShelves_1 : iWp d mX8_emptyVainShelves 1 [a0, a1] (.int x :: st) h Q = iWp d mX8_emptyVainShelves 2 [iClr a0, .int x] st h Q := w_istore_n dX8_emptyVainShelves_1 (Nat.le_of_ble_eq_true rfl) rfl
theorem X8_emptyVainShelves_2 : iWp d mX8_emptyVainShelves 2 [a0, .int x] st h Q = iWp d mX8_emptyVainShelves 3 [a0, .int x] (.int x :: st) h Q := w_iload_n dX8_emptyVainShelves_2 rfl
theorem X8_emptyVainShelves_3 : iWp d mX8_emptyVainShelves 3 [a0, a1] st h Q = iWp d mX8_emptyVainShelves 5 [a0, a1] (.int 8 :: st) h Q := w_bipush dX8_emptyVainShelves_3 rfl
theorem X8_emptyVainShelves_5 : iWp d mX8_emptyVainShelves 5 [a0, a1] (.int y :: .int x :: st) h Q = if y ≤ x then iWp d mX8_emptyVainShelves 37 [a0, a1] st h Q else iWp d mX8_emptyVainShelves 8 [a0, a1] st h Q := w_icmp_ge dX8_emptyVainShelves_5 rfl
theorem X8_emptyVainShelves_8 : iWp d mX8_emptyVainShelves 8 [.ref p, a1] st h Q = iWp d mX8_emptyVainShelves 9 [.ref p, a1] (.ref p :: st) h Q := w_aload_n dX8_emptyVainShelves_8 rfl
theorem X8_emptyVainShelves_9 : iWp d mX8_emptyVainShelves 9 [a0, a1] (.ref p :: st) h Q = iOb (iGet h p 8 1) (fun v => iWp d mX8_emptyVainShelves 12 [a0, a1] (v :: st) h Q) := w_getf dX8_emptyVainShelves_9 fF_8_15
theorem X8_emptyVainShelves_12 : iWp d mX8_emptyVainShelves 12 [a0, .int x] st h Q = iWp d mX8_emptyVainShelves 13 [a0, .int x] (.int x :: st) h Q := w_iload_n dX8_emptyVainShelves_12 rfl
theorem X8_emptyVainShelves_13 : iWp d mX8_emptyVainShelves 13 [a0, a1] (.int x :: .ref p :: st) h Q = iOb (iLdI h p x) (fun v => iWp d mX8_emptyVainShelves 14 [a0, a1] (.int v :: st) h Q) := w_iaload dX8_emptyVainShelves_13
theorem X8_emptyVainShelves_14 : iWp d mX8_emptyVainShelves 14 [.ref p, a1] st h Q = iWp d mX8_emptyVainShelves 15 [.ref p, a1] (.ref p :: st) h Q := w_aload_n dX8_emptyVainShelves_14 rfl
theorem X8_emptyVainShelves_15 : iWp d mX8_emptyVainShelves 15 [a0, a1] (.ref p :: st) h Q = iOb (iGet h p 8 4) (fun v => iWp d mX8_emptyVainShelves 18 [a0, a1] (v :: st) h Q) := w_getf dX8_emptyVainShelves_15 fF_8_32
theorem X8_emptyVainShelves_18 : iWp d mX8_emptyVainShelves 18 [a0, a1] (.ref p :: st) h Q = iOb (iGet h p 6 3) (fun v => iWp d mX8_emptyVainShelves 21 [a0, a1] (v :: st) h Q) := w_getf dX8_emptyVainShelves_18 fF_8_259
theorem X8_emptyVainShelves_21 : iWp d mX8_emptyVainShelves 21 [a0, a1] (.int y :: .int x :: st) h Q = if x < y then iWp d mX8_emptyVainShelves 31 [a0, a1] st h Q else iWp d mX8_emptyVainShelves 24 [a0, a1] st h Q := w_icmp_lt dX8_emptyVainShelves_21 rfl
theorem X8_emptyVainShelves_24 : iWp d mX8_emptyVainShelves 24 [.ref p, a1] st h Q = iWp d mX8_emptyVainShelves 25 [.ref p, a1] (.ref p :: st) h Q := w_aload_n dX8_emptyVainShelves_24 rfl
theorem X8_emptyVainShelves_25 : iWp d mX8_emptyVainShelves 25 [a0, a1] (.ref p :: st) h Q = iOb (iGet h p 8 1) (fun v => iWp d mX8_emptyVainShelves 28 [a0, a1] (v :: st) h Q) := w_getf dX8_emptyVainShelves_25 fF_8_15
theorem X8_emptyVainShelves_28 : iWp d mX8_emptyVainShelves 28 [a0, .int x] st h Q = iWp d mX8_emptyVainShelves 29 [a0, .int x] (.int x :: st) h Q := w_iload_n dX8_emptyVainShelves_28 rfl
theorem X8_emptyVainShelves_29 : iWp d mX8_emptyVainShelves 29 [a0, a1] st h Q = iWp d mX8_emptyVainShelves 30 [a0, a1] (.int (-1) :: st) h Q := w_iconst dX8_emptyVainShelves_29 rfl
theorem X8_emptyVainShelves_30 : iWp d mX8_emptyVainShelves 30 [a0, a1] (.int y :: .int x :: .ref p :: st) h Q = iOb (iStI h p x y) (fun g => iWp d mX8_emptyVainShelves 31 [a0, a1] st g Q) := w_iastore dX8_emptyVainShelves_30
theorem X8_emptyVainShelves_31 : iWp d mX8_emptyVainShelves 31 [a0, .int x] st h Q = iWp d mX8_emptyVainShelves 34 [iClr a0, .int (x + 1)] st h Q := w_iinc dX8_emptyVainShelves_31 rfl (Nat.le_of_ble_eq_true rfl) rfl
theorem X8_emptyVainShelves_34 : iWp d mX8_emptyVainShelves 34 [a0, a1] st h Q = iWp d mX8_emptyVainShelves 2 [a0, a1] st h Q := w_goto dX8_emptyVainShelves_34 rfl
theorem X8_emptyVainShelves_37 : iWp d mX8_emptyVainShelves 37 [a0, a1] [] h Q = Q none h := w_ret dX8_emptyVainShelves_37 rfl
theorem I8_emptyVainShelves {Q : Option Value → iHp → Prop} (hw : iWp 1 mX8_emptyVainShelves 0 [.ref p, iU] [] h Q) : ∃ r h1, iEv mX8_emptyVainShelves [.ref p] h r h1 ∧ Q r h1 := iEv_of (by rfl) rfl hw
theorem J8_emptyVainShelves {r : Option Value} {h1 : iHp} (hw : iWp 1 mX8_emptyVainShelves 0 [.ref p, iU] [] h (fun r' h' => r' = r ∧ h' = h1)) : iEv mX8_emptyVainShelves [.ref p] h r h1 := iEv_ev (by rfl) rfl hw
theorem X8_far_0 : iWp d mX8_far 0 [.ref p, a1, a2, a3] st h Q = iWp d mX8_far 1 [.ref p, a1, a2, a3] (.ref p :: st) h Q := w_aload_n dX8_far_0 rfl
theorem X8_far_1 : iWp d mX8_far 1 [a0, a1, a2, a3] (.ref p :: st) h Q = iOb (iGet h p 8 3) (fun v => iWp d mX8_far 4 [a0, a1, a2, a3] (v :: st) h Q) := w_getf dX8_far_1 fF_8_25
theorem X8_far_4 : iWp d mX8_far 4 [.ref p, a1, a2, a3] st h Q = iWp d mX8_far 5 [.ref p, a1, a2, a3] (.ref p :: st) h Q := w_aload_n dX8_far_4 rfl
theorem X8_far_5 : iWp d mX8_far 5 [a0, .int x, a2, a3] st h Q = iWp d mX8_far 6 [a0, .int x, a2, a3] (.int x :: st) h Q := w_iload_n dX8_far_5 rfl
theorem X8_far_6 (he : iEv mX8_treeAt [.ref p, .int x0] h (some rw) h2) (ho : iObj h p 8 = true) : iWp 8 mX8_far 6 [a0, a1, a2, a3] [.int x0, .ref p, .ref t0] h Q = iWp 8 mX8_far 9 [a0, a1, a2, a3] [rw, .ref t0] h2 Q := iWp_cV dX8_far_6 fK_8_121 rfl rfl ho (Nat.le_of_ble_eq_true rfl) (Nat.le_of_ble_eq_true rfl) rfl (Nat.le_of_ble_eq_true rfl) he rfl
theorem X8_far_9 : iWp d mX8_far 9 [.ref p, a1, a2, a3] st h Q = iWp d mX8_far 10 [.ref p, a1, a2, a3] (.ref p :: st) h Q := w_aload_n dX8_far_9 rfl
theorem X8_far_10 : iWp d mX8_far 10 [a0, a1, .int x, a3] st h Q = iWp d mX8_far 11 [a0, a1, .int x, a3] (.int x :: st) h Q := w_iload_n dX8_far_10 rfl
theorem X8_far_11 (he : iEv mX8_treeAt [.ref p, .int x0] h (some rw) h2) (ho : iObj h p 8 = true) : iWp 8 mX8_far 11 [a0, a1, a2, a3] [.int x0, .ref p, .ref t0, .ref t1] h Q = iWp 8 mX8_far 14 [a0, a1, a2, a3] [rw, .ref t0, .ref t1] h2 Q := iWp_cV dX8_far_11 fK_8_121 rfl rfl ho (Nat.le_of_ble_eq_true rfl) (Nat.le_of_ble_eq_true rfl) rfl (Nat.le_of_ble_eq_true rfl) he rfl
theorem X8_far_14 (he : iEv mX0_draftInto [b0, b1, b2] h (some (.int rv)) h2) (c0 : b0.category = 1) (c1 : b1.category = 1) (c2 : b2.category = 1) : iWp 8 mX8_far 14 [a0, a1, a2, a3] [b2, b1, b0] h Q = iWp 8 mX8_far 17 [a0, a1, a2, a3] [.int rv] h2 Q := iWp_cS dX8_far_14 fK_8_175 rfl rfl (Nat.le_of_ble_eq_true rfl) (Nat.le_of_ble_eq_true rfl) (by simp [iInit, cat_i, cat_r, cat_l, mX0_draftInto, c0, c1, c2]) (Nat.le_of_ble_eq_true rfl) he rfl
theorem X8_far_17 : iWp d mX8_far 17 [a0, a1, a2, a3] (.int x :: st) h Q = iWp d mX8_far 18 [a0, a1, iClr a2, .int x] st h Q := w_istore_n dX8_far_17 (Nat.le_of_ble_eq_true rfl) rfl
theorem X8_far_18 : iWp d mX8_far 18 [a0, a1, a2, .int x] st h Q = iWp d mX8_far 19 [a0, a1, a2, .int x] (.int x :: st) h Q := w_iload_n dX8_far_18 rfl
theorem X8_far_19 : iWp d mX8_far 19 [a0, a1, a2, a3] (.int x :: st) h Q = if x = 0 then iWp d mX8_far 22 [a0, a1, a2, a3] st h Q else iWp d mX8_far 32 [a0, a1, a2, a3] st h Q := w_ifc_ne dX8_far_19 rfl
theorem X8_far_22 : iWp d mX8_far 22 [.ref p, a1, a2, a3] st h Q = iWp d mX8_far 23 [.ref p, a1, a2, a3] (.ref p :: st) h Q := w_aload_n dX8_far_22 rfl
theorem X8_far_23 : iWp d mX8_far 23 [a0, a1, a2, a3] (.ref p :: st) h Q = iOb (iGet h p 8 3) (fun v => iWp d mX8_far 26 [a0, a1, a2, a3] (v :: st) h Q) := w_getf dX8_far_23 fF_8_25
theorem X8_far_26 : iWp d mX8_far 26 [a0, a1, a2, a3] (.ref p :: st) h Q = iOb (iGet h p 1 2) (fun v => iWp d mX8_far 29 [a0, a1, a2, a3] (v :: st) h Q) := w_getf dX8_far_26 fF_8_184
theorem X8_far_29 : iWp d mX8_far 29 [a0, a1, a2, a3] st h Q = iWp d mX8_far 37 [a0, a1, a2, a3] st h Q := w_goto dX8_far_29 rfl
theorem X8_far_32 : iWp d mX8_far 32 [.ref p, a1, a2, a3] st h Q = iWp d mX8_far 33 [.ref p, a1, a2, a3] (.ref p :: st) h Q := w_aload_n dX8_far_32 rfl
theorem X8_far_33 : iWp d mX8_far 33 [a0, a1, a2, .int x] st h Q = iWp d mX8_far 34 [a0, a1, a2, .int x] (.int x :: st) h Q := w_iload_n dX8_far_33 rfl
theorem X8_far_34 (he : iEv mX8_refuse [.ref p, .int x0] h (some (.int rv)) h2) (ho : iObj h p 8 = true) : iWp 8 mX8_far 34 [a0, a1, a2, a3] [.int x0, .ref p] h Q = iWp 8 mX8_far 37 [a0, a1, a2, a3] [.int rv] h2 Q := iWp_cV dX8_far_34 fK_8_50 rfl rfl ho (Nat.le_of_ble_eq_true rfl) (Nat.le_of_ble_eq_true rfl) rfl (Nat.le_of_ble_eq_true rfl) he rfl
theorem X8_far_37 : iWp d mX8_far 37 [a0, a1, a2, a3] [.int x] h Q = Q (some (.int x)) h := w_ireti dX8_far_37 rfl
theorem I8_far {Q : Option Value → iHp → Prop} (hw : iWp 8 mX8_far 0 [.ref p, .int x0, .int x1, iU] [] h Q) : ∃ r h1, iEv mX8_far [.ref p, .int x0, .int x1] h r h1 ∧ Q r h1 := iEv_of (by rfl) rfl hw
theorem J8_far {r : Option Value} {h1 : iHp} (hw : iWp 8 mX8_far 0 [.ref p, .int x0, .int x1, iU] [] h (fun r' h' => r' = r ∧ h' = h1)) : iEv mX8_far [.ref p, .int x0, .int x1] h r h1 := iEv_ev (by rfl) rfl hw
theorem X8_fault_0 : iWp d mX8_fault 0 [.ref p] st h Q = iWp d mX8_fault 1 [.ref p] (.ref p :: st) h Q := w_aload_n dX8_fault_0 rfl
theorem X8_fault_1 : iWp d mX8_fault 1 [a0] (.ref p :: st) h Q = iOb (iGet h p 8 6) (fun v => iWp d mX8_fault 4 [a0] (v :: st) h Q) := w_getf dX8_fault_1 fF_8_39
theorem X8_fault_4 : iWp d mX8_fault 4 [a0] [.int x] h Q = Q (some (.int x)) h := w_ireti dX8_fault_4 rfl
theorem I8_fault {Q : Option Value → iHp → Prop} (hw : iWp 1 mX8_fault 0 [.ref p] [] h Q) : ∃ r h1, iEv mX8_fault [.ref p] h r h1 ∧ Q r h1 := iEv_of (by rfl) rfl hw
theorem J8_fault {r : Option Value} {h1 : iHp} (hw : iWp 1 mX8_fault 0 [.ref p] [] h (fun r' h' => r' = r ∧ h' = h1)) : iEv mX8_fault [.ref p] h r h1 := iEv_ev (by rfl) rfl hw
theorem X8_find_0 : iWp d mX8_find 0 [.ref p, a1, a2, a3] st h Q = iWp d mX8_find 1 [.ref p, a1, a2, a3] (.ref p :: st) h Q := w_aload_n dX8_find_0 rfl
theorem X8_find_1 : iWp d mX8_find 1 [a0, .int x, a2, a3] st h Q = iWp d mX8_find 2 [a0, .int x, a2, a3] (.int x :: st) h Q := w_iload_n dX8_find_1 rfl
theorem X8_find_2 (he : iEv mX8_treeAt [.ref p, .int x0] h (some rw) h2) (ho : iObj h p 8 = true) : iWp 3 mX8_find 2 [a0, a1, a2, a3] [.int x0, .ref p] h Q = iWp 3 mX8_find 5 [a0, a1, a2, a3] [rw] h2 Q := iWp_cV dX8_find_2 fK_8_121 rfl rfl ho (Nat.le_of_ble_eq_true rfl) (Nat.le_of_ble_eq_true rfl) rfl (Nat.le_of_ble_eq_true rfl) he rfl
theorem X8_find_5 : iWp d mX8_find 5 [a0, a1, a2, a3] (.ref p :: st) h Q = iWp d mX8_find 6 [a0, a1, iClr a2, .ref p] st h Q := w_astore_n dX8_find_5 (Nat.le_of_ble_eq_true rfl) rfl
theorem X8_find_5n : iWp d mX8_find 5 [a0, a1, a2, a3] (.null :: st) h Q = iWp d mX8_find 6 [a0, a1, iClr a2, .null] st h Q := w_astore_nN dX8_find_5 (Nat.le_of_ble_eq_true rfl) rfl
theorem X8_find_6 : iWp d mX8_find 6 [a0, a1, a2, .ref p] st h Q = iWp d mX8_find 7 [a0, a1, a2, .ref p] (.ref p :: st) h Q := w_aload_n dX8_find_6 rfl
theorem X8_find_6n : iWp d mX8_find 6 [a0, a1, a2, .null] st h Q = iWp d mX8_find 7 [a0, a1, a2, .null] (.null :: st) h Q := w_aload_nN dX8_find_6 rfl
theorem X8_find_7 : iWp d mX8_find 7 [a0, a1, a2, a3] (.ref p :: st) h Q = iWp d mX8_find 18 [a0, a1, a2, a3] st h Q := w_ifnonnull dX8_find_7 rfl
theorem X8_find_7n : iWp d mX8_find 7 [a0, a1, a2, a3] (.null :: st) h Q = iWp d mX8_find 10 [a0, a1, a2, a3] st h Q := w_ifnonnullN dX8_find_7
theorem X8_find_10 : iWp d mX8_find 10 [.ref p, a1, a2, a3] st h Q = iWp d mX8_find 11 [.ref p, a1, a2, a3] (.ref p :: st) h Q := w_aload_n dX8_find_10 rfl
theorem X8_find_11 : iWp d mX8_find 11 [a0, a1, a2, a3] st h Q = iWp d mX8_find 12 [a0, a1, a2, a3] (.int (-1) :: st) h Q := w_iconst dX8_find_11 rfl
theorem X8_find_12 (he : iEv mX8_refuseLower [.ref p, .int x0] h (some (.int rv)) h2) (ho : iObj h p 8 = true) : iWp 3 mX8_find 12 [a0, a1, a2, a3] [.int x0, .ref p] h Q = iWp 3 mX8_find 15 [a0, a1, a2, a3] [.int rv] h2 Q := iWp_cV dX8_find_12 fK_8_152 rfl rfl ho (Nat.le_of_ble_eq_true rfl) (Nat.le_of_ble_eq_true rfl) rfl (Nat.le_of_ble_eq_true rfl) he rfl
theorem X8_find_15 : iWp d mX8_find 15 [a0, a1, a2, a3] st h Q = iWp d mX8_find 23 [a0, a1, a2, a3] st h Q := w_goto dX8_find_15 rfl
theorem X8_find_18 : iWp d mX8_find 18 [a0, a1, a2, .ref p] st h Q = iWp d mX8_find 19 [a0, a1, a2, .ref p] (.ref p :: st) h Q := w_aload_n dX8_find_18 rfl
theorem X8_find_18n : iWp d mX8_find 18 [a0, a1, a2, .null] st h Q = iWp d mX8_find 19 [a0, a1, a2, .null] (.null :: st) h Q := w_aload_nN dX8_find_18 rfl
theorem X8_find_19 : iWp d mX8_find 19 [a0, a1, .int x, a3] st h Q = iWp d mX8_find 20 [a0, a1, .int x, a3] (.int x :: st) h Q := w_iload_n dX8_find_19 rfl
theorem X8_find_20 (he : iEv mX7_whereOf [.ref p, .int x0] h (some (.int rv)) h2) (ho : iObj h p 7 = true) : iWp 3 mX8_find 20 [a0, a1, a2, a3] [.int x0, .ref p] h Q = iWp 3 mX8_find 23 [a0, a1, a2, a3] [.int rv] h2 Q := iWp_cV dX8_find_20 fK_8_155 rfl rfl ho (Nat.le_of_ble_eq_true rfl) (Nat.le_of_ble_eq_true rfl) rfl (Nat.le_of_ble_eq_true rfl) he rfl
theorem X8_find_23 : iWp d mX8_find 23 [a0, a1, a2, a3] [.int x] h Q = Q (some (.int x)) h := w_ireti dX8_find_23 rfl
theorem I8_find {Q : Option Value → iHp → Prop} (hw : iWp 3 mX8_find 0 [.ref p, .int x0, .int x1, iU] [] h Q) : ∃ r h1, iEv mX8_find [.ref p, .int x0, .int x1] h r h1 ∧ Q r h1 := iEv_of (by rfl) rfl hw
theorem J8_find {r : Option Value} {h1 : iHp} (hw : iWp 3 mX8_find 0 [.ref p, .int x0, .int x1, iU] [] h (fun r' h' => r' = r ∧ h' = h1)) : iEv mX8_find [.ref p, .int x0, .int x1] h r h1 := iEv_ev (by rfl) rfl hw
theorem X8_forget_0 : iWp d mX8_forget 0 [.ref p] st h Q = iWp d mX8_forget 1 [.ref p] (.ref p :: st) h Q := w_aload_n dX8_forget_0 rfl
theorem X8_forget_1 : iWp d mX8_forget 1 [a0] (.ref p :: st) h Q = iOb (iGet h p 8 4) (fun v => iWp d mX8_forget 4 [a0] (v :: st) h Q) := w_getf dX8_forget_1 fF_8_32
theorem X8_forget_4 : iWp d mX8_forget 4 [a0] (.ref p :: st) h Q = iOb (iGet h p 6 3) (fun v => iWp d mX8_forget 7 [a0] (v :: st) h Q) := w_getf dX8_forget_4 fF_8_259
theorem X8_forget_7 : iWp d mX8_forget 7 [a0] (.int x :: st) h Q = if x = 0 then iWp d mX8_forget 10 [a0] st h Q else iWp d mX8_forget 17 [a0] st h Q := w_ifc_ne dX8_forget_7 rfl
theorem X8_forget_10 : iWp d mX8_forget 10 [.ref p] st h Q = iWp d mX8_forget 11 [.ref p] (.ref p :: st) h Q := w_aload_n dX8_forget_10 rfl
theorem X8_forget_11 : iWp d mX8_forget 11 [a0] st h Q = iWp d mX8_forget 13 [a0] (.int (-6) :: st) h Q := w_bipush dX8_forget_11 rfl
theorem X8_forget_13 (he : iEv mX8_refuse [.ref p, .int x0] h (some (.int rv)) h2) (ho : iObj h p 8 = true) : iWp 2 mX8_forget 13 [a0] [.int x0, .ref p] h Q = iWp 2 mX8_forget 16 [a0] [.int rv] h2 Q := iWp_cV dX8_forget_13 fK_8_50 rfl rfl ho (Nat.le_of_ble_eq_true rfl) (Nat.le_of_ble_eq_true rfl) rfl (Nat.le_of_ble_eq_true rfl) he rfl
theorem X8_forget_16 : iWp d mX8_forget 16 [a0] [.int x] h Q = Q (some (.int x)) h := w_ireti dX8_forget_16 rfl
theorem X8_forget_17 : iWp d mX8_forget 17 [.ref p] st h Q = iWp d mX8_forget 18 [.ref p] (.ref p :: st) h Q := w_aload_n dX8_forget_17 rfl
theorem X8_forget_18 : iWp d mX8_forget 18 [a0] (.ref p :: st) h Q = iOb (iGet h p 8 4) (fun v => iWp d mX8_forget 21 [a0] (v :: st) h Q) := w_getf dX8_forget_18 fF_8_32
theorem X8_forget_21 (he : iEv mX6_forgetPatch [.ref p] h none h2) (ho : iObj h p 6 = true) : iWp 2 mX8_forget 21 [a0] [.ref p] h Q = iWp 2 mX8_forget 24 [a0] [] h2 Q := iWp_cV dX8_forget_21 fK_8_262 rfl rfl ho (Nat.le_of_ble_eq_true rfl) (Nat.le_of_ble_eq_true rfl) rfl (Nat.le_of_ble_eq_true rfl) he rfl
theorem X8_forget_24 : iWp d mX8_forget 24 [.ref p] st h Q = iWp d mX8_forget 25 [.ref p] (.ref p :: st) h Q := w_aload_n dX8_forget_24 rfl
theorem X8_forget_25 (he : iEv mX8_emptyVainShelves [.ref p] h none h2) (ho : iObj h p 8 = true) : iWp 2 mX8_forget 25 [a0] [.ref p] h Q = iWp 2 mX8_forget 28 [a0] [] h2 Q := iWp_cV dX8_forget_25 fK_8_265 rfl rfl ho (Nat.le_of_ble_eq_true rfl) (Nat.le_of_ble_eq_true rfl) rfl (Nat.le_of_ble_eq_true rfl) he rfl
theorem X8_forget_28 : iWp d mX8_forget 28 [.ref p] st h Q = iWp d mX8_forget 29 [.ref p] (.ref p :: st) h Q := w_aload_n dX8_forget_28 rfl
theorem X8_forget_29 : iWp d mX8_forget 29 [a0] (.ref p :: st) h Q = iOb (iGet h p 8 4) (fun v => iWp d mX8_forget 32 [a0] (v :: st) h Q) := w_getf dX8_forget_29 fF_8_32
theorem X8_forget_32 : iWp d mX8_forget 32 [a0] (.ref p :: st) h Q = iOb (iGet h p 6 3) (fun v => iWp d mX8_forget 35 [a0] (v :: st) h Q) := w_getf dX8_forget_32 fF_8_259
theorem X8_forget_35 : iWp d mX8_forget 35 [a0] [.int x] h Q = Q (some (.int x)) h := w_ireti dX8_forget_35 rfl
theorem I8_forget {Q : Option Value → iHp → Prop} (hw : iWp 2 mX8_forget 0 [.ref p] [] h Q) : ∃ r h1, iEv mX8_forget [.ref p] h r h1 ∧ Q r h1 := iEv_of (by rfl) rfl hw
theorem J8_forget {r : Option Value} {h1 : iHp} (hw : iWp 2 mX8_forget 0 [.ref p] [] h (fun r' h' => r' = r ∧ h' = h1)) : iEv mX8_forget [.ref p] h r h1 := iEv_ev (by rfl) rfl hw
theorem X8_fullShelves_0 : iWp d mX8_fullShelves 0 [a0, a1, a2] st h Q = iWp d mX8_fullShelves 1 [a0, a1, a2] (.int 0 :: st) h Q := w_iconst dX8_fullShelves_0 rfl
theorem X8_fullShelves_1 : iWp d mX8_fullShelves 1 [a0, a1, a2] (.int x :: st) h Q = iWp d mX8_fullShelves 2 [iClr a0, .int x, a2] st h Q := w_istore_n dX8_fullShelves_1 (Nat.le_of_ble_eq_true rfl) rfl
theorem X8_fullShelves_2 : iWp d mX8_fullShelves 2 [a0, a1, a2] st h Q = iWp d mX8_fullShelves 3 [a0, a1, a2] (.int 0 :: st) h Q := w_iconst dX8_fullShelves_2 rfl
theorem X8_fullShelves_3 : iWp d mX8_fullShelves 3 [a0, a1, a2] (.int x :: st) h Q = iWp d mX8_fullShelves 4 [a0, iClr a1, .int x] st h Q := w_istore_n dX8_fullShelves_3 (Nat.le_of_ble_eq_true rfl) rfl
theorem X8_fullShelves_4 : iWp d mX8_fullShelves 4 [a0, a1, .int x] st h Q = iWp d mX8_fullShelves 5 [a0, a1, .int x] (.int x :: st) h Q := w_iload_n dX8_fullShelves_4 rfl
theorem X8_fullShelves_5 : iWp d mX8_fullShelves 5 [a0, a1, a2] st h Q = iWp d mX8_fullShelves 7 [a0, a1, a2] (.int 8 :: st) h Q := w_bipush dX8_fullShelves_5 rfl
theorem X8_fullShelves_7 : iWp d mX8_fullShelves 7 [a0, a1, a2] (.int y :: .int x :: st) h Q = if y ≤ x then iWp d mX8_fullShelves 38 [a0, a1, a2] st h Q else iWp d mX8_fullShelves 10 [a0, a1, a2] st h Q := w_icmp_ge dX8_fullShelves_7 rfl
theorem X8_fullShelves_10 : iWp d mX8_fullShelves 10 [.ref p, a1, a2] st h Q = iWp d mX8_fullShelves 11 [.ref p, a1, a2] (.ref p :: st) h Q := w_aload_n dX8_fullShelves_10 rfl
theorem X8_fullShelves_11 : iWp d mX8_fullShelves 11 [a0, a1, a2] (.ref p :: st) h Q = iOb (iGet h p 8 0) (fun v => iWp d mX8_fullShelves 14 [a0, a1, a2] (v :: st) h Q) := w_getf dX8_fullShelves_11 fF_8_11
theorem X8_fullShelves_14 : iWp d mX8_fullShelves 14 [a0, a1, .int x] st h Q = iWp d mX8_fullShelves 15 [a0, a1, .int x] (.int x :: st) h Q := w_iload_n dX8_fullShelves_14 rfl
theorem X8_fullShelves_15 : iWp d mX8_fullShelves 15 [a0, a1, a2] (.int x :: .ref p :: st) h Q = iOb (iLdQ h p x) (fun v => iWp d mX8_fullShelves 16 [a0, a1, a2] (va_rf v :: st) h Q) := w_aaload dX8_fullShelves_15
theorem X8_fullShelves_16 : iWp d mX8_fullShelves 16 [a0, a1, a2] (.ref p :: st) h Q = iWp d mX8_fullShelves 29 [a0, a1, a2] st h Q := w_ifnonnull dX8_fullShelves_16 rfl
theorem X8_fullShelves_16n : iWp d mX8_fullShelves 16 [a0, a1, a2] (.null :: st) h Q = iWp d mX8_fullShelves 19 [a0, a1, a2] st h Q := w_ifnonnullN dX8_fullShelves_16
theorem X8_fullShelves_19 : iWp d mX8_fullShelves 19 [.ref p, a1, a2] st h Q = iWp d mX8_fullShelves 20 [.ref p, a1, a2] (.ref p :: st) h Q := w_aload_n dX8_fullShelves_19 rfl
theorem X8_fullShelves_20 : iWp d mX8_fullShelves 20 [a0, a1, a2] (.ref p :: st) h Q = iOb (iGet h p 8 1) (fun v => iWp d mX8_fullShelves 23 [a0, a1, a2] (v :: st) h Q) := w_getf dX8_fullShelves_20 fF_8_15
theorem X8_fullShelves_23 : iWp d mX8_fullShelves 23 [a0, a1, .int x] st h Q = iWp d mX8_fullShelves 24 [a0, a1, .int x] (.int x :: st) h Q := w_iload_n dX8_fullShelves_23 rfl
theorem X8_fullShelves_24 : iWp d mX8_fullShelves 24 [a0, a1, a2] (.int x :: .ref p :: st) h Q = iOb (iLdI h p x) (fun v => iWp d mX8_fullShelves 25 [a0, a1, a2] (.int v :: st) h Q) := w_iaload dX8_fullShelves_24
theorem X8_fullShelves_25 : iWp d mX8_fullShelves 25 [a0, a1, a2] st h Q = iWp d mX8_fullShelves 26 [a0, a1, a2] (.int (-1) :: st) h Q := w_iconst dX8_fullShelves_25 rfl
theorem X8_fullShelves_26 : iWp d mX8_fullShelves 26 [a0, a1, a2] (.int y :: .int x :: st) h Q = if x = y then iWp d mX8_fullShelves 32 [a0, a1, a2] st h Q else iWp d mX8_fullShelves 29 [a0, a1, a2] st h Q := w_icmp_eq dX8_fullShelves_26 rfl
theorem X8_fullShelves_29 : iWp d mX8_fullShelves 29 [a0, .int x, a2] st h Q = iWp d mX8_fullShelves 32 [iClr a0, .int (x + 1), a2] st h Q := w_iinc dX8_fullShelves_29 rfl (Nat.le_of_ble_eq_true rfl) rfl
theorem X8_fullShelves_32 : iWp d mX8_fullShelves 32 [a0, a1, .int x] st h Q = iWp d mX8_fullShelves 35 [a0, iClr a1, .int (x + 1)] st h Q := w_iinc dX8_fullShelves_32 rfl (Nat.le_of_ble_eq_true rfl) rfl
theorem X8_fullShelves_35 : iWp d mX8_fullShelves 35 [a0, a1, a2] st h Q = iWp d mX8_fullShelves 4 [a0, a1, a2] st h Q := w_goto dX8_fullShelves_35 rfl
theorem X8_fullShelves_38 : iWp d mX8_fullShelves 38 [a0, .int x, a2] st h Q = iWp d mX8_fullShelves 39 [a0, .int x, a2] (.int x :: st) h Q := w_iload_n dX8_fullShelves_38 rfl
theorem X8_fullShelves_39 : iWp d mX8_fullShelves 39 [a0, a1, a2] [.int x] h Q = Q (some (.int x)) h := w_ireti dX8_fullShelves_39 rfl
theorem I8_fullShelves {Q : Option Value → iHp → Prop} (hw : iWp 1 mX8_fullShelves 0 [.ref p, iU, iU] [] h Q) : ∃ r h1, iEv mX8_fullShelves [.ref p] h r h1 ∧ Q r h1 := iEv_of (by rfl) rfl hw
theorem J8_fullShelves {r : Option Value} {h1 : iHp} (hw : iWp 1 mX8_fullShelves 0 [.ref p, iU, iU] [] h (fun r' h' => r' = r ∧ h' = h1)) : iEv mX8_fullShelves [.ref p] h r h1 := iEv_ev (by rfl) rfl hw
theorem X8_hand_0 : iWp d mX8_hand 0 [.ref p, a1, a2, a3, a4, a5] st h Q = iWp d mX8_hand 1 [.ref p, a1, a2, a3, a4, a5] (.ref p :: st) h Q := w_aload_n dX8_hand_0 rfl
theorem X8_hand_1 : iWp d mX8_hand 1 [a0, a1, a2, .int x, a4, a5] st h Q = iWp d mX8_hand 2 [a0, a1, a2, .int x, a4, a5] (.int x :: st) h Q := w_iload_n dX8_hand_1 rfl
theorem X8_hand_2 (he : iEv mX8_treeAt [.ref p, .int x0] h (some rw) h2) (ho : iObj h p 8 = true) : iWp 4 mX8_hand 2 [a0, a1, a2, a3, a4, a5] [.int x0, .ref p] h Q = iWp 4 mX8_hand 5 [a0, a1, a2, a3, a4, a5] [rw] h2 Q := iWp_cV dX8_hand_2 fK_8_121 rfl rfl ho (Nat.le_of_ble_eq_true rfl) (Nat.le_of_ble_eq_true rfl) rfl (Nat.le_of_ble_eq_true rfl) he rfl
theorem X8_hand_5 : iWp d mX8_hand 5 [a0, a1, a2, a3, a4, a5] (.ref p :: st) h Q = iWp d mX8_hand 7 [a0, a1, a2, iClr a3, .ref p, a5] st h Q := w_astore dX8_hand_5 (Nat.le_of_ble_eq_true rfl) rfl
theorem X8_hand_5n : iWp d mX8_hand 5 [a0, a1, a2, a3, a4, a5] (.null :: st) h Q = iWp d mX8_hand 7 [a0, a1, a2, iClr a3, .null, a5] st h Q := w_astoreN dX8_hand_5 (Nat.le_of_ble_eq_true rfl) rfl
theorem X8_hand_7 : iWp d mX8_hand 7 [a0, a1, a2, a3, .ref p, a5] st h Q = iWp d mX8_hand 9 [a0, a1, a2, a3, .ref p, a5] (.ref p :: st) h Q := w_aload dX8_hand_7 rfl
theorem X8_hand_7n : iWp d mX8_hand 7 [a0, a1, a2, a3, .null, a5] st h Q = iWp d mX8_hand 9 [a0, a1, a2, a3, .null, a5] (.null :: st) h Q := w_aloadN dX8_hand_7 rfl
theorem X8_hand_9 : iWp d mX8_hand 9 [a0, a1, a2, a3, a4, a5] (.ref p :: st) h Q = iWp d mX8_hand 18 [a0, a1, a2, a3, a4, a5] st h Q := w_ifnonnull dX8_hand_9 rfl
theorem X8_hand_9n : iWp d mX8_hand 9 [a0, a1, a2, a3, a4, a5] (.null :: st) h Q = iWp d mX8_hand 12 [a0, a1, a2, a3, a4, a5] st h Q := w_ifnonnullN dX8_hand_9
theorem X8_hand_12 : iWp d mX8_hand 12 [.ref p, a1, a2, a3, a4, a5] st h Q = iWp d mX8_hand 13 [.ref p, a1, a2, a3, a4, a5] (.ref p :: st) h Q := w_aload_n dX8_hand_12 rfl
theorem X8_hand_13 : iWp d mX8_hand 13 [a0, a1, a2, a3, a4, a5] st h Q = iWp d mX8_hand 14 [a0, a1, a2, a3, a4, a5] (.int (-1) :: st) h Q := w_iconst dX8_hand_13 rfl
theorem X8_hand_14 (he : iEv mX8_refuse [.ref p, .int x0] h (some (.int rv)) h2) (ho : iObj h p 8 = true) : iWp 4 mX8_hand 14 [a0, a1, a2, a3, a4, a5] [.int x0, .ref p] h Q = iWp 4 mX8_hand 17 [a0, a1, a2, a3, a4, a5] [.int rv] h2 Q := iWp_cV dX8_hand_14 fK_8_50 rfl rfl ho (Nat.le_of_ble_eq_true rfl) (Nat.le_of_ble_eq_true rfl) rfl (Nat.le_of_ble_eq_true rfl) he rfl
theorem X8_hand_17 : iWp d mX8_hand 17 [a0, a1, a2, a3, a4, a5] [.int x] h Q = Q (some (.int x)) h := w_ireti dX8_hand_17 rfl
theorem X8_hand_18 : iWp d mX8_hand 18 [a0, a1, a2, a3, .ref p, a5] st h Q = iWp d mX8_hand 20 [a0, a1, a2, a3, .ref p, a5] (.ref p :: st) h Q := w_aload dX8_hand_18 rfl
theorem X8_hand_18n : iWp d mX8_hand 18 [a0, a1, a2, a3, .null, a5] st h Q = iWp d mX8_hand 20 [a0, a1, a2, a3, .null, a5] (.null :: st) h Q := w_aloadN dX8_hand_18 rfl
theorem X8_hand_20 : iWp d mX8_hand 20 [a0, .int x, a2, a3, a4, a5] st h Q = iWp d mX8_hand 21 [a0, .int x, a2, a3, a4, a5] (.int x :: st) h Q := w_iload_n dX8_hand_20 rfl
theorem X8_hand_21 (he : iEv mX7_whereOf [.ref p, .int x0] h (some (.int rv)) h2) (ho : iObj h p 7 = true) : iWp 4 mX8_hand 21 [a0, a1, a2, a3, a4, a5] [.int x0, .ref p] h Q = iWp 4 mX8_hand 24 [a0, a1, a2, a3, a4, a5] [.int rv] h2 Q := iWp_cV dX8_hand_21 fK_8_155 rfl rfl ho (Nat.le_of_ble_eq_true rfl) (Nat.le_of_ble_eq_true rfl) rfl (Nat.le_of_ble_eq_true rfl) he rfl
theorem X8_hand_24 : iWp d mX8_hand 24 [a0, a1, a2, a3, a4, a5] (.int x :: st) h Q = iWp d mX8_hand 26 [a0, a1, a2, a3, iClr a4, .int x] st h Q := w_istore dX8_hand_24 (Nat.le_of_ble_eq_true rfl) rfl
theorem X8_hand_26 : iWp d mX8_hand 26 [a0, a1, a2, a3, a4, .int x] st h Q = iWp d mX8_hand 28 [a0, a1, a2, a3, a4, .int x] (.int x :: st) h Q := w_iload dX8_hand_26 rfl
theorem X8_hand_28 : iWp d mX8_hand 28 [a0, a1, a2, a3, a4, a5] st h Q = iWp d mX8_hand 29 [a0, a1, a2, a3, a4, a5] (.int (-1) :: st) h Q := w_iconst dX8_hand_28 rfl
theorem X8_hand_29 : iWp d mX8_hand 29 [a0, a1, a2, a3, a4, a5] (.int y :: .int x :: st) h Q = if x = y then iWp d mX8_hand 32 [a0, a1, a2, a3, a4, a5] st h Q else iWp d mX8_hand 39 [a0, a1, a2, a3, a4, a5] st h Q := w_icmp_ne dX8_hand_29 rfl
theorem X8_hand_32 : iWp d mX8_hand 32 [.ref p, a1, a2, a3, a4, a5] st h Q = iWp d mX8_hand 33 [.ref p, a1, a2, a3, a4, a5] (.ref p :: st) h Q := w_aload_n dX8_hand_32 rfl
theorem X8_hand_33 : iWp d mX8_hand 33 [a0, a1, a2, a3, a4, a5] st h Q = iWp d mX8_hand 35 [a0, a1, a2, a3, a4, a5] (.int (-5) :: st) h Q := w_bipush dX8_hand_33 rfl
theorem X8_hand_35 (he : iEv mX8_refuse [.ref p, .int x0] h (some (.int rv)) h2) (ho : iObj h p 8 = true) : iWp 4 mX8_hand 35 [a0, a1, a2, a3, a4, a5] [.int x0, .ref p] h Q = iWp 4 mX8_hand 38 [a0, a1, a2, a3, a4, a5] [.int rv] h2 Q := iWp_cV dX8_hand_35 fK_8_50 rfl rfl ho (Nat.le_of_ble_eq_true rfl) (Nat.le_of_ble_eq_true rfl) rfl (Nat.le_of_ble_eq_true rfl) he rfl
theorem X8_hand_38 : iWp d mX8_hand 38 [a0, a1, a2, a3, a4, a5] [.int x] h Q = Q (some (.int x)) h := w_ireti dX8_hand_38 rfl
theorem X8_hand_39 : iWp d mX8_hand 39 [a0, a1, .int x, a3, a4, a5] st h Q = iWp d mX8_hand 40 [a0, a1, .int x, a3, a4, a5] (.int x :: st) h Q := w_iload_n dX8_hand_39 rfl
theorem X8_hand_40 (he : iEv mX8_isLabel [.int x0] h (some (.int rv)) h2) : iWp 4 mX8_hand 40 [a0, a1, a2, a3, a4, a5] [.int x0] h Q = iWp 4 mX8_hand 43 [a0, a1, a2, a3, a4, a5] [.int rv] h2 Q := iWp_cS dX8_hand_40 fK_8_244 rfl rfl (Nat.le_of_ble_eq_true rfl) (Nat.le_of_ble_eq_true rfl) rfl (Nat.le_of_ble_eq_true rfl) he rfl
theorem X8_hand_43 : iWp d mX8_hand 43 [a0, a1, a2, a3, a4, a5] (.int x :: st) h Q = if x = 0 then iWp d mX8_hand 46 [a0, a1, a2, a3, a4, a5] st h Q else iWp d mX8_hand 53 [a0, a1, a2, a3, a4, a5] st h Q := w_ifc_ne dX8_hand_43 rfl
theorem X8_hand_46 : iWp d mX8_hand 46 [.ref p, a1, a2, a3, a4, a5] st h Q = iWp d mX8_hand 47 [.ref p, a1, a2, a3, a4, a5] (.ref p :: st) h Q := w_aload_n dX8_hand_46 rfl
theorem X8_hand_47 : iWp d mX8_hand 47 [a0, a1, a2, a3, a4, a5] st h Q = iWp d mX8_hand 49 [a0, a1, a2, a3, a4, a5] (.int (-6) :: st) h Q := w_bipush dX8_hand_47 rfl
theorem X8_hand_49 (he : iEv mX8_refuse [.ref p, .int x0] h (some (.int rv)) h2) (ho : iObj h p 8 = true) : iWp 4 mX8_hand 49 [a0, a1, a2, a3, a4, a5] [.int x0, .ref p] h Q = iWp 4 mX8_hand 52 [a0, a1, a2, a3, a4, a5] [.int rv] h2 Q := iWp_cV dX8_hand_49 fK_8_50 rfl rfl ho (Nat.le_of_ble_eq_true rfl) (Nat.le_of_ble_eq_true rfl) rfl (Nat.le_of_ble_eq_true rfl) he rfl
theorem X8_hand_52 : iWp d mX8_hand 52 [a0, a1, a2, a3, a4, a5] [.int x] h Q = Q (some (.int x)) h := w_ireti dX8_hand_52 rfl
theorem X8_hand_53 : iWp d mX8_hand 53 [.ref p, a1, a2, a3, a4, a5] st h Q = iWp d mX8_hand 54 [.ref p, a1, a2, a3, a4, a5] (.ref p :: st) h Q := w_aload_n dX8_hand_53 rfl
theorem X8_hand_54 : iWp d mX8_hand 54 [a0, a1, a2, a3, a4, a5] (.ref p :: st) h Q = iOb (iGet h p 8 3) (fun v => iWp d mX8_hand 57 [a0, a1, a2, a3, a4, a5] (v :: st) h Q) := w_getf dX8_hand_54 fF_8_25
theorem X8_hand_57 (he : iEv mX1_clear [.ref p] h none h2) (ho : iObj h p 1 = true) : iWp 4 mX8_hand 57 [a0, a1, a2, a3, a4, a5] [.ref p] h Q = iWp 4 mX8_hand 60 [a0, a1, a2, a3, a4, a5] [] h2 Q := iWp_cV dX8_hand_57 fK_8_222 rfl rfl ho (Nat.le_of_ble_eq_true rfl) (Nat.le_of_ble_eq_true rfl) rfl (Nat.le_of_ble_eq_true rfl) he rfl
theorem X8_hand_60 : iWp d mX8_hand 60 [.ref p, a1, a2, a3, a4, a5] st h Q = iWp d mX8_hand 61 [.ref p, a1, a2, a3, a4, a5] (.ref p :: st) h Q := w_aload_n dX8_hand_60 rfl
theorem X8_hand_61 : iWp d mX8_hand 61 [a0, a1, a2, a3, a4, a5] (.ref p :: st) h Q = iOb (iGet h p 8 3) (fun v => iWp d mX8_hand 64 [a0, a1, a2, a3, a4, a5] (v :: st) h Q) := w_getf dX8_hand_61 fF_8_25
theorem X8_hand_64 : iWp d mX8_hand 64 [a0, .int x, a2, a3, a4, a5] st h Q = iWp d mX8_hand 65 [a0, .int x, a2, a3, a4, a5] (.int x :: st) h Q := w_iload_n dX8_hand_64 rfl
theorem X8_hand_65 : iWp d mX8_hand 65 [a0, a1, a2, a3, .ref p, a5] st h Q = iWp d mX8_hand 67 [a0, a1, a2, a3, .ref p, a5] (.ref p :: st) h Q := w_aload dX8_hand_65 rfl
theorem X8_hand_65n : iWp d mX8_hand 65 [a0, a1, a2, a3, .null, a5] st h Q = iWp d mX8_hand 67 [a0, a1, a2, a3, .null, a5] (.null :: st) h Q := w_aloadN dX8_hand_65 rfl
theorem X8_hand_67 : iWp d mX8_hand 67 [a0, a1, a2, a3, a4, .int x] st h Q = iWp d mX8_hand 69 [a0, a1, a2, a3, a4, .int x] (.int x :: st) h Q := w_iload dX8_hand_67 rfl
theorem X8_hand_69 (he : iEv mX7_labelAt [.ref p, .int x0] h (some (.int rv)) h2) (ho : iObj h p 7 = true) : iWp 4 mX8_hand 69 [a0, a1, a2, a3, a4, a5] [.int x0, .ref p, .int r0, .ref t1] h Q = iWp 4 mX8_hand 72 [a0, a1, a2, a3, a4, a5] [.int rv, .int r0, .ref t1] h2 Q := iWp_cV dX8_hand_69 fK_8_134 rfl rfl ho (Nat.le_of_ble_eq_true rfl) (Nat.le_of_ble_eq_true rfl) rfl (Nat.le_of_ble_eq_true rfl) he rfl
theorem X8_hand_72 : iWp d mX8_hand 72 [a0, a1, .int x, a3, a4, a5] st h Q = iWp d mX8_hand 73 [a0, a1, .int x, a3, a4, a5] (.int x :: st) h Q := w_iload_n dX8_hand_72 rfl
theorem X8_hand_73 (he : iEv mX2_name [.int x0, .int x1, .int x2] h (some rw) h2) : iWp 4 mX8_hand 73 [a0, a1, a2, a3, a4, a5] [.int x2, .int x1, .int x0, .ref t0] h Q = iWp 4 mX8_hand 76 [a0, a1, a2, a3, a4, a5] [rw, .ref t0] h2 Q := iWp_cS dX8_hand_73 fK_8_247 rfl rfl (Nat.le_of_ble_eq_true rfl) (Nat.le_of_ble_eq_true rfl) rfl (Nat.le_of_ble_eq_true rfl) he rfl
theorem X8_hand_76 (he : iEv mX1_add [.ref p, b0] h none h2) (ho : iObj h p 1 = true) (c0 : b0.category = 1) : iWp 4 mX8_hand 76 [a0, a1, a2, a3, a4, a5] [b0, .ref p] h Q = iWp 4 mX8_hand 79 [a0, a1, a2, a3, a4, a5] [] h2 Q := iWp_cV dX8_hand_76 fK_8_229 rfl rfl ho (Nat.le_of_ble_eq_true rfl) (Nat.le_of_ble_eq_true rfl) (by simp [iInit, cat_i, cat_r, cat_l, mX1_add, c0]) (Nat.le_of_ble_eq_true rfl) he rfl
theorem X8_hand_79 : iWp d mX8_hand 79 [.ref p, a1, a2, a3, a4, a5] st h Q = iWp d mX8_hand 80 [.ref p, a1, a2, a3, a4, a5] (.ref p :: st) h Q := w_aload_n dX8_hand_79 rfl
theorem X8_hand_80 : iWp d mX8_hand 80 [a0, a1, a2, a3, a4, a5] st h Q = iWp d mX8_hand 81 [a0, a1, a2, a3, a4, a5] (.int 0 :: st) h Q := w_iconst dX8_hand_80 rfl
theorem X8_hand_81 : iWp d mX8_hand 81 [a0, a1, a2, a3, a4, a5] st h Q = iWp d mX8_hand 82 [a0, a1, a2, a3, a4, a5] (.int (-1) :: st) h Q := w_iconst dX8_hand_81 rfl
theorem X8_hand_82 (he : iEv mX8_keepDraft [.ref p, .int x0, .int x1] h (some (.int rv)) h2) (ho : iObj h p 8 = true) : iWp 4 mX8_hand 82 [a0, a1, a2, a3, a4, a5] [.int x1, .int x0, .ref p] h Q = iWp 4 mX8_hand 85 [a0, a1, a2, a3, a4, a5] [.int rv] h2 Q := iWp_cV dX8_hand_82 fK_8_181 rfl rfl ho (Nat.le_of_ble_eq_true rfl) (Nat.le_of_ble_eq_true rfl) rfl (Nat.le_of_ble_eq_true rfl) he rfl
theorem X8_hand_85 : iWp d mX8_hand 85 [a0, a1, a2, a3, a4, a5] [.int x] h Q = Q (some (.int x)) h := w_ireti dX8_hand_85 rfl
theorem I8_hand {Q : Option Value → iHp → Prop} (hw : iWp 4 mX8_hand 0 [.ref p, .int x0, .int x1, .int x2, iU, iU] [] h Q) : ∃ r h1, iEv mX8_hand [.ref p, .int x0, .int x1, .int x2] h r h1 ∧ Q r h1 := iEv_of (by rfl) rfl hw
theorem J8_hand {r : Option Value} {h1 : iHp} (hw : iWp 4 mX8_hand 0 [.ref p, .int x0, .int x1, .int x2, iU, iU] [] h (fun r' h' => r' = r ∧ h' = h1)) : iEv mX8_hand [.ref p, .int x0, .int x1, .int x2] h r h1 := iEv_ev (by rfl) rfl hw
theorem X8_holds_0 : iWp d mX8_holds 0 [.ref p, a1, a2] st h Q = iWp d mX8_holds 1 [.ref p, a1, a2] (.ref p :: st) h Q := w_aload_n dX8_holds_0 rfl
theorem X8_holds_1 : iWp d mX8_holds 1 [a0, .int x, a2] st h Q = iWp d mX8_holds 2 [a0, .int x, a2] (.int x :: st) h Q := w_iload_n dX8_holds_1 rfl
theorem X8_holds_2 (he : iEv mX8_rowAt [.ref p, .int x0] h (some rw) h2) (ho : iObj h p 8 = true) : iWp 3 mX8_holds 2 [a0, a1, a2] [.int x0, .ref p] h Q = iWp 3 mX8_holds 5 [a0, a1, a2] [rw] h2 Q := iWp_cV dX8_holds_2 fK_8_57 rfl rfl ho (Nat.le_of_ble_eq_true rfl) (Nat.le_of_ble_eq_true rfl) rfl (Nat.le_of_ble_eq_true rfl) he rfl
theorem X8_holds_5 : iWp d mX8_holds 5 [a0, a1, a2] (.ref p :: st) h Q = iWp d mX8_holds 6 [a0, iClr a1, .ref p] st h Q := w_astore_n dX8_holds_5 (Nat.le_of_ble_eq_true rfl) rfl
theorem X8_holds_5n : iWp d mX8_holds 5 [a0, a1, a2] (.null :: st) h Q = iWp d mX8_holds 6 [a0, iClr a1, .null] st h Q := w_astore_nN dX8_holds_5 (Nat.le_of_ble_eq_true rfl) rfl
theorem X8_holds_6 : iWp d mX8_holds 6 [a0, a1, .ref p] st h Q = iWp d mX8_holds 7 [a0, a1, .ref p] (.ref p :: st) h Q := w_aload_n dX8_holds_6 rfl
theorem X8_holds_6n : iWp d mX8_holds 6 [a0, a1, .null] st h Q = iWp d mX8_holds 7 [a0, a1, .null] (.null :: st) h Q := w_aload_nN dX8_holds_6 rfl
theorem X8_holds_7 : iWp d mX8_holds 7 [a0, a1, a2] (.ref p :: st) h Q = iWp d mX8_holds 10 [a0, a1, a2] st h Q := w_ifnull dX8_holds_7
theorem X8_holds_7n : iWp d mX8_holds 7 [a0, a1, a2] (.null :: st) h Q = iWp d mX8_holds 18 [a0, a1, a2] st h Q := w_ifnullN dX8_holds_7 rfl
theorem X8_holds_10 : iWp d mX8_holds 10 [a0, a1, a2] st h Q = iWp d mX8_holds 12 [a0, a1, a2] (.int 100 :: st) h Q := w_bipush dX8_holds_10 rfl
theorem X8_holds_12 : iWp d mX8_holds 12 [a0, a1, .ref p] st h Q = iWp d mX8_holds 13 [a0, a1, .ref p] (.ref p :: st) h Q := w_aload_n dX8_holds_12 rfl
theorem X8_holds_12n : iWp d mX8_holds 12 [a0, a1, .null] st h Q = iWp d mX8_holds 13 [a0, a1, .null] (.null :: st) h Q := w_aload_nN dX8_holds_12 rfl
theorem X8_holds_13 : iWp d mX8_holds 13 [a0, a1, a2] (.ref p :: st) h Q = iOb (iGet h p 5 0) (fun v => iWp d mX8_holds 16 [a0, a1, a2] (v :: st) h Q) := w_getf dX8_holds_13 fF_8_71
theorem X8_holds_16 : iWp d mX8_holds 16 [a0, a1, a2] (.int y :: .int x :: st) h Q = iWp d mX8_holds 17 [a0, a1, a2] (.int (x + y) :: st) h Q := w_iadd dX8_holds_16
theorem X8_holds_17 : iWp d mX8_holds 17 [a0, a1, a2] [.int x] h Q = Q (some (.int x)) h := w_ireti dX8_holds_17 rfl
theorem X8_holds_18 : iWp d mX8_holds 18 [a0, .int x, a2] st h Q = iWp d mX8_holds 19 [a0, .int x, a2] (.int x :: st) h Q := w_iload_n dX8_holds_18 rfl
theorem X8_holds_19 (he : iEv mX8_isShelf [.int x0] h (some (.int rv)) h2) : iWp 3 mX8_holds 19 [a0, a1, a2] [.int x0] h Q = iWp 3 mX8_holds 22 [a0, a1, a2] [.int rv] h2 Q := iWp_cS dX8_holds_19 fK_8_46 rfl rfl (Nat.le_of_ble_eq_true rfl) (Nat.le_of_ble_eq_true rfl) rfl (Nat.le_of_ble_eq_true rfl) he rfl
theorem X8_holds_22 : iWp d mX8_holds 22 [a0, a1, a2] (.int x :: st) h Q = if x = 0 then iWp d mX8_holds 34 [a0, a1, a2] st h Q else iWp d mX8_holds 25 [a0, a1, a2] st h Q := w_ifc_eq dX8_holds_22 rfl
theorem X8_holds_25 : iWp d mX8_holds 25 [.ref p, a1, a2] st h Q = iWp d mX8_holds 26 [.ref p, a1, a2] (.ref p :: st) h Q := w_aload_n dX8_holds_25 rfl
theorem X8_holds_26 : iWp d mX8_holds 26 [a0, a1, a2] (.ref p :: st) h Q = iOb (iGet h p 8 1) (fun v => iWp d mX8_holds 29 [a0, a1, a2] (v :: st) h Q) := w_getf dX8_holds_26 fF_8_15
theorem X8_holds_29 : iWp d mX8_holds 29 [a0, .int x, a2] st h Q = iWp d mX8_holds 30 [a0, .int x, a2] (.int x :: st) h Q := w_iload_n dX8_holds_29 rfl
theorem X8_holds_30 : iWp d mX8_holds 30 [a0, a1, a2] (.int x :: .ref p :: st) h Q = iOb (iLdI h p x) (fun v => iWp d mX8_holds 31 [a0, a1, a2] (.int v :: st) h Q) := w_iaload dX8_holds_30
theorem X8_holds_31 : iWp d mX8_holds 31 [a0, a1, a2] st h Q = iWp d mX8_holds 35 [a0, a1, a2] st h Q := w_goto dX8_holds_31 rfl
theorem X8_holds_34 : iWp d mX8_holds 34 [a0, a1, a2] st h Q = iWp d mX8_holds 35 [a0, a1, a2] (.int (-1) :: st) h Q := w_iconst dX8_holds_34 rfl
theorem X8_holds_35 : iWp d mX8_holds 35 [a0, a1, a2] [.int x] h Q = Q (some (.int x)) h := w_ireti dX8_holds_35 rfl
theorem I8_holds {Q : Option Value → iHp → Prop} (hw : iWp 3 mX8_holds 0 [.ref p, .int x0, iU] [] h Q) : ∃ r h1, iEv mX8_holds [.ref p, .int x0] h r h1 ∧ Q r h1 := iEv_of (by rfl) rfl hw
theorem J8_holds {r : Option Value} {h1 : iHp} (hw : iWp 3 mX8_holds 0 [.ref p, .int x0, iU] [] h (fun r' h' => r' = r ∧ h' = h1)) : iEv mX8_holds [.ref p, .int x0] h r h1 := iEv_ev (by rfl) rfl hw
theorem X8_image_0 : iWp d mX8_image 0 [.ref p] st h Q = iWp d mX8_image 1 [.ref p] (.ref p :: st) h Q := w_aload_n dX8_image_0 rfl
theorem X8_image_1 : iWp d mX8_image 1 [a0] st h Q = iWp d mX8_image 4 [a0] (.ref h.2.1 :: st) (iNewO h 6) Q := w_new dX8_image_1 fC_8_29
theorem X8_image_4 : iWp d mX8_image 4 [a0] (.ref p :: st) h Q = iWp d mX8_image 5 [a0] (.ref p :: .ref p :: st) h Q := w_dup dX8_image_4 rfl
theorem X8_image_5 : iWp d mX8_image 5 [.ref p] st h Q = iWp d mX8_image 6 [.ref p] (.ref p :: st) h Q := w_aload_n dX8_image_5 rfl
theorem X8_image_6 : iWp d mX8_image 6 [a0] (.ref p :: st) h Q = iOb (iGet h p 8 4) (fun v => iWp d mX8_image 9 [a0] (v :: st) h Q) := w_getf dX8_image_6 fF_8_32
theorem X8_image_9 (he : iEv mX6_init_ [.ref p, b0] h none h2) (c0 : b0.category = 1) : iWp 2 mX8_image 9 [a0] [b0, .ref p, .ref t0, .ref t1] h Q = iWp 2 mX8_image 12 [a0] [.ref t0, .ref t1] h2 Q := iWp_cI dX8_image_9 fK_8_281 rfl rfl (Nat.le_of_ble_eq_true rfl) (Nat.le_of_ble_eq_true rfl) (by simp [iInit, cat_i, cat_r, cat_l, mX6_init_, c0]) (Nat.le_of_ble_eq_true rfl) he rfl
theorem X8_image_12 : iWp d mX8_image 12 [a0] (.ref q :: .ref p :: st) h Q = iOb (iPut h p 8 5 (.ref q)) (fun g => iWp d mX8_image 15 [a0] st g Q) := w_putf dX8_image_12 fF_8_36 ⟨rfl, (Or.inl rfl)⟩
theorem X8_image_12n : iWp d mX8_image 12 [a0] (.null :: .ref p :: st) h Q = iOb (iPut h p 8 5 (.null)) (fun g => iWp d mX8_image 15 [a0] st g Q) := w_putf dX8_image_12 fF_8_36 ⟨rfl, (Or.inl rfl)⟩
theorem X8_image_15 : iWp d mX8_image 15 [.ref p] st h Q = iWp d mX8_image 16 [.ref p] (.ref p :: st) h Q := w_aload_n dX8_image_15 rfl
theorem X8_image_16 : iWp d mX8_image 16 [a0] (.ref p :: st) h Q = iOb (iGet h p 8 4) (fun v => iWp d mX8_image 19 [a0] (v :: st) h Q) := w_getf dX8_image_16 fF_8_32
theorem X8_image_19 : iWp d mX8_image 19 [a0] (.ref p :: st) h Q = iOb (iGet h p 6 2) (fun v => iWp d mX8_image 22 [a0] (v :: st) h Q) := w_getf dX8_image_19 fF_8_169
theorem X8_image_22 : iWp d mX8_image 22 [a0] [.int x] h Q = Q (some (.int x)) h := w_ireti dX8_image_22 rfl
theorem I8_image {Q : Option Value → iHp → Prop} (hw : iWp 2 mX8_image 0 [.ref p] [] h Q) : ∃ r h1, iEv mX8_image [.ref p] h r h1 ∧ Q r h1 := iEv_of (by rfl) rfl hw
theorem J8_image {r : Option Value} {h1 : iHp} (hw : iWp 2 mX8_image 0 [.ref p] [] h (fun r' h' => r' = r ∧ h' = h1)) : iEv mX8_image [.ref p] h r h1 := iEv_ev (by rfl) rfl hw
theorem X8_init_0 : iWp d mX8_init 0 [.ref p, a1] st h Q = iWp d mX8_init 1 [.ref p, a1] (.ref p :: st) h Q := w_aload_n dX8_init_0 rfl
theorem X8_init_1 (hs : iSum st ≤ 8) : iWp d mX8_init 1 [a0, a1] (.ref p :: st) h Q = iWp d mX8_init 4 [a0, a1] st h Q := iWp_k dX8_init_1 rfl (fun _ _ => iObS hs fK_8_1 rfl rfl)
theorem X8_init_4 : iWp d mX8_init 4 [.ref p, a1] st h Q = iWp d mX8_init 5 [.ref p, a1] (.ref p :: st) h Q := w_aload_n dX8_init_4 rfl
theorem X8_init_5 : iWp d mX8_init 5 [a0, a1] st h Q = iWp d mX8_init 7 [a0, a1] (.int 8 :: st) h Q := w_bipush dX8_init_5 rfl
theorem X8_init_7 : iWp d mX8_init 7 [a0, a1] (.int x :: st) h Q = iOb (iNewQ h 5 x) (fun g => iWp d mX8_init 10 [a0, a1] (.ref h.2.1 :: st) g Q) := w_newq dX8_init_7 fC_8_9
theorem X8_init_10 : iWp d mX8_init 10 [a0, a1] (.ref q :: .ref p :: st) h Q = iOb (iPut h p 8 0 (.ref q)) (fun g => iWp d mX8_init 13 [a0, a1] st g Q) := w_putf dX8_init_10 fF_8_11 ⟨rfl, (Or.inr ⟨rfl, rfl⟩)⟩
theorem X8_init_10n : iWp d mX8_init 10 [a0, a1] (.null :: .ref p :: st) h Q = iOb (iPut h p 8 0 (.null)) (fun g => iWp d mX8_init 13 [a0, a1] st g Q) := w_putf dX8_init_10 fF_8_11 ⟨rfl, (Or.inr ⟨rfl, rfl⟩)⟩
theorem X8_init_13 : iWp d mX8_init 13 [.ref p, a1] st h Q = iWp d mX8_init 14 [.ref p, a1] (.ref p :: st) h Q := w_aload_n dX8_init_13 rfl
theorem X8_init_14 : iWp d mX8_init 14 [a0, a1] st h Q = iWp d mX8_init 16 [a0, a1] (.int 8 :: st) h Q := w_bipush dX8_init_14 rfl
theorem X8_init_16 : iWp d mX8_init 16 [a0, a1] (.int x :: st) h Q = iOb (iNewA h .int x) (fun g => iWp d mX8_init 18 [a0, a1] (.ref h.2.1 :: st) g Q) := w_newa dX8_init_16
theorem X8_init_18 : iWp d mX8_init 18 [a0, a1] (.ref q :: .ref p :: st) h Q = iOb (iPut h p 8 1 (.ref q)) (fun g => iWp d mX8_init 21 [a0, a1] st g Q) := w_putf dX8_init_18 fF_8_15 ⟨rfl, (Or.inr ⟨rfl, rfl⟩)⟩
theorem X8_init_18n : iWp d mX8_init 18 [a0, a1] (.null :: .ref p :: st) h Q = iOb (iPut h p 8 1 (.null)) (fun g => iWp d mX8_init 21 [a0, a1] st g Q) := w_putf dX8_init_18 fF_8_15 ⟨rfl, (Or.inr ⟨rfl, rfl⟩)⟩
theorem X8_init_21 : iWp d mX8_init 21 [.ref p, a1] st h Q = iWp d mX8_init 22 [.ref p, a1] (.ref p :: st) h Q := w_aload_n dX8_init_21 rfl
theorem X8_init_22 : iWp d mX8_init 22 [a0, a1] st h Q = iWp d mX8_init 24 [a0, a1] (.int 8 :: st) h Q := w_bipush dX8_init_22 rfl
theorem X8_init_24 : iWp d mX8_init 24 [a0, a1] (.int x :: st) h Q = iOb (iNewA h .int x) (fun g => iWp d mX8_init 26 [a0, a1] (.ref h.2.1 :: st) g Q) := w_newa dX8_init_24
theorem X8_init_26 : iWp d mX8_init 26 [a0, a1] (.ref q :: .ref p :: st) h Q = iOb (iPut h p 8 2 (.ref q)) (fun g => iWp d mX8_init 29 [a0, a1] st g Q) := w_putf dX8_init_26 fF_8_19 ⟨rfl, (Or.inr ⟨rfl, rfl⟩)⟩
theorem X8_init_26n : iWp d mX8_init 26 [a0, a1] (.null :: .ref p :: st) h Q = iOb (iPut h p 8 2 (.null)) (fun g => iWp d mX8_init 29 [a0, a1] st g Q) := w_putf dX8_init_26 fF_8_19 ⟨rfl, (Or.inr ⟨rfl, rfl⟩)⟩
theorem X8_init_29 : iWp d mX8_init 29 [.ref p, a1] st h Q = iWp d mX8_init 30 [.ref p, a1] (.ref p :: st) h Q := w_aload_n dX8_init_29 rfl
theorem X8_init_30 : iWp d mX8_init 30 [a0, a1] st h Q = iWp d mX8_init 33 [a0, a1] (.ref h.2.1 :: st) (iNewO h 1) Q := w_new dX8_init_30 fC_8_22
theorem X8_init_33 : iWp d mX8_init 33 [a0, a1] (.ref p :: st) h Q = iWp d mX8_init 34 [a0, a1] (.ref p :: .ref p :: st) h Q := w_dup dX8_init_33 rfl
theorem X8_init_34 (he : iEv mX1_init [.ref p] h none h2) : iWp 2 mX8_init 34 [a0, a1] [.ref p, .ref t0, .ref t1] h Q = iWp 2 mX8_init 37 [a0, a1] [.ref t0, .ref t1] h2 Q := iWp_cIN dX8_init_34 fK_8_24 rfl rfl (Nat.le_of_ble_eq_true rfl) (Nat.le_of_ble_eq_true rfl) rfl (Nat.le_of_ble_eq_true rfl) he rfl
theorem X8_init_37 : iWp d mX8_init 37 [a0, a1] (.ref q :: .ref p :: st) h Q = iOb (iPut h p 8 3 (.ref q)) (fun g => iWp d mX8_init 40 [a0, a1] st g Q) := w_putf dX8_init_37 fF_8_25 ⟨rfl, (Or.inr ⟨rfl, rfl⟩)⟩
theorem X8_init_37n : iWp d mX8_init 37 [a0, a1] (.null :: .ref p :: st) h Q = iOb (iPut h p 8 3 (.null)) (fun g => iWp d mX8_init 40 [a0, a1] st g Q) := w_putf dX8_init_37 fF_8_25 ⟨rfl, (Or.inr ⟨rfl, rfl⟩)⟩
theorem X8_init_40 : iWp d mX8_init 40 [.ref p, a1] st h Q = iWp d mX8_init 41 [.ref p, a1] (.ref p :: st) h Q := w_aload_n dX8_init_40 rfl
theorem X8_init_41 : iWp d mX8_init 41 [a0, a1] st h Q = iWp d mX8_init 44 [a0, a1] (.ref h.2.1 :: st) (iNewO h 6) Q := w_new dX8_init_41 fC_8_29
theorem X8_init_44 : iWp d mX8_init 44 [a0, a1] (.ref p :: st) h Q = iWp d mX8_init 45 [a0, a1] (.ref p :: .ref p :: st) h Q := w_dup dX8_init_44 rfl
theorem X8_init_45 (he : iEv mX6_init [.ref p] h none h2) : iWp 2 mX8_init 45 [a0, a1] [.ref p, .ref t0, .ref t1] h Q = iWp 2 mX8_init 48 [a0, a1] [.ref t0, .ref t1] h2 Q := iWp_cI dX8_init_45 fK_8_31 rfl rfl (Nat.le_of_ble_eq_true rfl) (Nat.le_of_ble_eq_true rfl) rfl (Nat.le_of_ble_eq_true rfl) he rfl
theorem X8_init_48 : iWp d mX8_init 48 [a0, a1] (.ref q :: .ref p :: st) h Q = iOb (iPut h p 8 4 (.ref q)) (fun g => iWp d mX8_init 51 [a0, a1] st g Q) := w_putf dX8_init_48 fF_8_32 ⟨rfl, (Or.inl rfl)⟩
theorem X8_init_48n : iWp d mX8_init 48 [a0, a1] (.null :: .ref p :: st) h Q = iOb (iPut h p 8 4 (.null)) (fun g => iWp d mX8_init 51 [a0, a1] st g Q) := w_putf dX8_init_48 fF_8_32 ⟨rfl, (Or.inl rfl)⟩
theorem X8_init_51 : iWp d mX8_init 51 [.ref p, a1] st h Q = iWp d mX8_init 52 [.ref p, a1] (.ref p :: st) h Q := w_aload_n dX8_init_51 rfl
theorem X8_init_52 : iWp d mX8_init 52 [a0, a1] st h Q = iWp d mX8_init 53 [a0, a1] (.null :: st) h Q := w_null dX8_init_52
theorem X8_init_53 : iWp d mX8_init 53 [a0, a1] (.ref q :: .ref p :: st) h Q = iOb (iPut h p 8 5 (.ref q)) (fun g => iWp d mX8_init 56 [a0, a1] st g Q) := w_putf dX8_init_53 fF_8_36 ⟨rfl, (Or.inl rfl)⟩
theorem X8_init_53n : iWp d mX8_init 53 [a0, a1] (.null :: .ref p :: st) h Q = iOb (iPut h p 8 5 (.null)) (fun g => iWp d mX8_init 56 [a0, a1] st g Q) := w_putf dX8_init_53 fF_8_36 ⟨rfl, (Or.inl rfl)⟩
theorem X8_init_56 : iWp d mX8_init 56 [.ref p, a1] st h Q = iWp d mX8_init 57 [.ref p, a1] (.ref p :: st) h Q := w_aload_n dX8_init_56 rfl
theorem X8_init_57 : iWp d mX8_init 57 [a0, a1] st h Q = iWp d mX8_init 58 [a0, a1] (.int (-1) :: st) h Q := w_iconst dX8_init_57 rfl
theorem X8_init_58 : iWp d mX8_init 58 [a0, a1] (.int x :: .ref p :: st) h Q = iOb (iPut h p 8 6 (.int x)) (fun g => iWp d mX8_init 61 [a0, a1] st g Q) := w_putf dX8_init_58 fF_8_39 ⟨rfl, (Or.inl rfl)⟩
theorem X8_init_61 : iWp d mX8_init 61 [.ref p, a1] st h Q = iWp d mX8_init 62 [.ref p, a1] (.ref p :: st) h Q := w_aload_n dX8_init_61 rfl
theorem X8_init_62 : iWp d mX8_init 62 [a0, a1] st h Q = iWp d mX8_init 63 [a0, a1] (.int 0 :: st) h Q := w_iconst dX8_init_62 rfl
theorem X8_init_63 : iWp d mX8_init 63 [a0, a1] (.int x :: .ref p :: st) h Q = iOb (iPut h p 8 7 (.int x)) (fun g => iWp d mX8_init 66 [a0, a1] st g Q) := w_putf dX8_init_63 fF_8_43 ⟨rfl, (Or.inl rfl)⟩
theorem X8_init_66 : iWp d mX8_init 66 [a0, a1] st h Q = iWp d mX8_init 67 [a0, a1] (.int 0 :: st) h Q := w_iconst dX8_init_66 rfl
theorem X8_init_67 : iWp d mX8_init 67 [a0, a1] (.int x :: st) h Q = iWp d mX8_init 68 [iClr a0, .int x] st h Q := w_istore_n dX8_init_67 (Nat.le_of_ble_eq_true rfl) rfl
theorem X8_init_68 : iWp d mX8_init 68 [a0, .int x] st h Q = iWp d mX8_init 69 [a0, .int x] (.int x :: st) h Q := w_iload_n dX8_init_68 rfl
theorem X8_init_69 : iWp d mX8_init 69 [a0, a1] st h Q = iWp d mX8_init 71 [a0, a1] (.int 8 :: st) h Q := w_bipush dX8_init_69 rfl
theorem X8_init_71 : iWp d mX8_init 71 [a0, a1] (.int y :: .int x :: st) h Q = if y ≤ x then iWp d mX8_init 87 [a0, a1] st h Q else iWp d mX8_init 74 [a0, a1] st h Q := w_icmp_ge dX8_init_71 rfl
theorem X8_init_74 : iWp d mX8_init 74 [.ref p, a1] st h Q = iWp d mX8_init 75 [.ref p, a1] (.ref p :: st) h Q := w_aload_n dX8_init_74 rfl
theorem X8_init_75 : iWp d mX8_init 75 [a0, a1] (.ref p :: st) h Q = iOb (iGet h p 8 1) (fun v => iWp d mX8_init 78 [a0, a1] (v :: st) h Q) := w_getf dX8_init_75 fF_8_15
theorem X8_init_78 : iWp d mX8_init 78 [a0, .int x] st h Q = iWp d mX8_init 79 [a0, .int x] (.int x :: st) h Q := w_iload_n dX8_init_78 rfl
theorem X8_init_79 : iWp d mX8_init 79 [a0, a1] st h Q = iWp d mX8_init 80 [a0, a1] (.int (-1) :: st) h Q := w_iconst dX8_init_79 rfl
theorem X8_init_80 : iWp d mX8_init 80 [a0, a1] (.int y :: .int x :: .ref p :: st) h Q = iOb (iStI h p x y) (fun g => iWp d mX8_init 81 [a0, a1] st g Q) := w_iastore dX8_init_80
theorem X8_init_81 : iWp d mX8_init 81 [a0, .int x] st h Q = iWp d mX8_init 84 [iClr a0, .int (x + 1)] st h Q := w_iinc dX8_init_81 rfl (Nat.le_of_ble_eq_true rfl) rfl
theorem X8_init_84 : iWp d mX8_init 84 [a0, a1] st h Q = iWp d mX8_init 68 [a0, a1] st h Q := w_goto dX8_init_84 rfl
theorem X8_init_87 : iWp d mX8_init 87 [a0, a1] [] h Q = Q none h := w_ret dX8_init_87 rfl
theorem I8_init {Q : Option Value → iHp → Prop} (hw : iWp 2 mX8_init 0 [.ref p, iU] [] h Q) : ∃ r h1, iEv mX8_init [.ref p] h r h1 ∧ Q r h1 := iEv_of (by rfl) rfl hw
theorem J8_init {r : Option Value} {h1 : iHp} (hw : iWp 2 mX8_init 0 [.ref p, iU] [] h (fun r' h' => r' = r ∧ h' = h1)) : iEv mX8_init [.ref p] h r h1 := iEv_ev (by rfl) rfl hw
theorem X8_invert_0 : iWp d mX8_invert 0 [.ref p, a1, a2, a3, a4] st h Q = iWp d mX8_invert 1 [.ref p, a1, a2, a3, a4] (.ref p :: st) h Q := w_aload_n dX8_invert_0 rfl
theorem X8_invert_1 : iWp d mX8_invert 1 [a0, .int x, a2, a3, a4] st h Q = iWp d mX8_invert 2 [a0, .int x, a2, a3, a4] (.int x :: st) h Q := w_iload_n dX8_invert_1 rfl
theorem X8_invert_2 (he : iEv mX8_patchAt [.ref p, .int x0] h (some rw) h2) (ho : iObj h p 8 = true) : iWp 4 mX8_invert 2 [a0, a1, a2, a3, a4] [.int x0, .ref p] h Q = iWp 4 mX8_invert 5 [a0, a1, a2, a3, a4] [rw] h2 Q := iWp_cV dX8_invert_2 fK_8_92 rfl rfl ho (Nat.le_of_ble_eq_true rfl) (Nat.le_of_ble_eq_true rfl) rfl (Nat.le_of_ble_eq_true rfl) he rfl
theorem X8_invert_5 : iWp d mX8_invert 5 [a0, a1, a2, a3, a4] (.ref p :: st) h Q = iWp d mX8_invert 6 [a0, iClr a1, .ref p, a3, a4] st h Q := w_astore_n dX8_invert_5 (Nat.le_of_ble_eq_true rfl) rfl
theorem X8_invert_5n : iWp d mX8_invert 5 [a0, a1, a2, a3, a4] (.null :: st) h Q = iWp d mX8_invert 6 [a0, iClr a1, .null, a3, a4] st h Q := w_astore_nN dX8_invert_5 (Nat.le_of_ble_eq_true rfl) rfl
theorem X8_invert_6 : iWp d mX8_invert 6 [a0, a1, .ref p, a3, a4] st h Q = iWp d mX8_invert 7 [a0, a1, .ref p, a3, a4] (.ref p :: st) h Q := w_aload_n dX8_invert_6 rfl
theorem X8_invert_6n : iWp d mX8_invert 6 [a0, a1, .null, a3, a4] st h Q = iWp d mX8_invert 7 [a0, a1, .null, a3, a4] (.null :: st) h Q := w_aload_nN dX8_invert_6 rfl
theorem X8_invert_7 : iWp d mX8_invert 7 [a0, a1, a2, a3, a4] (.ref p :: st) h Q = iWp d mX8_invert 16 [a0, a1, a2, a3, a4] st h Q := w_ifnonnull dX8_invert_7 rfl
theorem X8_invert_7n : iWp d mX8_invert 7 [a0, a1, a2, a3, a4] (.null :: st) h Q = iWp d mX8_invert 10 [a0, a1, a2, a3, a4] st h Q := w_ifnonnullN dX8_invert_7
theorem X8_invert_10 : iWp d mX8_invert 10 [.ref p, a1, a2, a3, a4] st h Q = iWp d mX8_invert 11 [.ref p, a1, a2, a3, a4] (.ref p :: st) h Q := w_aload_n dX8_invert_10 rfl
theorem X8_invert_11 : iWp d mX8_invert 11 [a0, a1, a2, a3, a4] st h Q = iWp d mX8_invert 12 [a0, a1, a2, a3, a4] (.int (-1) :: st) h Q := w_iconst dX8_invert_11 rfl
theorem X8_invert_12 (he : iEv mX8_refuse [.ref p, .int x0] h (some (.int rv)) h2) (ho : iObj h p 8 = true) : iWp 4 mX8_invert 12 [a0, a1, a2, a3, a4] [.int x0, .ref p] h Q = iWp 4 mX8_invert 15 [a0, a1, a2, a3, a4] [.int rv] h2 Q := iWp_cV dX8_invert_12 fK_8_50 rfl rfl ho (Nat.le_of_ble_eq_true rfl) (Nat.le_of_ble_eq_true rfl) rfl (Nat.le_of_ble_eq_true rfl) he rfl
theorem X8_invert_15 : iWp d mX8_invert 15 [a0, a1, a2, a3, a4] [.int x] h Q = Q (some (.int x)) h := w_ireti dX8_invert_15 rfl
theorem X8_invert_16 : iWp d mX8_invert 16 [.ref p, a1, a2, a3, a4] st h Q = iWp d mX8_invert 17 [.ref p, a1, a2, a3, a4] (.ref p :: st) h Q := w_aload_n dX8_invert_16 rfl
theorem X8_invert_17 : iWp d mX8_invert 17 [a0, a1, a2, a3, a4] (.ref p :: st) h Q = iOb (iGet h p 8 3) (fun v => iWp d mX8_invert 20 [a0, a1, a2, a3, a4] (v :: st) h Q) := w_getf dX8_invert_17 fF_8_25
theorem X8_invert_20 (he : iEv mX1_clear [.ref p] h none h2) (ho : iObj h p 1 = true) : iWp 4 mX8_invert 20 [a0, a1, a2, a3, a4] [.ref p] h Q = iWp 4 mX8_invert 23 [a0, a1, a2, a3, a4] [] h2 Q := iWp_cV dX8_invert_20 fK_8_222 rfl rfl ho (Nat.le_of_ble_eq_true rfl) (Nat.le_of_ble_eq_true rfl) rfl (Nat.le_of_ble_eq_true rfl) he rfl
theorem X8_invert_23 : iWp d mX8_invert 23 [a0, a1, .ref p, a3, a4] st h Q = iWp d mX8_invert 24 [a0, a1, .ref p, a3, a4] (.ref p :: st) h Q := w_aload_n dX8_invert_23 rfl
theorem X8_invert_23n : iWp d mX8_invert 23 [a0, a1, .null, a3, a4] st h Q = iWp d mX8_invert 24 [a0, a1, .null, a3, a4] (.null :: st) h Q := w_aload_nN dX8_invert_23 rfl
theorem X8_invert_24 (he : iEv mX3_size [.ref p] h (some (.int rv)) h2) (ho : iObj h p 3 = true) : iWp 4 mX8_invert 24 [a0, a1, a2, a3, a4] [.ref p] h Q = iWp 4 mX8_invert 27 [a0, a1, a2, a3, a4] [.int rv] h2 Q := iWp_cV dX8_invert_24 fK_8_188 rfl rfl ho (Nat.le_of_ble_eq_true rfl) (Nat.le_of_ble_eq_true rfl) rfl (Nat.le_of_ble_eq_true rfl) he rfl
theorem X8_invert_27 : iWp d mX8_invert 27 [a0, a1, a2, a3, a4] st h Q = iWp d mX8_invert 28 [a0, a1, a2, a3, a4] (.int 1 :: st) h Q := w_iconst dX8_invert_27 rfl
theorem X8_invert_28 : iWp d mX8_invert 28 [a0, a1, a2, a3, a4] (.int y :: .int x :: st) h Q = iWp d mX8_invert 29 [a0, a1, a2, a3, a4] (.int (x - y) :: st) h Q := w_isub dX8_invert_28
theorem X8_invert_29 : iWp d mX8_invert 29 [a0, a1, a2, a3, a4] (.int x :: st) h Q = iWp d mX8_invert 30 [a0, a1, iClr a2, .int x, a4] st h Q := w_istore_n dX8_invert_29 (Nat.le_of_ble_eq_true rfl) rfl
theorem X8_invert_30 : iWp d mX8_invert 30 [a0, a1, a2, .int x, a4] st h Q = iWp d mX8_invert 31 [a0, a1, a2, .int x, a4] (.int x :: st) h Q := w_iload_n dX8_invert_30 rfl
theorem X8_invert_31 : iWp d mX8_invert 31 [a0, a1, a2, a3, a4] (.int x :: st) h Q = if x < 0 then iWp d mX8_invert 64 [a0, a1, a2, a3, a4] st h Q else iWp d mX8_invert 34 [a0, a1, a2, a3, a4] st h Q := w_ifc_lt dX8_invert_31 rfl
theorem X8_invert_34 : iWp d mX8_invert 34 [a0, a1, .ref p, a3, a4] st h Q = iWp d mX8_invert 35 [a0, a1, .ref p, a3, a4] (.ref p :: st) h Q := w_aload_n dX8_invert_34 rfl
theorem X8_invert_34n : iWp d mX8_invert 34 [a0, a1, .null, a3, a4] st h Q = iWp d mX8_invert 35 [a0, a1, .null, a3, a4] (.null :: st) h Q := w_aload_nN dX8_invert_34 rfl
theorem X8_invert_35 : iWp d mX8_invert 35 [a0, a1, a2, .int x, a4] st h Q = iWp d mX8_invert 36 [a0, a1, a2, .int x, a4] (.int x :: st) h Q := w_iload_n dX8_invert_35 rfl
theorem X8_invert_36 (he : iEv mX3_editAt [.ref p, .int x0] h (some rw) h2) (ho : iObj h p 3 = true) : iWp 4 mX8_invert 36 [a0, a1, a2, a3, a4] [.int x0, .ref p] h Q = iWp 4 mX8_invert 39 [a0, a1, a2, a3, a4] [rw] h2 Q := iWp_cV dX8_invert_36 fK_8_194 rfl rfl ho (Nat.le_of_ble_eq_true rfl) (Nat.le_of_ble_eq_true rfl) rfl (Nat.le_of_ble_eq_true rfl) he rfl
theorem X8_invert_39 : iWp d mX8_invert 39 [a0, a1, a2, a3, a4] (.ref p :: st) h Q = iWp d mX8_invert 41 [a0, a1, a2, iClr a3, .ref p] st h Q := w_astore dX8_invert_39 (Nat.le_of_ble_eq_true rfl) rfl
theorem X8_invert_39n : iWp d mX8_invert 39 [a0, a1, a2, a3, a4] (.null :: st) h Q = iWp d mX8_invert 41 [a0, a1, a2, iClr a3, .null] st h Q := w_astoreN dX8_invert_39 (Nat.le_of_ble_eq_true rfl) rfl
theorem X8_invert_41 : iWp d mX8_invert 41 [a0, a1, a2, a3, .ref p] st h Q = iWp d mX8_invert 43 [a0, a1, a2, a3, .ref p] (.ref p :: st) h Q := w_aload dX8_invert_41 rfl
theorem X8_invert_41n : iWp d mX8_invert 41 [a0, a1, a2, a3, .null] st h Q = iWp d mX8_invert 43 [a0, a1, a2, a3, .null] (.null :: st) h Q := w_aloadN dX8_invert_41 rfl
theorem X8_invert_43 : iWp d mX8_invert 43 [a0, a1, a2, a3, a4] (.ref p :: st) h Q = iWp d mX8_invert 46 [a0, a1, a2, a3, a4] st h Q := w_ifnull dX8_invert_43
theorem X8_invert_43n : iWp d mX8_invert 43 [a0, a1, a2, a3, a4] (.null :: st) h Q = iWp d mX8_invert 58 [a0, a1, a2, a3, a4] st h Q := w_ifnullN dX8_invert_43 rfl
theorem X8_invert_46 : iWp d mX8_invert 46 [.ref p, a1, a2, a3, a4] st h Q = iWp d mX8_invert 47 [.ref p, a1, a2, a3, a4] (.ref p :: st) h Q := w_aload_n dX8_invert_46 rfl
theorem X8_invert_47 : iWp d mX8_invert 47 [a0, a1, a2, a3, a4] (.ref p :: st) h Q = iOb (iGet h p 8 3) (fun v => iWp d mX8_invert 50 [a0, a1, a2, a3, a4] (v :: st) h Q) := w_getf dX8_invert_47 fF_8_25
theorem X8_invert_50 : iWp d mX8_invert 50 [a0, a1, a2, a3, .ref p] st h Q = iWp d mX8_invert 52 [a0, a1, a2, a3, .ref p] (.ref p :: st) h Q := w_aload dX8_invert_50 rfl
theorem X8_invert_50n : iWp d mX8_invert 50 [a0, a1, a2, a3, .null] st h Q = iWp d mX8_invert 52 [a0, a1, a2, a3, .null] (.null :: st) h Q := w_aloadN dX8_invert_50 rfl
theorem X8_invert_52 (he : iEv mX2_turned [.ref p] h (some rw) h2) (ho : iObj h p 2 = true) : iWp 4 mX8_invert 52 [a0, a1, a2, a3, a4] [.ref p, .ref t0] h Q = iWp 4 mX8_invert 55 [a0, a1, a2, a3, a4] [rw, .ref t0] h2 Q := iWp_cV dX8_invert_52 fK_8_225 rfl rfl ho (Nat.le_of_ble_eq_true rfl) (Nat.le_of_ble_eq_true rfl) rfl (Nat.le_of_ble_eq_true rfl) he rfl
theorem X8_invert_55 (he : iEv mX1_add [.ref p, b0] h none h2) (ho : iObj h p 1 = true) (c0 : b0.category = 1) : iWp 4 mX8_invert 55 [a0, a1, a2, a3, a4] [b0, .ref p] h Q = iWp 4 mX8_invert 58 [a0, a1, a2, a3, a4] [] h2 Q := iWp_cV dX8_invert_55 fK_8_229 rfl rfl ho (Nat.le_of_ble_eq_true rfl) (Nat.le_of_ble_eq_true rfl) (by simp [iInit, cat_i, cat_r, cat_l, mX1_add, c0]) (Nat.le_of_ble_eq_true rfl) he rfl
theorem X8_invert_58 : iWp d mX8_invert 58 [a0, a1, a2, .int x, a4] st h Q = iWp d mX8_invert 61 [a0, a1, iClr a2, .int (x + (-1)), a4] st h Q := w_iinc dX8_invert_58 rfl (Nat.le_of_ble_eq_true rfl) rfl
theorem X8_invert_61 : iWp d mX8_invert 61 [a0, a1, a2, a3, a4] st h Q = iWp d mX8_invert 30 [a0, a1, a2, a3, a4] st h Q := w_goto dX8_invert_61 rfl
theorem X8_invert_64 : iWp d mX8_invert 64 [.ref p, a1, a2, a3, a4] st h Q = iWp d mX8_invert 65 [.ref p, a1, a2, a3, a4] (.ref p :: st) h Q := w_aload_n dX8_invert_64 rfl
theorem X8_invert_65 : iWp d mX8_invert 65 [a0, a1, a2, a3, a4] st h Q = iWp d mX8_invert 66 [a0, a1, a2, a3, a4] (.int 2 :: st) h Q := w_iconst dX8_invert_65 rfl
theorem X8_invert_66 : iWp d mX8_invert 66 [a0, .int x, a2, a3, a4] st h Q = iWp d mX8_invert 67 [a0, .int x, a2, a3, a4] (.int x :: st) h Q := w_iload_n dX8_invert_66 rfl
theorem X8_invert_67 (he : iEv mX8_keepDraft [.ref p, .int x0, .int x1] h (some (.int rv)) h2) (ho : iObj h p 8 = true) : iWp 4 mX8_invert 67 [a0, a1, a2, a3, a4] [.int x1, .int x0, .ref p] h Q = iWp 4 mX8_invert 70 [a0, a1, a2, a3, a4] [.int rv] h2 Q := iWp_cV dX8_invert_67 fK_8_181 rfl rfl ho (Nat.le_of_ble_eq_true rfl) (Nat.le_of_ble_eq_true rfl) rfl (Nat.le_of_ble_eq_true rfl) he rfl
theorem X8_invert_70 : iWp d mX8_invert 70 [a0, a1, a2, a3, a4] [.int x] h Q = Q (some (.int x)) h := w_ireti dX8_invert_70 rfl
theorem I8_invert {Q : Option Value → iHp → Prop} (hw : iWp 4 mX8_invert 0 [.ref p, .int x0, iU, iU, iU] [] h Q) : ∃ r h1, iEv mX8_invert [.ref p, .int x0] h r h1 ∧ Q r h1 := iEv_of (by rfl) rfl hw
theorem J8_invert {r : Option Value} {h1 : iHp} (hw : iWp 4 mX8_invert 0 [.ref p, .int x0, iU, iU, iU] [] h (fun r' h' => r' = r ∧ h' = h1)) : iEv mX8_invert [.ref p, .int x0] h r h1 := iEv_ev (by rfl) rfl hw
theorem X8_isLabel_0 : iWp d mX8_isLabel 0 [.int x] st h Q = iWp d mX8_isLabel 1 [.int x] (.int x :: st) h Q := w_iload_n dX8_isLabel_0 rfl
theorem X8_isLabel_1 : iWp d mX8_isLabel 1 [a0] st h Q = iWp d mX8_isLabel 3 [a0] (.int 97 :: st) h Q := w_bipush dX8_isLabel_1 rfl
theorem X8_isLabel_3 : iWp d mX8_isLabel 3 [a0] (.int y :: .int x :: st) h Q = if x < y then iWp d mX8_isLabel 16 [a0] st h Q else iWp d mX8_isLabel 6 [a0] st h Q := w_icmp_lt dX8_isLabel_3 rfl
theorem X8_isLabel_6 : iWp d mX8_isLabel 6 [.int x] st h Q = iWp d mX8_isLabel 7 [.int x] (.int x :: st) h Q := w_iload_n dX8_isLabel_6 rfl
theorem X8_isLabel_7 : iWp d mX8_isLabel 7 [a0] st h Q = iWp d mX8_isLabel 9 [a0] (.int 122 :: st) h Q := w_bipush dX8_isLabel_7 rfl
theorem X8_isLabel_9 : iWp d mX8_isLabel 9 [a0] (.int y :: .int x :: st) h Q = if y < x then iWp d mX8_isLabel 16 [a0] st h Q else iWp d mX8_isLabel 12 [a0] st h Q := w_icmp_gt dX8_isLabel_9 rfl
theorem X8_isLabel_12 : iWp d mX8_isLabel 12 [a0] st h Q = iWp d mX8_isLabel 13 [a0] (.int 1 :: st) h Q := w_iconst dX8_isLabel_12 rfl
theorem X8_isLabel_13 : iWp d mX8_isLabel 13 [a0] st h Q = iWp d mX8_isLabel 17 [a0] st h Q := w_goto dX8_isLabel_13 rfl
theorem X8_isLabel_16 : iWp d mX8_isLabel 16 [a0] st h Q = iWp d mX8_isLabel 17 [a0] (.int 0 :: st) h Q := w_iconst dX8_isLabel_16 rfl
theorem X8_isLabel_17 : iWp d mX8_isLabel 17 [a0] [.int (iB b)] h Q = Q (some (.int (iB b))) h := w_iretb dX8_isLabel_17 rfl
theorem X8_isLabel_17z : iWp d mX8_isLabel 17 [a0] [.int 0] h Q = Q (some (.int (iB false))) h := w_iretb (bb := false) dX8_isLabel_17 rfl
theorem X8_isLabel_17o : iWp d mX8_isLabel 17 [a0] [.int 1] h Q = Q (some (.int (iB true))) h := w_iretb (bb := true) dX8_isLabel_17 rfl
theorem I8_isLabel {Q : Option Value → iHp → Prop} (hw : iWp 1 mX8_isLabel 0 [.int x0] [] h Q) : ∃ r h1, iEv mX8_isLabel [.int x0] h r h1 ∧ Q r h1 := iEv_of (by rfl) rfl hw
theorem J8_isLabel {r : Option Value} {h1 : iHp} (hw : iWp 1 mX8_isLabel 0 [.int x0] [] h (fun r' h' => r' = r ∧ h' = h1)) : iEv mX8_isLabel [.int x0] h r h1 := iEv_ev (by rfl) rfl hw
theorem X8_isShelf_0 : iWp d mX8_isShelf 0 [.int x] st h Q = iWp d mX8_isShelf 1 [.int x] (.int x :: st) h Q := w_iload_n dX8_isShelf_0 rfl
theorem X8_isShelf_1 : iWp d mX8_isShelf 1 [a0] (.int x :: st) h Q = if x < 0 then iWp d mX8_isShelf 14 [a0] st h Q else iWp d mX8_isShelf 4 [a0] st h Q := w_ifc_lt dX8_isShelf_1 rfl
theorem X8_isShelf_4 : iWp d mX8_isShelf 4 [.int x] st h Q = iWp d mX8_isShelf 5 [.int x] (.int x :: st) h Q := w_iload_n dX8_isShelf_4 rfl
theorem X8_isShelf_5 : iWp d mX8_isShelf 5 [a0] st h Q = iWp d mX8_isShelf 7 [a0] (.int 8 :: st) h Q := w_bipush dX8_isShelf_5 rfl
theorem X8_isShelf_7 : iWp d mX8_isShelf 7 [a0] (.int y :: .int x :: st) h Q = if y ≤ x then iWp d mX8_isShelf 14 [a0] st h Q else iWp d mX8_isShelf 10 [a0] st h Q := w_icmp_ge dX8_isShelf_7 rfl
theorem X8_isShelf_10 : iWp d mX8_isShelf 10 [a0] st h Q = iWp d mX8_isShelf 11 [a0] (.int 1 :: st) h Q := w_iconst dX8_isShelf_10 rfl
theorem X8_isShelf_11 : iWp d mX8_isShelf 11 [a0] st h Q = iWp d mX8_isShelf 15 [a0] st h Q := w_goto dX8_isShelf_11 rfl
theorem X8_isShelf_14 : iWp d mX8_isShelf 14 [a0] st h Q = iWp d mX8_isShelf 15 [a0] (.int 0 :: st) h Q := w_iconst dX8_isShelf_14 rfl
theorem X8_isShelf_15 : iWp d mX8_isShelf 15 [a0] [.int (iB b)] h Q = Q (some (.int (iB b))) h := w_iretb dX8_isShelf_15 rfl
theorem X8_isShelf_15z : iWp d mX8_isShelf 15 [a0] [.int 0] h Q = Q (some (.int (iB false))) h := w_iretb (bb := false) dX8_isShelf_15 rfl
theorem X8_isShelf_15o : iWp d mX8_isShelf 15 [a0] [.int 1] h Q = Q (some (.int (iB true))) h := w_iretb (bb := true) dX8_isShelf_15 rfl
theorem I8_isShelf {Q : Option Value → iHp → Prop} (hw : iWp 1 mX8_isShelf 0 [.int x0] [] h Q) : ∃ r h1, iEv mX8_isShelf [.int x0] h r h1 ∧ Q r h1 := iEv_of (by rfl) rfl hw
theorem J8_isShelf {r : Option Value} {h1 : iHp} (hw : iWp 1 mX8_isShelf 0 [.int x0] [] h (fun r' h' => r' = r ∧ h' = h1)) : iEv mX8_isShelf [.int x0] h r h1 := iEv_ev (by rfl) rfl hw
theorem X8_judge_0 : iWp d mX8_judge 0 [.ref p, a1, a2, a3, a4, a5] st h Q = iWp d mX8_judge 1 [.ref p, a1, a2, a3, a4, a5] (.ref p :: st) h Q := w_aload_n dX8_judge_0 rfl
theorem X8_judge_1 : iWp d mX8_judge 1 [a0, a1, .int x, a3, a4, a5] st h Q = iWp d mX8_judge 2 [a0, a1, .int x, a3, a4, a5] (.int x :: st) h Q := w_iload_n dX8_judge_1 rfl
theorem X8_judge_2 (he : iEv mX8_treeAt [.ref p, .int x0] h (some rw) h2) (ho : iObj h p 8 = true) : iWp 5 mX8_judge 2 [a0, a1, a2, a3, a4, a5] [.int x0, .ref p] h Q = iWp 5 mX8_judge 5 [a0, a1, a2, a3, a4, a5] [rw] h2 Q := iWp_cV dX8_judge_2 fK_8_121 rfl rfl ho (Nat.le_of_ble_eq_true rfl) (Nat.le_of_ble_eq_true rfl) rfl (Nat.le_of_ble_eq_true rfl) he rfl
theorem X8_judge_5 : iWp d mX8_judge 5 [a0, a1, a2, a3, a4, a5] (.ref p :: st) h Q = iWp d mX8_judge 7 [a0, a1, a2, iClr a3, .ref p, a5] st h Q := w_astore dX8_judge_5 (Nat.le_of_ble_eq_true rfl) rfl
theorem X8_judge_5n : iWp d mX8_judge 5 [a0, a1, a2, a3, a4, a5] (.null :: st) h Q = iWp d mX8_judge 7 [a0, a1, a2, iClr a3, .null, a5] st h Q := w_astoreN dX8_judge_5 (Nat.le_of_ble_eq_true rfl) rfl
theorem X8_judge_7 : iWp d mX8_judge 7 [a0, .int x, a2, a3, a4, a5] st h Q = iWp d mX8_judge 8 [a0, .int x, a2, a3, a4, a5] (.int x :: st) h Q := w_iload_n dX8_judge_7 rfl
theorem X8_judge_8 (he : iEv mX8_isShelf [.int x0] h (some (.int rv)) h2) : iWp 5 mX8_judge 8 [a0, a1, a2, a3, a4, a5] [.int x0] h Q = iWp 5 mX8_judge 11 [a0, a1, a2, a3, a4, a5] [.int rv] h2 Q := iWp_cS dX8_judge_8 fK_8_46 rfl rfl (Nat.le_of_ble_eq_true rfl) (Nat.le_of_ble_eq_true rfl) rfl (Nat.le_of_ble_eq_true rfl) he rfl
theorem X8_judge_11 : iWp d mX8_judge 11 [a0, a1, a2, a3, a4, a5] (.int x :: st) h Q = if x = 0 then iWp d mX8_judge 19 [a0, a1, a2, a3, a4, a5] st h Q else iWp d mX8_judge 14 [a0, a1, a2, a3, a4, a5] st h Q := w_ifc_eq dX8_judge_11 rfl
theorem X8_judge_14 : iWp d mX8_judge 14 [a0, a1, a2, a3, .ref p, a5] st h Q = iWp d mX8_judge 16 [a0, a1, a2, a3, .ref p, a5] (.ref p :: st) h Q := w_aload dX8_judge_14 rfl
theorem X8_judge_14n : iWp d mX8_judge 14 [a0, a1, a2, a3, .null, a5] st h Q = iWp d mX8_judge 16 [a0, a1, a2, a3, .null, a5] (.null :: st) h Q := w_aloadN dX8_judge_14 rfl
theorem X8_judge_16 : iWp d mX8_judge 16 [a0, a1, a2, a3, a4, a5] (.ref p :: st) h Q = iWp d mX8_judge 25 [a0, a1, a2, a3, a4, a5] st h Q := w_ifnonnull dX8_judge_16 rfl
theorem X8_judge_16n : iWp d mX8_judge 16 [a0, a1, a2, a3, a4, a5] (.null :: st) h Q = iWp d mX8_judge 19 [a0, a1, a2, a3, a4, a5] st h Q := w_ifnonnullN dX8_judge_16
theorem X8_judge_19 : iWp d mX8_judge 19 [.ref p, a1, a2, a3, a4, a5] st h Q = iWp d mX8_judge 20 [.ref p, a1, a2, a3, a4, a5] (.ref p :: st) h Q := w_aload_n dX8_judge_19 rfl
theorem X8_judge_20 : iWp d mX8_judge 20 [a0, a1, a2, a3, a4, a5] st h Q = iWp d mX8_judge 21 [a0, a1, a2, a3, a4, a5] (.int (-1) :: st) h Q := w_iconst dX8_judge_20 rfl
theorem X8_judge_21 (he : iEv mX8_refuseLower [.ref p, .int x0] h (some (.int rv)) h2) (ho : iObj h p 8 = true) : iWp 5 mX8_judge 21 [a0, a1, a2, a3, a4, a5] [.int x0, .ref p] h Q = iWp 5 mX8_judge 24 [a0, a1, a2, a3, a4, a5] [.int rv] h2 Q := iWp_cV dX8_judge_21 fK_8_152 rfl rfl ho (Nat.le_of_ble_eq_true rfl) (Nat.le_of_ble_eq_true rfl) rfl (Nat.le_of_ble_eq_true rfl) he rfl
theorem X8_judge_24 : iWp d mX8_judge 24 [a0, a1, a2, a3, a4, a5] [.int x] h Q = Q (some (.int x)) h := w_ireti dX8_judge_24 rfl
theorem X8_judge_25 : iWp d mX8_judge 25 [.ref p, a1, a2, a3, a4, a5] st h Q = iWp d mX8_judge 26 [.ref p, a1, a2, a3, a4, a5] (.ref p :: st) h Q := w_aload_n dX8_judge_25 rfl
theorem X8_judge_26 : iWp d mX8_judge 26 [a0, .int x, a2, a3, a4, a5] st h Q = iWp d mX8_judge 27 [a0, .int x, a2, a3, a4, a5] (.int x :: st) h Q := w_iload_n dX8_judge_26 rfl
theorem X8_judge_27 (he : iEv mX8_rowAt [.ref p, .int x0] h (some rw) h2) (ho : iObj h p 8 = true) : iWp 5 mX8_judge 27 [a0, a1, a2, a3, a4, a5] [.int x0, .ref p] h Q = iWp 5 mX8_judge 30 [a0, a1, a2, a3, a4, a5] [rw] h2 Q := iWp_cV dX8_judge_27 fK_8_57 rfl rfl ho (Nat.le_of_ble_eq_true rfl) (Nat.le_of_ble_eq_true rfl) rfl (Nat.le_of_ble_eq_true rfl) he rfl
theorem X8_judge_30 : iWp d mX8_judge 30 [a0, a1, a2, a3, a4, a5] (.ref p :: st) h Q = iWp d mX8_judge 32 [a0, a1, a2, a3, iClr a4, .ref p] st h Q := w_astore dX8_judge_30 (Nat.le_of_ble_eq_true rfl) rfl
theorem X8_judge_30n : iWp d mX8_judge 30 [a0, a1, a2, a3, a4, a5] (.null :: st) h Q = iWp d mX8_judge 32 [a0, a1, a2, a3, iClr a4, .null] st h Q := w_astoreN dX8_judge_30 (Nat.le_of_ble_eq_true rfl) rfl
theorem X8_judge_32 : iWp d mX8_judge 32 [a0, a1, a2, a3, a4, .ref p] st h Q = iWp d mX8_judge 34 [a0, a1, a2, a3, a4, .ref p] (.ref p :: st) h Q := w_aload dX8_judge_32 rfl
theorem X8_judge_32n : iWp d mX8_judge 32 [a0, a1, a2, a3, a4, .null] st h Q = iWp d mX8_judge 34 [a0, a1, a2, a3, a4, .null] (.null :: st) h Q := w_aloadN dX8_judge_32 rfl
theorem X8_judge_34 : iWp d mX8_judge 34 [a0, a1, a2, a3, a4, a5] (.ref p :: st) h Q = iWp d mX8_judge 47 [a0, a1, a2, a3, a4, a5] st h Q := w_ifnonnull dX8_judge_34 rfl
theorem X8_judge_34n : iWp d mX8_judge 34 [a0, a1, a2, a3, a4, a5] (.null :: st) h Q = iWp d mX8_judge 37 [a0, a1, a2, a3, a4, a5] st h Q := w_ifnonnullN dX8_judge_34
theorem X8_judge_37 : iWp d mX8_judge 37 [.ref p, a1, a2, a3, a4, a5] st h Q = iWp d mX8_judge 38 [.ref p, a1, a2, a3, a4, a5] (.ref p :: st) h Q := w_aload_n dX8_judge_37 rfl
theorem X8_judge_38 : iWp d mX8_judge 38 [.ref p, a1, a2, a3, a4, a5] st h Q = iWp d mX8_judge 39 [.ref p, a1, a2, a3, a4, a5] (.ref p :: st) h Q := w_aload_n dX8_judge_38 rfl
theorem X8_judge_39 : iWp d mX8_judge 39 [a0, .int x, a2, a3, a4, a5] st h Q = iWp d mX8_judge 40 [a0, .int x, a2, a3, a4, a5] (.int x :: st) h Q := w_iload_n dX8_judge_39 rfl
theorem X8_judge_40 (he : iEv mX8_whyNoRow [.ref p, .int x0] h (some (.int rv)) h2) (ho : iObj h p 8 = true) : iWp 5 mX8_judge 40 [a0, a1, a2, a3, a4, a5] [.int x0, .ref p, .ref t0] h Q = iWp 5 mX8_judge 43 [a0, a1, a2, a3, a4, a5] [.int rv, .ref t0] h2 Q := iWp_cV dX8_judge_40 fK_8_61 rfl rfl ho (Nat.le_of_ble_eq_true rfl) (Nat.le_of_ble_eq_true rfl) rfl (Nat.le_of_ble_eq_true rfl) he rfl
theorem X8_judge_43 (he : iEv mX8_refuseLower [.ref p, .int x0] h (some (.int rv)) h2) (ho : iObj h p 8 = true) : iWp 5 mX8_judge 43 [a0, a1, a2, a3, a4, a5] [.int x0, .ref p] h Q = iWp 5 mX8_judge 46 [a0, a1, a2, a3, a4, a5] [.int rv] h2 Q := iWp_cV dX8_judge_43 fK_8_152 rfl rfl ho (Nat.le_of_ble_eq_true rfl) (Nat.le_of_ble_eq_true rfl) rfl (Nat.le_of_ble_eq_true rfl) he rfl
theorem X8_judge_46 : iWp d mX8_judge 46 [a0, a1, a2, a3, a4, a5] [.int x] h Q = Q (some (.int x)) h := w_ireti dX8_judge_46 rfl
theorem X8_judge_47 : iWp d mX8_judge 47 [a0, a1, a2, .int x, a4, a5] st h Q = iWp d mX8_judge 48 [a0, a1, a2, .int x, a4, a5] (.int x :: st) h Q := w_iload_n dX8_judge_47 rfl
theorem X8_judge_48 : iWp d mX8_judge 48 [a0, a1, a2, a3, a4, a5] (.int x :: st) h Q = if 0 ≤ x then iWp d mX8_judge 58 [a0, a1, a2, a3, a4, a5] st h Q else iWp d mX8_judge 51 [a0, a1, a2, a3, a4, a5] st h Q := w_ifc_ge dX8_judge_48 rfl
theorem X8_judge_51 : iWp d mX8_judge 51 [.ref p, a1, a2, a3, a4, a5] st h Q = iWp d mX8_judge 52 [.ref p, a1, a2, a3, a4, a5] (.ref p :: st) h Q := w_aload_n dX8_judge_51 rfl
theorem X8_judge_52 : iWp d mX8_judge 52 [a0, a1, a2, a3, a4, a5] st h Q = iWp d mX8_judge 54 [a0, a1, a2, a3, a4, a5] (.int (-4) :: st) h Q := w_bipush dX8_judge_52 rfl
theorem X8_judge_54 (he : iEv mX8_refuseLower [.ref p, .int x0] h (some (.int rv)) h2) (ho : iObj h p 8 = true) : iWp 5 mX8_judge 54 [a0, a1, a2, a3, a4, a5] [.int x0, .ref p] h Q = iWp 5 mX8_judge 57 [a0, a1, a2, a3, a4, a5] [.int rv] h2 Q := iWp_cV dX8_judge_54 fK_8_152 rfl rfl ho (Nat.le_of_ble_eq_true rfl) (Nat.le_of_ble_eq_true rfl) rfl (Nat.le_of_ble_eq_true rfl) he rfl
theorem X8_judge_57 : iWp d mX8_judge 57 [a0, a1, a2, a3, a4, a5] [.int x] h Q = Q (some (.int x)) h := w_ireti dX8_judge_57 rfl
theorem X8_judge_58 : iWp d mX8_judge 58 [a0, a1, a2, .int x, a4, a5] st h Q = iWp d mX8_judge 59 [a0, a1, a2, .int x, a4, a5] (.int x :: st) h Q := w_iload_n dX8_judge_58 rfl
theorem X8_judge_59 : iWp d mX8_judge 59 [a0, a1, a2, a3, a4, .ref p] st h Q = iWp d mX8_judge 61 [a0, a1, a2, a3, a4, .ref p] (.ref p :: st) h Q := w_aload dX8_judge_59 rfl
theorem X8_judge_59n : iWp d mX8_judge 59 [a0, a1, a2, a3, a4, .null] st h Q = iWp d mX8_judge 61 [a0, a1, a2, a3, a4, .null] (.null :: st) h Q := w_aloadN dX8_judge_59 rfl
theorem X8_judge_61 (he : iEv mX5_length [.ref p] h (some (.int rv)) h2) (ho : iObj h p 5 = true) : iWp 5 mX8_judge 61 [a0, a1, a2, a3, a4, a5] [.ref p, .int r0] h Q = iWp 5 mX8_judge 64 [a0, a1, a2, a3, a4, a5] [.int rv, .int r0] h2 Q := iWp_cV dX8_judge_61 fK_8_268 rfl rfl ho (Nat.le_of_ble_eq_true rfl) (Nat.le_of_ble_eq_true rfl) rfl (Nat.le_of_ble_eq_true rfl) he rfl
theorem X8_judge_64 : iWp d mX8_judge 64 [a0, a1, a2, a3, a4, a5] (.int y :: .int x :: st) h Q = if x ≤ y then iWp d mX8_judge 74 [a0, a1, a2, a3, a4, a5] st h Q else iWp d mX8_judge 67 [a0, a1, a2, a3, a4, a5] st h Q := w_icmp_le dX8_judge_64 rfl
theorem X8_judge_67 : iWp d mX8_judge 67 [.ref p, a1, a2, a3, a4, a5] st h Q = iWp d mX8_judge 68 [.ref p, a1, a2, a3, a4, a5] (.ref p :: st) h Q := w_aload_n dX8_judge_67 rfl
theorem X8_judge_68 : iWp d mX8_judge 68 [a0, a1, a2, a3, a4, a5] st h Q = iWp d mX8_judge 70 [a0, a1, a2, a3, a4, a5] (.int (-5) :: st) h Q := w_bipush dX8_judge_68 rfl
theorem X8_judge_70 (he : iEv mX8_refuseLower [.ref p, .int x0] h (some (.int rv)) h2) (ho : iObj h p 8 = true) : iWp 5 mX8_judge 70 [a0, a1, a2, a3, a4, a5] [.int x0, .ref p] h Q = iWp 5 mX8_judge 73 [a0, a1, a2, a3, a4, a5] [.int rv] h2 Q := iWp_cV dX8_judge_70 fK_8_152 rfl rfl ho (Nat.le_of_ble_eq_true rfl) (Nat.le_of_ble_eq_true rfl) rfl (Nat.le_of_ble_eq_true rfl) he rfl
theorem X8_judge_73 : iWp d mX8_judge 73 [a0, a1, a2, a3, a4, a5] [.int x] h Q = Q (some (.int x)) h := w_ireti dX8_judge_73 rfl
theorem X8_judge_74 : iWp d mX8_judge 74 [a0, a1, a2, .int x, a4, a5] st h Q = iWp d mX8_judge 75 [a0, a1, a2, .int x, a4, a5] (.int x :: st) h Q := w_iload_n dX8_judge_74 rfl
theorem X8_judge_75 : iWp d mX8_judge 75 [a0, a1, a2, a3, a4, a5] st h Q = iWp d mX8_judge 77 [a0, a1, a2, a3, a4, a5] (.int 60 :: st) h Q := w_bipush dX8_judge_75 rfl
theorem X8_judge_77 : iWp d mX8_judge 77 [a0, a1, a2, a3, a4, a5] (.int y :: .int x :: st) h Q = if x ≤ y then iWp d mX8_judge 87 [a0, a1, a2, a3, a4, a5] st h Q else iWp d mX8_judge 80 [a0, a1, a2, a3, a4, a5] st h Q := w_icmp_le dX8_judge_77 rfl
theorem X8_judge_80 : iWp d mX8_judge 80 [.ref p, a1, a2, a3, a4, a5] st h Q = iWp d mX8_judge 81 [.ref p, a1, a2, a3, a4, a5] (.ref p :: st) h Q := w_aload_n dX8_judge_80 rfl
theorem X8_judge_81 : iWp d mX8_judge 81 [a0, a1, a2, a3, a4, a5] st h Q = iWp d mX8_judge 83 [a0, a1, a2, a3, a4, a5] (.int (-6) :: st) h Q := w_bipush dX8_judge_81 rfl
theorem X8_judge_83 (he : iEv mX8_refuseLower [.ref p, .int x0] h (some (.int rv)) h2) (ho : iObj h p 8 = true) : iWp 5 mX8_judge 83 [a0, a1, a2, a3, a4, a5] [.int x0, .ref p] h Q = iWp 5 mX8_judge 86 [a0, a1, a2, a3, a4, a5] [.int rv] h2 Q := iWp_cV dX8_judge_83 fK_8_152 rfl rfl ho (Nat.le_of_ble_eq_true rfl) (Nat.le_of_ble_eq_true rfl) rfl (Nat.le_of_ble_eq_true rfl) he rfl
theorem X8_judge_86 : iWp d mX8_judge 86 [a0, a1, a2, a3, a4, a5] [.int x] h Q = Q (some (.int x)) h := w_ireti dX8_judge_86 rfl
theorem X8_judge_87 : iWp d mX8_judge 87 [a0, a1, a2, a3, .ref p, a5] st h Q = iWp d mX8_judge 89 [a0, a1, a2, a3, .ref p, a5] (.ref p :: st) h Q := w_aload dX8_judge_87 rfl
theorem X8_judge_87n : iWp d mX8_judge 87 [a0, a1, a2, a3, .null, a5] st h Q = iWp d mX8_judge 89 [a0, a1, a2, a3, .null, a5] (.null :: st) h Q := w_aloadN dX8_judge_87 rfl
theorem X8_judge_89 : iWp d mX8_judge 89 [a0, a1, a2, a3, a4, .ref p] st h Q = iWp d mX8_judge 91 [a0, a1, a2, a3, a4, .ref p] (.ref p :: st) h Q := w_aload dX8_judge_89 rfl
theorem X8_judge_89n : iWp d mX8_judge 89 [a0, a1, a2, a3, a4, .null] st h Q = iWp d mX8_judge 91 [a0, a1, a2, a3, a4, .null] (.null :: st) h Q := w_aloadN dX8_judge_89 rfl
theorem X8_judge_91 : iWp d mX8_judge 91 [a0, a1, a2, .int x, a4, a5] st h Q = iWp d mX8_judge 92 [a0, a1, a2, .int x, a4, a5] (.int x :: st) h Q := w_iload_n dX8_judge_91 rfl
theorem X8_judge_92 (he : iEv mX7_firstWrong [.ref p, b0, .int x1] h (some (.int rv)) h2) (ho : iObj h p 7 = true) (c0 : b0.category = 1) : iWp 5 mX8_judge 92 [a0, a1, a2, a3, a4, a5] [.int x1, b0, .ref p] h Q = iWp 5 mX8_judge 95 [a0, a1, a2, a3, a4, a5] [.int rv] h2 Q := iWp_cV dX8_judge_92 fK_8_271 rfl rfl ho (Nat.le_of_ble_eq_true rfl) (Nat.le_of_ble_eq_true rfl) (by simp [iInit, cat_i, cat_r, cat_l, mX7_firstWrong, c0]) (Nat.le_of_ble_eq_true rfl) he rfl
theorem X8_judge_95 : iWp d mX8_judge 95 [a0, a1, a2, a3, a4, a5] [.int x] h Q = Q (some (.int x)) h := w_ireti dX8_judge_95 rfl
theorem I8_judge {Q : Option Value → iHp → Prop} (hw : iWp 5 mX8_judge 0 [.ref p, .int x0, .int x1, .int x2, iU, iU] [] h Q) : ∃ r h1, iEv mX8_judge [.ref p, .int x0, .int x1, .int x2] h r h1 ∧ Q r h1 := iEv_of (by rfl) rfl hw
theorem J8_judge {r : Option Value} {h1 : iHp} (hw : iWp 5 mX8_judge 0 [.ref p, .int x0, .int x1, .int x2, iU, iU] [] h (fun r' h' => r' = r ∧ h' = h1)) : iEv mX8_judge [.ref p, .int x0, .int x1, .int x2] h r h1 := iEv_ev (by rfl) rfl hw
theorem X8_keepDraft_0 : iWp d mX8_keepDraft 0 [.ref p, a1, a2] st h Q = iWp d mX8_keepDraft 1 [.ref p, a1, a2] (.ref p :: st) h Q := w_aload_n dX8_keepDraft_0 rfl
theorem X8_keepDraft_1 : iWp d mX8_keepDraft 1 [a0, a1, a2] (.ref p :: st) h Q = iOb (iGet h p 8 3) (fun v => iWp d mX8_keepDraft 4 [a0, a1, a2] (v :: st) h Q) := w_getf dX8_keepDraft_1 fF_8_25
theorem X8_keepDraft_4 : iWp d mX8_keepDraft 4 [a0, a1, a2] (.ref p :: st) h Q = iOb (iGet h p 1 2) (fun v => iWp d mX8_keepDraft 7 [a0, a1, a2] (v :: st) h Q) := w_getf dX8_keepDraft_4 fF_8_184
theorem X8_keepDraft_7 : iWp d mX8_keepDraft 7 [a0, a1, a2] st h Q = iWp d mX8_keepDraft 9 [a0, a1, a2] (.int 120 :: st) h Q := w_bipush dX8_keepDraft_7 rfl
theorem X8_keepDraft_9 : iWp d mX8_keepDraft 9 [a0, a1, a2] (.int y :: .int x :: st) h Q = if y < x then iWp d mX8_keepDraft 24 [a0, a1, a2] st h Q else iWp d mX8_keepDraft 12 [a0, a1, a2] st h Q := w_icmp_gt dX8_keepDraft_9 rfl
theorem X8_keepDraft_12 : iWp d mX8_keepDraft 12 [.ref p, a1, a2] st h Q = iWp d mX8_keepDraft 13 [.ref p, a1, a2] (.ref p :: st) h Q := w_aload_n dX8_keepDraft_12 rfl
theorem X8_keepDraft_13 : iWp d mX8_keepDraft 13 [a0, a1, a2] (.ref p :: st) h Q = iOb (iGet h p 8 4) (fun v => iWp d mX8_keepDraft 16 [a0, a1, a2] (v :: st) h Q) := w_getf dX8_keepDraft_13 fF_8_32
theorem X8_keepDraft_16 : iWp d mX8_keepDraft 16 [a0, a1, a2] (.ref p :: st) h Q = iOb (iGet h p 6 3) (fun v => iWp d mX8_keepDraft 19 [a0, a1, a2] (v :: st) h Q) := w_getf dX8_keepDraft_16 fF_8_259
theorem X8_keepDraft_19 : iWp d mX8_keepDraft 19 [a0, a1, a2] st h Q = iWp d mX8_keepDraft 21 [a0, a1, a2] (.int 16 :: st) h Q := w_bipush dX8_keepDraft_19 rfl
theorem X8_keepDraft_21 : iWp d mX8_keepDraft 21 [a0, a1, a2] (.int y :: .int x :: st) h Q = if x < y then iWp d mX8_keepDraft 31 [a0, a1, a2] st h Q else iWp d mX8_keepDraft 24 [a0, a1, a2] st h Q := w_icmp_lt dX8_keepDraft_21 rfl
theorem X8_keepDraft_24 : iWp d mX8_keepDraft 24 [.ref p, a1, a2] st h Q = iWp d mX8_keepDraft 25 [.ref p, a1, a2] (.ref p :: st) h Q := w_aload_n dX8_keepDraft_24 rfl
theorem X8_keepDraft_25 : iWp d mX8_keepDraft 25 [a0, a1, a2] st h Q = iWp d mX8_keepDraft 27 [a0, a1, a2] (.int (-7) :: st) h Q := w_bipush dX8_keepDraft_25 rfl
theorem X8_keepDraft_27 (he : iEv mX8_refuse [.ref p, .int x0] h (some (.int rv)) h2) (ho : iObj h p 8 = true) : iWp 3 mX8_keepDraft 27 [a0, a1, a2] [.int x0, .ref p] h Q = iWp 3 mX8_keepDraft 30 [a0, a1, a2] [.int rv] h2 Q := iWp_cV dX8_keepDraft_27 fK_8_50 rfl rfl ho (Nat.le_of_ble_eq_true rfl) (Nat.le_of_ble_eq_true rfl) rfl (Nat.le_of_ble_eq_true rfl) he rfl
theorem X8_keepDraft_30 : iWp d mX8_keepDraft 30 [a0, a1, a2] [.int x] h Q = Q (some (.int x)) h := w_ireti dX8_keepDraft_30 rfl
theorem X8_keepDraft_31 : iWp d mX8_keepDraft 31 [.ref p, a1, a2] st h Q = iWp d mX8_keepDraft 32 [.ref p, a1, a2] (.ref p :: st) h Q := w_aload_n dX8_keepDraft_31 rfl
theorem X8_keepDraft_32 : iWp d mX8_keepDraft 32 [a0, a1, a2] (.ref p :: st) h Q = iWp d mX8_keepDraft 33 [a0, a1, a2] (.ref p :: .ref p :: st) h Q := w_dup dX8_keepDraft_32 rfl
theorem X8_keepDraft_33 : iWp d mX8_keepDraft 33 [a0, a1, a2] (.ref p :: st) h Q = iOb (iGet h p 8 7) (fun v => iWp d mX8_keepDraft 36 [a0, a1, a2] (v :: st) h Q) := w_getf dX8_keepDraft_33 fF_8_43
theorem X8_keepDraft_36 : iWp d mX8_keepDraft 36 [a0, a1, a2] st h Q = iWp d mX8_keepDraft 37 [a0, a1, a2] (.int 1 :: st) h Q := w_iconst dX8_keepDraft_36 rfl
theorem X8_keepDraft_37 : iWp d mX8_keepDraft 37 [a0, a1, a2] (.int y :: .int x :: st) h Q = iWp d mX8_keepDraft 38 [a0, a1, a2] (.int (x + y) :: st) h Q := w_iadd dX8_keepDraft_37
theorem X8_keepDraft_38 : iWp d mX8_keepDraft 38 [a0, a1, a2] (.int x :: .ref p :: st) h Q = iOb (iPut h p 8 7 (.int x)) (fun g => iWp d mX8_keepDraft 41 [a0, a1, a2] st g Q) := w_putf dX8_keepDraft_38 fF_8_43 ⟨rfl, (Or.inl rfl)⟩
theorem X8_keepDraft_41 : iWp d mX8_keepDraft 41 [.ref p, a1, a2] st h Q = iWp d mX8_keepDraft 42 [.ref p, a1, a2] (.ref p :: st) h Q := w_aload_n dX8_keepDraft_41 rfl
theorem X8_keepDraft_42 : iWp d mX8_keepDraft 42 [a0, a1, a2] (.ref p :: st) h Q = iOb (iGet h p 8 4) (fun v => iWp d mX8_keepDraft 45 [a0, a1, a2] (v :: st) h Q) := w_getf dX8_keepDraft_42 fF_8_32
theorem X8_keepDraft_45 : iWp d mX8_keepDraft 45 [a0, a1, a2] st h Q = iWp d mX8_keepDraft 48 [a0, a1, a2] (.ref h.2.1 :: st) (iNewO h 3) Q := w_new dX8_keepDraft_45 fC_8_97
theorem X8_keepDraft_48 : iWp d mX8_keepDraft 48 [a0, a1, a2] (.ref p :: st) h Q = iWp d mX8_keepDraft 49 [a0, a1, a2] (.ref p :: .ref p :: st) h Q := w_dup dX8_keepDraft_48 rfl
theorem X8_keepDraft_49 : iWp d mX8_keepDraft 49 [.ref p, a1, a2] st h Q = iWp d mX8_keepDraft 50 [.ref p, a1, a2] (.ref p :: st) h Q := w_aload_n dX8_keepDraft_49 rfl
theorem X8_keepDraft_50 : iWp d mX8_keepDraft 50 [a0, a1, a2] (.ref p :: st) h Q = iOb (iGet h p 8 3) (fun v => iWp d mX8_keepDraft 53 [a0, a1, a2] (v :: st) h Q) := w_getf dX8_keepDraft_50 fF_8_25
theorem X8_keepDraft_53 : iWp d mX8_keepDraft 53 [a0, .int x, a2] st h Q = iWp d mX8_keepDraft 54 [a0, .int x, a2] (.int x :: st) h Q := w_iload_n dX8_keepDraft_53 rfl
theorem X8_keepDraft_54 : iWp d mX8_keepDraft 54 [a0, a1, .int x] st h Q = iWp d mX8_keepDraft 55 [a0, a1, .int x] (.int x :: st) h Q := w_iload_n dX8_keepDraft_54 rfl
theorem X8_keepDraft_55 : iWp d mX8_keepDraft 55 [.ref p, a1, a2] st h Q = iWp d mX8_keepDraft 56 [.ref p, a1, a2] (.ref p :: st) h Q := w_aload_n dX8_keepDraft_55 rfl
theorem X8_keepDraft_56 : iWp d mX8_keepDraft 56 [a0, a1, a2] (.ref p :: st) h Q = iOb (iGet h p 8 7) (fun v => iWp d mX8_keepDraft 59 [a0, a1, a2] (v :: st) h Q) := w_getf dX8_keepDraft_56 fF_8_43
theorem X8_keepDraft_59 (he : iEv mX3_init [.ref p, b0, .int x1, .int x2, .int x3] h none h2) (c0 : b0.category = 1) : iWp 3 mX8_keepDraft 59 [a0, a1, a2] [.int x3, .int x2, .int x1, b0, .ref p, .ref t0, .ref t1] h Q = iWp 3 mX8_keepDraft 62 [a0, a1, a2] [.ref t0, .ref t1] h2 Q := iWp_cI dX8_keepDraft_59 fK_8_295 rfl rfl (Nat.le_of_ble_eq_true rfl) (Nat.le_of_ble_eq_true rfl) (by simp [iInit, cat_i, cat_r, cat_l, mX3_init, c0]) (Nat.le_of_ble_eq_true rfl) he rfl
theorem X8_keepDraft_62 (he : iEv mX6_addPatch [.ref p, b0] h (some (.int rv)) h2) (ho : iObj h p 6 = true) (c0 : b0.category = 1) : iWp 3 mX8_keepDraft 62 [a0, a1, a2] [b0, .ref p] h Q = iWp 3 mX8_keepDraft 65 [a0, a1, a2] [.int rv] h2 Q := iWp_cV dX8_keepDraft_62 fK_8_298 rfl rfl ho (Nat.le_of_ble_eq_true rfl) (Nat.le_of_ble_eq_true rfl) (by simp [iInit, cat_i, cat_r, cat_l, mX6_addPatch, c0]) (Nat.le_of_ble_eq_true rfl) he rfl
theorem X8_keepDraft_65 : iWp d mX8_keepDraft 65 [a0, a1, a2] [.int x] h Q = Q (some (.int x)) h := w_ireti dX8_keepDraft_65 rfl
theorem I8_keepDraft {Q : Option Value → iHp → Prop} (hw : iWp 3 mX8_keepDraft 0 [.ref p, .int x0, .int x1] [] h Q) : ∃ r h1, iEv mX8_keepDraft [.ref p, .int x0, .int x1] h r h1 ∧ Q r h1 := iEv_of (by rfl) rfl hw
theorem J8_keepDraft {r : Option Value} {h1 : iHp} (hw : iWp 3 mX8_keepDraft 0 [.ref p, .int x0, .int x1] [] h (fun r' h' => r' = r ∧ h' = h1)) : iEv mX8_keepDraft [.ref p, .int x0, .int x1] h r h1 := iEv_ev (by rfl) rfl hw
theorem X8_moves_0 : iWp d mX8_moves 0 [.ref p, a1, a2, a3] st h Q = iWp d mX8_moves 1 [.ref p, a1, a2, a3] (.ref p :: st) h Q := w_aload_n dX8_moves_0 rfl
theorem X8_moves_1 : iWp d mX8_moves 1 [a0, a1, a2, a3] (.ref p :: st) h Q = iOb (iGet h p 8 3) (fun v => iWp d mX8_moves 4 [a0, a1, a2, a3] (v :: st) h Q) := w_getf dX8_moves_1 fF_8_25
theorem X8_moves_4 : iWp d mX8_moves 4 [.ref p, a1, a2, a3] st h Q = iWp d mX8_moves 5 [.ref p, a1, a2, a3] (.ref p :: st) h Q := w_aload_n dX8_moves_4 rfl
theorem X8_moves_5 : iWp d mX8_moves 5 [a0, .int x, a2, a3] st h Q = iWp d mX8_moves 6 [a0, .int x, a2, a3] (.int x :: st) h Q := w_iload_n dX8_moves_5 rfl
theorem X8_moves_6 (he : iEv mX8_treeAt [.ref p, .int x0] h (some rw) h2) (ho : iObj h p 8 = true) : iWp 8 mX8_moves 6 [a0, a1, a2, a3] [.int x0, .ref p, .ref t0] h Q = iWp 8 mX8_moves 9 [a0, a1, a2, a3] [rw, .ref t0] h2 Q := iWp_cV dX8_moves_6 fK_8_121 rfl rfl ho (Nat.le_of_ble_eq_true rfl) (Nat.le_of_ble_eq_true rfl) rfl (Nat.le_of_ble_eq_true rfl) he rfl
theorem X8_moves_9 : iWp d mX8_moves 9 [.ref p, a1, a2, a3] st h Q = iWp d mX8_moves 10 [.ref p, a1, a2, a3] (.ref p :: st) h Q := w_aload_n dX8_moves_9 rfl
theorem X8_moves_10 : iWp d mX8_moves 10 [a0, a1, .int x, a3] st h Q = iWp d mX8_moves 11 [a0, a1, .int x, a3] (.int x :: st) h Q := w_iload_n dX8_moves_10 rfl
theorem X8_moves_11 (he : iEv mX8_treeAt [.ref p, .int x0] h (some rw) h2) (ho : iObj h p 8 = true) : iWp 8 mX8_moves 11 [a0, a1, a2, a3] [.int x0, .ref p, .ref t0, .ref t1] h Q = iWp 8 mX8_moves 14 [a0, a1, a2, a3] [rw, .ref t0, .ref t1] h2 Q := iWp_cV dX8_moves_11 fK_8_121 rfl rfl ho (Nat.le_of_ble_eq_true rfl) (Nat.le_of_ble_eq_true rfl) rfl (Nat.le_of_ble_eq_true rfl) he rfl
theorem X8_moves_14 (he : iEv mX0_draftInto [b0, b1, b2] h (some (.int rv)) h2) (c0 : b0.category = 1) (c1 : b1.category = 1) (c2 : b2.category = 1) : iWp 8 mX8_moves 14 [a0, a1, a2, a3] [b2, b1, b0] h Q = iWp 8 mX8_moves 17 [a0, a1, a2, a3] [.int rv] h2 Q := iWp_cS dX8_moves_14 fK_8_175 rfl rfl (Nat.le_of_ble_eq_true rfl) (Nat.le_of_ble_eq_true rfl) (by simp [iInit, cat_i, cat_r, cat_l, mX0_draftInto, c0, c1, c2]) (Nat.le_of_ble_eq_true rfl) he rfl
theorem X8_moves_17 : iWp d mX8_moves 17 [a0, a1, a2, a3] (.int x :: st) h Q = iWp d mX8_moves 18 [a0, a1, iClr a2, .int x] st h Q := w_istore_n dX8_moves_17 (Nat.le_of_ble_eq_true rfl) rfl
theorem X8_moves_18 : iWp d mX8_moves 18 [a0, a1, a2, .int x] st h Q = iWp d mX8_moves 19 [a0, a1, a2, .int x] (.int x :: st) h Q := w_iload_n dX8_moves_18 rfl
theorem X8_moves_19 : iWp d mX8_moves 19 [a0, a1, a2, a3] (.int x :: st) h Q = if x = 0 then iWp d mX8_moves 22 [a0, a1, a2, a3] st h Q else iWp d mX8_moves 33 [a0, a1, a2, a3] st h Q := w_ifc_ne dX8_moves_19 rfl
theorem X8_moves_22 : iWp d mX8_moves 22 [.ref p, a1, a2, a3] st h Q = iWp d mX8_moves 23 [.ref p, a1, a2, a3] (.ref p :: st) h Q := w_aload_n dX8_moves_22 rfl
theorem X8_moves_23 : iWp d mX8_moves 23 [a0, a1, a2, a3] (.ref p :: st) h Q = iOb (iGet h p 8 3) (fun v => iWp d mX8_moves 26 [a0, a1, a2, a3] (v :: st) h Q) := w_getf dX8_moves_23 fF_8_25
theorem X8_moves_26 : iWp d mX8_moves 26 [a0, a1, a2, a3] st h Q = iWp d mX8_moves 27 [a0, a1, a2, a3] (.int 3 :: st) h Q := w_iconst dX8_moves_26 rfl
theorem X8_moves_27 (he : iEv mX1_countOf [.ref p, .int x0] h (some (.int rv)) h2) (ho : iObj h p 1 = true) : iWp 8 mX8_moves 27 [a0, a1, a2, a3] [.int x0, .ref p] h Q = iWp 8 mX8_moves 30 [a0, a1, a2, a3] [.int rv] h2 Q := iWp_cV dX8_moves_27 fK_8_185 rfl rfl ho (Nat.le_of_ble_eq_true rfl) (Nat.le_of_ble_eq_true rfl) rfl (Nat.le_of_ble_eq_true rfl) he rfl
theorem X8_moves_30 : iWp d mX8_moves 30 [a0, a1, a2, a3] st h Q = iWp d mX8_moves 38 [a0, a1, a2, a3] st h Q := w_goto dX8_moves_30 rfl
theorem X8_moves_33 : iWp d mX8_moves 33 [.ref p, a1, a2, a3] st h Q = iWp d mX8_moves 34 [.ref p, a1, a2, a3] (.ref p :: st) h Q := w_aload_n dX8_moves_33 rfl
theorem X8_moves_34 : iWp d mX8_moves 34 [a0, a1, a2, .int x] st h Q = iWp d mX8_moves 35 [a0, a1, a2, .int x] (.int x :: st) h Q := w_iload_n dX8_moves_34 rfl
theorem X8_moves_35 (he : iEv mX8_refuse [.ref p, .int x0] h (some (.int rv)) h2) (ho : iObj h p 8 = true) : iWp 8 mX8_moves 35 [a0, a1, a2, a3] [.int x0, .ref p] h Q = iWp 8 mX8_moves 38 [a0, a1, a2, a3] [.int rv] h2 Q := iWp_cV dX8_moves_35 fK_8_50 rfl rfl ho (Nat.le_of_ble_eq_true rfl) (Nat.le_of_ble_eq_true rfl) rfl (Nat.le_of_ble_eq_true rfl) he rfl
theorem X8_moves_38 : iWp d mX8_moves 38 [a0, a1, a2, a3] [.int x] h Q = Q (some (.int x)) h := w_ireti dX8_moves_38 rfl
theorem I8_moves {Q : Option Value → iHp → Prop} (hw : iWp 8 mX8_moves 0 [.ref p, .int x0, .int x1, iU] [] h Q) : ∃ r h1, iEv mX8_moves [.ref p, .int x0, .int x1] h r h1 ∧ Q r h1 := iEv_of (by rfl) rfl hw
theorem J8_moves {r : Option Value} {h1 : iHp} (hw : iWp 8 mX8_moves 0 [.ref p, .int x0, .int x1, iU] [] h (fun r' h' => r' = r ∧ h' = h1)) : iEv mX8_moves [.ref p, .int x0, .int x1] h r h1 := iEv_ev (by rfl) rfl hw
theorem X8_node_0 : iWp d mX8_node 0 [.ref p, a1, a2, a3, a4] st h Q = iWp d mX8_node 1 [.ref p, a1, a2, a3, a4] (.ref p :: st) h Q := w_aload_n dX8_node_0 rfl
theorem X8_node_1 : iWp d mX8_node 1 [a0, .int x, a2, a3, a4] st h Q = iWp d mX8_node 2 [a0, .int x, a2, a3, a4] (.int x :: st) h Q := w_iload_n dX8_node_1 rfl
theorem X8_node_2 (he : iEv mX8_treeAt [.ref p, .int x0] h (some rw) h2) (ho : iObj h p 8 = true) : iWp 4 mX8_node 2 [a0, a1, a2, a3, a4] [.int x0, .ref p] h Q = iWp 4 mX8_node 5 [a0, a1, a2, a3, a4] [rw] h2 Q := iWp_cV dX8_node_2 fK_8_121 rfl rfl ho (Nat.le_of_ble_eq_true rfl) (Nat.le_of_ble_eq_true rfl) rfl (Nat.le_of_ble_eq_true rfl) he rfl
theorem X8_node_5 : iWp d mX8_node 5 [a0, a1, a2, a3, a4] (.ref p :: st) h Q = iWp d mX8_node 7 [a0, a1, a2, iClr a3, .ref p] st h Q := w_astore dX8_node_5 (Nat.le_of_ble_eq_true rfl) rfl
theorem X8_node_5n : iWp d mX8_node 5 [a0, a1, a2, a3, a4] (.null :: st) h Q = iWp d mX8_node 7 [a0, a1, a2, iClr a3, .null] st h Q := w_astoreN dX8_node_5 (Nat.le_of_ble_eq_true rfl) rfl
theorem X8_node_7 : iWp d mX8_node 7 [a0, a1, a2, a3, .ref p] st h Q = iWp d mX8_node 9 [a0, a1, a2, a3, .ref p] (.ref p :: st) h Q := w_aload dX8_node_7 rfl
theorem X8_node_7n : iWp d mX8_node 7 [a0, a1, a2, a3, .null] st h Q = iWp d mX8_node 9 [a0, a1, a2, a3, .null] (.null :: st) h Q := w_aloadN dX8_node_7 rfl
theorem X8_node_9 : iWp d mX8_node 9 [a0, a1, a2, a3, a4] (.ref p :: st) h Q = iWp d mX8_node 18 [a0, a1, a2, a3, a4] st h Q := w_ifnonnull dX8_node_9 rfl
theorem X8_node_9n : iWp d mX8_node 9 [a0, a1, a2, a3, a4] (.null :: st) h Q = iWp d mX8_node 12 [a0, a1, a2, a3, a4] st h Q := w_ifnonnullN dX8_node_9
theorem X8_node_12 : iWp d mX8_node 12 [.ref p, a1, a2, a3, a4] st h Q = iWp d mX8_node 13 [.ref p, a1, a2, a3, a4] (.ref p :: st) h Q := w_aload_n dX8_node_12 rfl
theorem X8_node_13 : iWp d mX8_node 13 [a0, a1, a2, a3, a4] st h Q = iWp d mX8_node 14 [a0, a1, a2, a3, a4] (.int (-1) :: st) h Q := w_iconst dX8_node_13 rfl
theorem X8_node_14 (he : iEv mX8_refuse [.ref p, .int x0] h (some (.int rv)) h2) (ho : iObj h p 8 = true) : iWp 4 mX8_node 14 [a0, a1, a2, a3, a4] [.int x0, .ref p] h Q = iWp 4 mX8_node 17 [a0, a1, a2, a3, a4] [.int rv] h2 Q := iWp_cV dX8_node_14 fK_8_50 rfl rfl ho (Nat.le_of_ble_eq_true rfl) (Nat.le_of_ble_eq_true rfl) rfl (Nat.le_of_ble_eq_true rfl) he rfl
theorem X8_node_17 : iWp d mX8_node 17 [a0, a1, a2, a3, a4] [.int x] h Q = Q (some (.int x)) h := w_ireti dX8_node_17 rfl
theorem X8_node_18 : iWp d mX8_node 18 [a0, a1, a2, a3, .ref p] st h Q = iWp d mX8_node 20 [a0, a1, a2, a3, .ref p] (.ref p :: st) h Q := w_aload dX8_node_18 rfl
theorem X8_node_18n : iWp d mX8_node 18 [a0, a1, a2, a3, .null] st h Q = iWp d mX8_node 20 [a0, a1, a2, a3, .null] (.null :: st) h Q := w_aloadN dX8_node_18 rfl
theorem X8_node_20 : iWp d mX8_node 20 [a0, a1, .int x, a3, a4] st h Q = iWp d mX8_node 21 [a0, a1, .int x, a3, a4] (.int x :: st) h Q := w_iload_n dX8_node_20 rfl
theorem X8_node_21 (he : iEv mX7_has [.ref p, .int x0] h (some (.int rv)) h2) (ho : iObj h p 7 = true) : iWp 4 mX8_node 21 [a0, a1, a2, a3, a4] [.int x0, .ref p] h Q = iWp 4 mX8_node 24 [a0, a1, a2, a3, a4] [.int rv] h2 Q := iWp_cV dX8_node_21 fK_8_130 rfl rfl ho (Nat.le_of_ble_eq_true rfl) (Nat.le_of_ble_eq_true rfl) rfl (Nat.le_of_ble_eq_true rfl) he rfl
theorem X8_node_24 : iWp d mX8_node 24 [a0, a1, a2, a3, a4] (.int x :: st) h Q = if x = 0 then iWp d mX8_node 27 [a0, a1, a2, a3, a4] st h Q else iWp d mX8_node 34 [a0, a1, a2, a3, a4] st h Q := w_ifc_ne dX8_node_24 rfl
theorem X8_node_27 : iWp d mX8_node 27 [.ref p, a1, a2, a3, a4] st h Q = iWp d mX8_node 28 [.ref p, a1, a2, a3, a4] (.ref p :: st) h Q := w_aload_n dX8_node_27 rfl
theorem X8_node_28 : iWp d mX8_node 28 [a0, a1, a2, a3, a4] st h Q = iWp d mX8_node 30 [a0, a1, a2, a3, a4] (.int (-5) :: st) h Q := w_bipush dX8_node_28 rfl
theorem X8_node_30 (he : iEv mX8_refuse [.ref p, .int x0] h (some (.int rv)) h2) (ho : iObj h p 8 = true) : iWp 4 mX8_node 30 [a0, a1, a2, a3, a4] [.int x0, .ref p] h Q = iWp 4 mX8_node 33 [a0, a1, a2, a3, a4] [.int rv] h2 Q := iWp_cV dX8_node_30 fK_8_50 rfl rfl ho (Nat.le_of_ble_eq_true rfl) (Nat.le_of_ble_eq_true rfl) rfl (Nat.le_of_ble_eq_true rfl) he rfl
theorem X8_node_33 : iWp d mX8_node 33 [a0, a1, a2, a3, a4] [.int x] h Q = Q (some (.int x)) h := w_ireti dX8_node_33 rfl
theorem X8_node_34 : iWp d mX8_node 34 [a0, a1, a2, .int x, a4] st h Q = iWp d mX8_node 35 [a0, a1, a2, .int x, a4] (.int x :: st) h Q := w_iload_n dX8_node_34 rfl
theorem X8_node_35_0 : iWp d mX8_node 35 [a0, a1, a2, a3, a4] (.int 0 :: st) h Q = iWp d mX8_node 76 [a0, a1, a2, a3, a4] st h Q := w_switch dX8_node_35 rfl rfl rfl
theorem X8_node_35_1 : iWp d mX8_node 35 [a0, a1, a2, a3, a4] (.int 1 :: st) h Q = iWp d mX8_node 83 [a0, a1, a2, a3, a4] st h Q := w_switch dX8_node_35 rfl rfl rfl
theorem X8_node_35_2 : iWp d mX8_node 35 [a0, a1, a2, a3, a4] (.int 2 :: st) h Q = iWp d mX8_node 90 [a0, a1, a2, a3, a4] st h Q := w_switch dX8_node_35 rfl rfl rfl
theorem X8_node_35_3 : iWp d mX8_node 35 [a0, a1, a2, a3, a4] (.int 3 :: st) h Q = iWp d mX8_node 97 [a0, a1, a2, a3, a4] st h Q := w_switch dX8_node_35 rfl rfl rfl
theorem X8_node_35_4 : iWp d mX8_node 35 [a0, a1, a2, a3, a4] (.int 4 :: st) h Q = iWp d mX8_node 104 [a0, a1, a2, a3, a4] st h Q := w_switch dX8_node_35 rfl rfl rfl
theorem X8_node_35_5 : iWp d mX8_node 35 [a0, a1, a2, a3, a4] (.int 5 :: st) h Q = iWp d mX8_node 111 [a0, a1, a2, a3, a4] st h Q := w_switch dX8_node_35 rfl rfl rfl
theorem X8_node_35_6 : iWp d mX8_node 35 [a0, a1, a2, a3, a4] (.int 6 :: st) h Q = iWp d mX8_node 118 [a0, a1, a2, a3, a4] st h Q := w_switch dX8_node_35 rfl rfl rfl
theorem X8_node_35_d (hx : x.toInt < 0 ∨ 6 < x.toInt) : iWp d mX8_node 35 [a0, a1, a2, a3, a4] (.int x :: st) h Q = iWp d mX8_node 127 [a0, a1, a2, a3, a4] st h Q := w_switchD dX8_node_35 hx rfl
theorem X8_node_76 : iWp d mX8_node 76 [a0, a1, a2, a3, .ref p] st h Q = iWp d mX8_node 78 [a0, a1, a2, a3, .ref p] (.ref p :: st) h Q := w_aload dX8_node_76 rfl
theorem X8_node_76n : iWp d mX8_node 76 [a0, a1, a2, a3, .null] st h Q = iWp d mX8_node 78 [a0, a1, a2, a3, .null] (.null :: st) h Q := w_aloadN dX8_node_76 rfl
theorem X8_node_78 : iWp d mX8_node 78 [a0, a1, .int x, a3, a4] st h Q = iWp d mX8_node 79 [a0, a1, .int x, a3, a4] (.int x :: st) h Q := w_iload_n dX8_node_78 rfl
theorem X8_node_79 (he : iEv mX7_keyAt [.ref p, .int x0] h (some (.int rv)) h2) (ho : iObj h p 7 = true) : iWp 4 mX8_node 79 [a0, a1, a2, a3, a4] [.int x0, .ref p] h Q = iWp 4 mX8_node 82 [a0, a1, a2, a3, a4] [.int rv] h2 Q := iWp_cV dX8_node_79 fK_8_131 rfl rfl ho (Nat.le_of_ble_eq_true rfl) (Nat.le_of_ble_eq_true rfl) rfl (Nat.le_of_ble_eq_true rfl) he rfl
theorem X8_node_82 : iWp d mX8_node 82 [a0, a1, a2, a3, a4] [.int x] h Q = Q (some (.int x)) h := w_ireti dX8_node_82 rfl
theorem X8_node_83 : iWp d mX8_node 83 [a0, a1, a2, a3, .ref p] st h Q = iWp d mX8_node 85 [a0, a1, a2, a3, .ref p] (.ref p :: st) h Q := w_aload dX8_node_83 rfl
theorem X8_node_83n : iWp d mX8_node 83 [a0, a1, a2, a3, .null] st h Q = iWp d mX8_node 85 [a0, a1, a2, a3, .null] (.null :: st) h Q := w_aloadN dX8_node_83 rfl
theorem X8_node_85 : iWp d mX8_node 85 [a0, a1, .int x, a3, a4] st h Q = iWp d mX8_node 86 [a0, a1, .int x, a3, a4] (.int x :: st) h Q := w_iload_n dX8_node_85 rfl
theorem X8_node_86 (he : iEv mX7_labelAt [.ref p, .int x0] h (some (.int rv)) h2) (ho : iObj h p 7 = true) : iWp 4 mX8_node 86 [a0, a1, a2, a3, a4] [.int x0, .ref p] h Q = iWp 4 mX8_node 89 [a0, a1, a2, a3, a4] [.int rv] h2 Q := iWp_cV dX8_node_86 fK_8_134 rfl rfl ho (Nat.le_of_ble_eq_true rfl) (Nat.le_of_ble_eq_true rfl) rfl (Nat.le_of_ble_eq_true rfl) he rfl
theorem X8_node_89 : iWp d mX8_node 89 [a0, a1, a2, a3, a4] [.int x] h Q = Q (some (.int x)) h := w_ireti dX8_node_89 rfl
theorem X8_node_90 : iWp d mX8_node 90 [a0, a1, a2, a3, .ref p] st h Q = iWp d mX8_node 92 [a0, a1, a2, a3, .ref p] (.ref p :: st) h Q := w_aload dX8_node_90 rfl
theorem X8_node_90n : iWp d mX8_node 90 [a0, a1, a2, a3, .null] st h Q = iWp d mX8_node 92 [a0, a1, a2, a3, .null] (.null :: st) h Q := w_aloadN dX8_node_90 rfl
theorem X8_node_92 : iWp d mX8_node 92 [a0, a1, .int x, a3, a4] st h Q = iWp d mX8_node 93 [a0, a1, .int x, a3, a4] (.int x :: st) h Q := w_iload_n dX8_node_92 rfl
theorem X8_node_93 (he : iEv mX7_parentKeyAt [.ref p, .int x0] h (some (.int rv)) h2) (ho : iObj h p 7 = true) : iWp 4 mX8_node 93 [a0, a1, a2, a3, a4] [.int x0, .ref p] h Q = iWp 4 mX8_node 96 [a0, a1, a2, a3, a4] [.int rv] h2 Q := iWp_cV dX8_node_93 fK_8_137 rfl rfl ho (Nat.le_of_ble_eq_true rfl) (Nat.le_of_ble_eq_true rfl) rfl (Nat.le_of_ble_eq_true rfl) he rfl
theorem X8_node_96 : iWp d mX8_node 96 [a0, a1, a2, a3, a4] [.int x] h Q = Q (some (.int x)) h := w_ireti dX8_node_96 rfl
theorem X8_node_97 : iWp d mX8_node 97 [a0, a1, a2, a3, .ref p] st h Q = iWp d mX8_node 99 [a0, a1, a2, a3, .ref p] (.ref p :: st) h Q := w_aload dX8_node_97 rfl
theorem X8_node_97n : iWp d mX8_node 97 [a0, a1, a2, a3, .null] st h Q = iWp d mX8_node 99 [a0, a1, a2, a3, .null] (.null :: st) h Q := w_aloadN dX8_node_97 rfl
theorem X8_node_99 : iWp d mX8_node 99 [a0, a1, .int x, a3, a4] st h Q = iWp d mX8_node 100 [a0, a1, .int x, a3, a4] (.int x :: st) h Q := w_iload_n dX8_node_99 rfl
theorem X8_node_100 (he : iEv mX7_placeAt [.ref p, .int x0] h (some (.int rv)) h2) (ho : iObj h p 7 = true) : iWp 4 mX8_node 100 [a0, a1, a2, a3, a4] [.int x0, .ref p] h Q = iWp 4 mX8_node 103 [a0, a1, a2, a3, a4] [.int rv] h2 Q := iWp_cV dX8_node_100 fK_8_140 rfl rfl ho (Nat.le_of_ble_eq_true rfl) (Nat.le_of_ble_eq_true rfl) rfl (Nat.le_of_ble_eq_true rfl) he rfl
theorem X8_node_103 : iWp d mX8_node 103 [a0, a1, a2, a3, a4] [.int x] h Q = Q (some (.int x)) h := w_ireti dX8_node_103 rfl
theorem X8_node_104 : iWp d mX8_node 104 [a0, a1, a2, a3, .ref p] st h Q = iWp d mX8_node 106 [a0, a1, a2, a3, .ref p] (.ref p :: st) h Q := w_aload dX8_node_104 rfl
theorem X8_node_104n : iWp d mX8_node 104 [a0, a1, a2, a3, .null] st h Q = iWp d mX8_node 106 [a0, a1, a2, a3, .null] (.null :: st) h Q := w_aloadN dX8_node_104 rfl
theorem X8_node_106 : iWp d mX8_node 106 [a0, a1, .int x, a3, a4] st h Q = iWp d mX8_node 107 [a0, a1, .int x, a3, a4] (.int x :: st) h Q := w_iload_n dX8_node_106 rfl
theorem X8_node_107 (he : iEv mX7_childCount [.ref p, .int x0] h (some (.int rv)) h2) (ho : iObj h p 7 = true) : iWp 4 mX8_node 107 [a0, a1, a2, a3, a4] [.int x0, .ref p] h Q = iWp 4 mX8_node 110 [a0, a1, a2, a3, a4] [.int rv] h2 Q := iWp_cV dX8_node_107 fK_8_143 rfl rfl ho (Nat.le_of_ble_eq_true rfl) (Nat.le_of_ble_eq_true rfl) rfl (Nat.le_of_ble_eq_true rfl) he rfl
theorem X8_node_110 : iWp d mX8_node 110 [a0, a1, a2, a3, a4] [.int x] h Q = Q (some (.int x)) h := w_ireti dX8_node_110 rfl
theorem X8_node_111 : iWp d mX8_node 111 [a0, a1, a2, a3, .ref p] st h Q = iWp d mX8_node 113 [a0, a1, a2, a3, .ref p] (.ref p :: st) h Q := w_aload dX8_node_111 rfl
theorem X8_node_111n : iWp d mX8_node 111 [a0, a1, a2, a3, .null] st h Q = iWp d mX8_node 113 [a0, a1, a2, a3, .null] (.null :: st) h Q := w_aloadN dX8_node_111 rfl
theorem X8_node_113 : iWp d mX8_node 113 [a0, a1, .int x, a3, a4] st h Q = iWp d mX8_node 114 [a0, a1, .int x, a3, a4] (.int x :: st) h Q := w_iload_n dX8_node_113 rfl
theorem X8_node_114 (he : iEv mX7_depthAt [.ref p, .int x0] h (some (.int rv)) h2) (ho : iObj h p 7 = true) : iWp 4 mX8_node 114 [a0, a1, a2, a3, a4] [.int x0, .ref p] h Q = iWp 4 mX8_node 117 [a0, a1, a2, a3, a4] [.int rv] h2 Q := iWp_cV dX8_node_114 fK_8_146 rfl rfl ho (Nat.le_of_ble_eq_true rfl) (Nat.le_of_ble_eq_true rfl) rfl (Nat.le_of_ble_eq_true rfl) he rfl
theorem X8_node_117 : iWp d mX8_node 117 [a0, a1, a2, a3, a4] [.int x] h Q = Q (some (.int x)) h := w_ireti dX8_node_117 rfl
theorem X8_node_118 : iWp d mX8_node 118 [a0, a1, a2, a3, .ref p] st h Q = iWp d mX8_node 120 [a0, a1, a2, a3, .ref p] (.ref p :: st) h Q := w_aload dX8_node_118 rfl
theorem X8_node_118n : iWp d mX8_node 118 [a0, a1, a2, a3, .null] st h Q = iWp d mX8_node 120 [a0, a1, a2, a3, .null] (.null :: st) h Q := w_aloadN dX8_node_118 rfl
theorem X8_node_120 : iWp d mX8_node 120 [a0, a1, .int x, a3, a4] st h Q = iWp d mX8_node 121 [a0, a1, .int x, a3, a4] (.int x :: st) h Q := w_iload_n dX8_node_120 rfl
theorem X8_node_121 (he : iEv mX7_endOf [.ref p, .int x0] h (some (.int rv)) h2) (ho : iObj h p 7 = true) : iWp 4 mX8_node 121 [a0, a1, a2, a3, a4] [.int x0, .ref p] h Q = iWp 4 mX8_node 124 [a0, a1, a2, a3, a4] [.int rv] h2 Q := iWp_cV dX8_node_121 fK_8_149 rfl rfl ho (Nat.le_of_ble_eq_true rfl) (Nat.le_of_ble_eq_true rfl) rfl (Nat.le_of_ble_eq_true rfl) he rfl
theorem X8_node_124 : iWp d mX8_node 124 [a0, a1, .int x, a3, a4] st h Q = iWp d mX8_node 125 [a0, a1, .int x, a3, a4] (.int x :: st) h Q := w_iload_n dX8_node_124 rfl
theorem X8_node_125 : iWp d mX8_node 125 [a0, a1, a2, a3, a4] (.int y :: .int x :: st) h Q = iWp d mX8_node 126 [a0, a1, a2, a3, a4] (.int (x - y) :: st) h Q := w_isub dX8_node_125
theorem X8_node_126 : iWp d mX8_node 126 [a0, a1, a2, a3, a4] [.int x] h Q = Q (some (.int x)) h := w_ireti dX8_node_126 rfl
theorem X8_node_127 : iWp d mX8_node 127 [.ref p, a1, a2, a3, a4] st h Q = iWp d mX8_node 128 [.ref p, a1, a2, a3, a4] (.ref p :: st) h Q := w_aload_n dX8_node_127 rfl
theorem X8_node_128 : iWp d mX8_node 128 [a0, a1, a2, a3, a4] st h Q = iWp d mX8_node 130 [a0, a1, a2, a3, a4] (.int (-5) :: st) h Q := w_bipush dX8_node_128 rfl
theorem X8_node_130 (he : iEv mX8_refuse [.ref p, .int x0] h (some (.int rv)) h2) (ho : iObj h p 8 = true) : iWp 4 mX8_node 130 [a0, a1, a2, a3, a4] [.int x0, .ref p] h Q = iWp 4 mX8_node 133 [a0, a1, a2, a3, a4] [.int rv] h2 Q := iWp_cV dX8_node_130 fK_8_50 rfl rfl ho (Nat.le_of_ble_eq_true rfl) (Nat.le_of_ble_eq_true rfl) rfl (Nat.le_of_ble_eq_true rfl) he rfl
theorem X8_node_133 : iWp d mX8_node 133 [a0, a1, a2, a3, a4] [.int x] h Q = Q (some (.int x)) h := w_ireti dX8_node_133 rfl
theorem I8_node {Q : Option Value → iHp → Prop} (hw : iWp 4 mX8_node 0 [.ref p, .int x0, .int x1, .int x2, iU] [] h Q) : ∃ r h1, iEv mX8_node [.ref p, .int x0, .int x1, .int x2] h r h1 ∧ Q r h1 := iEv_of (by rfl) rfl hw
theorem J8_node {r : Option Value} {h1 : iHp} (hw : iWp 4 mX8_node 0 [.ref p, .int x0, .int x1, .int x2, iU] [] h (fun r' h' => r' = r ∧ h' = h1)) : iEv mX8_node [.ref p, .int x0, .int x1, .int x2] h r h1 := iEv_ev (by rfl) rfl hw
theorem X8_nodes_0 : iWp d mX8_nodes 0 [.ref p, a1, a2] st h Q = iWp d mX8_nodes 1 [.ref p, a1, a2] (.ref p :: st) h Q := w_aload_n dX8_nodes_0 rfl
theorem X8_nodes_1 : iWp d mX8_nodes 1 [a0, .int x, a2] st h Q = iWp d mX8_nodes 2 [a0, .int x, a2] (.int x :: st) h Q := w_iload_n dX8_nodes_1 rfl
theorem X8_nodes_2 (he : iEv mX8_treeAt [.ref p, .int x0] h (some rw) h2) (ho : iObj h p 8 = true) : iWp 3 mX8_nodes 2 [a0, a1, a2] [.int x0, .ref p] h Q = iWp 3 mX8_nodes 5 [a0, a1, a2] [rw] h2 Q := iWp_cV dX8_nodes_2 fK_8_121 rfl rfl ho (Nat.le_of_ble_eq_true rfl) (Nat.le_of_ble_eq_true rfl) rfl (Nat.le_of_ble_eq_true rfl) he rfl
theorem X8_nodes_5 : iWp d mX8_nodes 5 [a0, a1, a2] (.ref p :: st) h Q = iWp d mX8_nodes 6 [a0, iClr a1, .ref p] st h Q := w_astore_n dX8_nodes_5 (Nat.le_of_ble_eq_true rfl) rfl
theorem X8_nodes_5n : iWp d mX8_nodes 5 [a0, a1, a2] (.null :: st) h Q = iWp d mX8_nodes 6 [a0, iClr a1, .null] st h Q := w_astore_nN dX8_nodes_5 (Nat.le_of_ble_eq_true rfl) rfl
theorem X8_nodes_6 : iWp d mX8_nodes 6 [a0, a1, .ref p] st h Q = iWp d mX8_nodes 7 [a0, a1, .ref p] (.ref p :: st) h Q := w_aload_n dX8_nodes_6 rfl
theorem X8_nodes_6n : iWp d mX8_nodes 6 [a0, a1, .null] st h Q = iWp d mX8_nodes 7 [a0, a1, .null] (.null :: st) h Q := w_aload_nN dX8_nodes_6 rfl
theorem X8_nodes_7 : iWp d mX8_nodes 7 [a0, a1, a2] (.ref p :: st) h Q = iWp d mX8_nodes 18 [a0, a1, a2] st h Q := w_ifnonnull dX8_nodes_7 rfl
theorem X8_nodes_7n : iWp d mX8_nodes 7 [a0, a1, a2] (.null :: st) h Q = iWp d mX8_nodes 10 [a0, a1, a2] st h Q := w_ifnonnullN dX8_nodes_7
theorem X8_nodes_10 : iWp d mX8_nodes 10 [.ref p, a1, a2] st h Q = iWp d mX8_nodes 11 [.ref p, a1, a2] (.ref p :: st) h Q := w_aload_n dX8_nodes_10 rfl
theorem X8_nodes_11 : iWp d mX8_nodes 11 [a0, a1, a2] st h Q = iWp d mX8_nodes 12 [a0, a1, a2] (.int (-1) :: st) h Q := w_iconst dX8_nodes_11 rfl
theorem X8_nodes_12 (he : iEv mX8_refuse [.ref p, .int x0] h (some (.int rv)) h2) (ho : iObj h p 8 = true) : iWp 3 mX8_nodes 12 [a0, a1, a2] [.int x0, .ref p] h Q = iWp 3 mX8_nodes 15 [a0, a1, a2] [.int rv] h2 Q := iWp_cV dX8_nodes_12 fK_8_50 rfl rfl ho (Nat.le_of_ble_eq_true rfl) (Nat.le_of_ble_eq_true rfl) rfl (Nat.le_of_ble_eq_true rfl) he rfl
theorem X8_nodes_15 : iWp d mX8_nodes 15 [a0, a1, a2] st h Q = iWp d mX8_nodes 22 [a0, a1, a2] st h Q := w_goto dX8_nodes_15 rfl
theorem X8_nodes_18 : iWp d mX8_nodes 18 [a0, a1, .ref p] st h Q = iWp d mX8_nodes 19 [a0, a1, .ref p] (.ref p :: st) h Q := w_aload_n dX8_nodes_18 rfl
theorem X8_nodes_18n : iWp d mX8_nodes 18 [a0, a1, .null] st h Q = iWp d mX8_nodes 19 [a0, a1, .null] (.null :: st) h Q := w_aload_nN dX8_nodes_18 rfl
theorem X8_nodes_19 : iWp d mX8_nodes 19 [a0, a1, a2] (.ref p :: st) h Q = iOb (iGet h p 7 3) (fun v => iWp d mX8_nodes 22 [a0, a1, a2] (v :: st) h Q) := w_getf dX8_nodes_19 fF_8_125
theorem X8_nodes_22 : iWp d mX8_nodes 22 [a0, a1, a2] [.int x] h Q = Q (some (.int x)) h := w_ireti dX8_nodes_22 rfl
theorem I8_nodes {Q : Option Value → iHp → Prop} (hw : iWp 3 mX8_nodes 0 [.ref p, .int x0, iU] [] h Q) : ∃ r h1, iEv mX8_nodes [.ref p, .int x0] h r h1 ∧ Q r h1 := iEv_of (by rfl) rfl hw
theorem J8_nodes {r : Option Value} {h1 : iHp} (hw : iWp 3 mX8_nodes 0 [.ref p, .int x0, iU] [] h (fun r' h' => r' = r ∧ h' = h1)) : iEv mX8_nodes [.ref p, .int x0] h r h1 := iEv_ev (by rfl) rfl hw
theorem X8_passDay_0 : iWp d mX8_passDay 0 [.ref p, a1, a2, a3, a4, a5] st h Q = iWp d mX8_passDay 1 [.ref p, a1, a2, a3, a4, a5] (.ref p :: st) h Q := w_aload_n dX8_passDay_0 rfl
theorem X8_passDay_1 : iWp d mX8_passDay 1 [a0, a1, a2, a3, a4, a5] (.ref p :: st) h Q = iOb (iGet h p 8 4) (fun v => iWp d mX8_passDay 4 [a0, a1, a2, a3, a4, a5] (v :: st) h Q) := w_getf dX8_passDay_1 fF_8_32
theorem X8_passDay_4 : iWp d mX8_passDay 4 [a0, a1, a2, a3, a4, a5] st h Q = iWp d mX8_passDay 6 [a0, a1, a2, a3, a4, a5] (.int 60 :: st) h Q := w_bipush dX8_passDay_4 rfl
theorem X8_passDay_6 (he : iEv mX6_draw [.ref p, .int x0] h (some (.int rv)) h2) (ho : iObj h p 6 = true) : iWp 3 mX8_passDay 6 [a0, a1, a2, a3, a4, a5] [.int x0, .ref p] h Q = iWp 3 mX8_passDay 9 [a0, a1, a2, a3, a4, a5] [.int rv] h2 Q := iWp_cV dX8_passDay_6 fK_8_302 rfl rfl ho (Nat.le_of_ble_eq_true rfl) (Nat.le_of_ble_eq_true rfl) rfl (Nat.le_of_ble_eq_true rfl) he rfl
theorem X8_passDay_9 : iWp d mX8_passDay 9 [a0, a1, a2, a3, a4, a5] st h Q = iWp d mX8_passDay 10 [a0, a1, a2, a3, a4, a5] (.int 1 :: st) h Q := w_iconst dX8_passDay_9 rfl
theorem X8_passDay_10 : iWp d mX8_passDay 10 [a0, a1, a2, a3, a4, a5] (.int y :: .int x :: st) h Q = iWp d mX8_passDay 11 [a0, a1, a2, a3, a4, a5] (.int (x + y) :: st) h Q := w_iadd dX8_passDay_10
theorem X8_passDay_11 : iWp d mX8_passDay 11 [a0, a1, a2, a3, a4, a5] (.int x :: st) h Q = iWp d mX8_passDay 12 [a0, iClr a1, .int x, a3, a4, a5] st h Q := w_istore_n dX8_passDay_11 (Nat.le_of_ble_eq_true rfl) rfl
theorem X8_passDay_12 : iWp d mX8_passDay 12 [a0, .ref p, a2, a3, a4, a5] st h Q = iWp d mX8_passDay 13 [a0, .ref p, a2, a3, a4, a5] (.ref p :: st) h Q := w_aload_n dX8_passDay_12 rfl
theorem X8_passDay_12n : iWp d mX8_passDay 12 [a0, .null, a2, a3, a4, a5] st h Q = iWp d mX8_passDay 13 [a0, .null, a2, a3, a4, a5] (.null :: st) h Q := w_aload_nN dX8_passDay_12 rfl
theorem X8_passDay_13 : iWp d mX8_passDay 13 [a0, a1, .int x, a3, a4, a5] st h Q = iWp d mX8_passDay 14 [a0, a1, .int x, a3, a4, a5] (.int x :: st) h Q := w_iload_n dX8_passDay_13 rfl
theorem X8_passDay_14 (he : iEv mX7_whereOf [.ref p, .int x0] h (some (.int rv)) h2) (ho : iObj h p 7 = true) : iWp 3 mX8_passDay 14 [a0, a1, a2, a3, a4, a5] [.int x0, .ref p] h Q = iWp 3 mX8_passDay 17 [a0, a1, a2, a3, a4, a5] [.int rv] h2 Q := iWp_cV dX8_passDay_14 fK_8_155 rfl rfl ho (Nat.le_of_ble_eq_true rfl) (Nat.le_of_ble_eq_true rfl) rfl (Nat.le_of_ble_eq_true rfl) he rfl
theorem X8_passDay_17 : iWp d mX8_passDay 17 [a0, a1, a2, a3, a4, a5] (.int x :: st) h Q = iWp d mX8_passDay 18 [a0, a1, iClr a2, .int x, a4, a5] st h Q := w_istore_n dX8_passDay_17 (Nat.le_of_ble_eq_true rfl) rfl
theorem X8_passDay_18 : iWp d mX8_passDay 18 [a0, a1, a2, .int x, a4, a5] st h Q = iWp d mX8_passDay 19 [a0, a1, a2, .int x, a4, a5] (.int x :: st) h Q := w_iload_n dX8_passDay_18 rfl
theorem X8_passDay_19 : iWp d mX8_passDay 19 [a0, a1, a2, a3, a4, a5] st h Q = iWp d mX8_passDay 20 [a0, a1, a2, a3, a4, a5] (.int (-1) :: st) h Q := w_iconst dX8_passDay_19 rfl
theorem X8_passDay_20 : iWp d mX8_passDay 20 [a0, a1, a2, a3, a4, a5] (.int y :: .int x :: st) h Q = if x = y then iWp d mX8_passDay 23 [a0, a1, a2, a3, a4, a5] st h Q else iWp d mX8_passDay 81 [a0, a1, a2, a3, a4, a5] st h Q := w_icmp_ne dX8_passDay_20 rfl
theorem X8_passDay_23 : iWp d mX8_passDay 23 [a0, .ref p, a2, a3, a4, a5] st h Q = iWp d mX8_passDay 24 [a0, .ref p, a2, a3, a4, a5] (.ref p :: st) h Q := w_aload_n dX8_passDay_23 rfl
theorem X8_passDay_23n : iWp d mX8_passDay 23 [a0, .null, a2, a3, a4, a5] st h Q = iWp d mX8_passDay 24 [a0, .null, a2, a3, a4, a5] (.null :: st) h Q := w_aload_nN dX8_passDay_23 rfl
theorem X8_passDay_24 : iWp d mX8_passDay 24 [a0, a1, a2, a3, a4, a5] (.ref p :: st) h Q = iOb (iGet h p 7 3) (fun v => iWp d mX8_passDay 27 [a0, a1, a2, a3, a4, a5] (v :: st) h Q) := w_getf dX8_passDay_24 fF_8_125
theorem X8_passDay_27 : iWp d mX8_passDay 27 [a0, a1, a2, a3, a4, a5] st h Q = iWp d mX8_passDay 29 [a0, a1, a2, a3, a4, a5] (.int 40 :: st) h Q := w_bipush dX8_passDay_27 rfl
theorem X8_passDay_29 : iWp d mX8_passDay 29 [a0, a1, a2, a3, a4, a5] (.int y :: .int x :: st) h Q = if y ≤ x then iWp d mX8_passDay 129 [a0, a1, a2, a3, a4, a5] st h Q else iWp d mX8_passDay 32 [a0, a1, a2, a3, a4, a5] st h Q := w_icmp_ge dX8_passDay_29 rfl
theorem X8_passDay_32 : iWp d mX8_passDay 32 [a0, a1, a2, a3, a4, a5] st h Q = iWp d mX8_passDay 34 [a0, a1, a2, a3, a4, a5] (.int 97 :: st) h Q := w_bipush dX8_passDay_32 rfl
theorem X8_passDay_34 : iWp d mX8_passDay 34 [.ref p, a1, a2, a3, a4, a5] st h Q = iWp d mX8_passDay 35 [.ref p, a1, a2, a3, a4, a5] (.ref p :: st) h Q := w_aload_n dX8_passDay_34 rfl
theorem X8_passDay_35 : iWp d mX8_passDay 35 [a0, a1, a2, a3, a4, a5] (.ref p :: st) h Q = iOb (iGet h p 8 4) (fun v => iWp d mX8_passDay 38 [a0, a1, a2, a3, a4, a5] (v :: st) h Q) := w_getf dX8_passDay_35 fF_8_32
theorem X8_passDay_38 : iWp d mX8_passDay 38 [a0, a1, a2, a3, a4, a5] st h Q = iWp d mX8_passDay 40 [a0, a1, a2, a3, a4, a5] (.int 26 :: st) h Q := w_bipush dX8_passDay_38 rfl
theorem X8_passDay_40 (he : iEv mX6_draw [.ref p, .int x0] h (some (.int rv)) h2) (ho : iObj h p 6 = true) : iWp 3 mX8_passDay 40 [a0, a1, a2, a3, a4, a5] [.int x0, .ref p, .int r0] h Q = iWp 3 mX8_passDay 43 [a0, a1, a2, a3, a4, a5] [.int rv, .int r0] h2 Q := iWp_cV dX8_passDay_40 fK_8_302 rfl rfl ho (Nat.le_of_ble_eq_true rfl) (Nat.le_of_ble_eq_true rfl) rfl (Nat.le_of_ble_eq_true rfl) he rfl
theorem X8_passDay_43 : iWp d mX8_passDay 43 [a0, a1, a2, a3, a4, a5] (.int y :: .int x :: st) h Q = iWp d mX8_passDay 44 [a0, a1, a2, a3, a4, a5] (.int (x + y) :: st) h Q := w_iadd dX8_passDay_43
theorem X8_passDay_44 : iWp d mX8_passDay 44 [a0, a1, a2, a3, a4, a5] (.int x :: st) h Q = iWp d mX8_passDay 46 [a0, a1, a2, iClr a3, .int x, a5] st h Q := w_istore dX8_passDay_44 (Nat.le_of_ble_eq_true rfl) rfl
theorem X8_passDay_46 : iWp d mX8_passDay 46 [.ref p, a1, a2, a3, a4, a5] st h Q = iWp d mX8_passDay 47 [.ref p, a1, a2, a3, a4, a5] (.ref p :: st) h Q := w_aload_n dX8_passDay_46 rfl
theorem X8_passDay_47 : iWp d mX8_passDay 47 [a0, a1, a2, a3, a4, a5] (.ref p :: st) h Q = iOb (iGet h p 8 4) (fun v => iWp d mX8_passDay 50 [a0, a1, a2, a3, a4, a5] (v :: st) h Q) := w_getf dX8_passDay_47 fF_8_32
theorem X8_passDay_50 : iWp d mX8_passDay 50 [a0, .ref p, a2, a3, a4, a5] st h Q = iWp d mX8_passDay 51 [a0, .ref p, a2, a3, a4, a5] (.ref p :: st) h Q := w_aload_n dX8_passDay_50 rfl
theorem X8_passDay_50n : iWp d mX8_passDay 50 [a0, .null, a2, a3, a4, a5] st h Q = iWp d mX8_passDay 51 [a0, .null, a2, a3, a4, a5] (.null :: st) h Q := w_aload_nN dX8_passDay_50 rfl
theorem X8_passDay_51 : iWp d mX8_passDay 51 [a0, a1, a2, a3, a4, a5] (.ref p :: st) h Q = iOb (iGet h p 7 3) (fun v => iWp d mX8_passDay 54 [a0, a1, a2, a3, a4, a5] (v :: st) h Q) := w_getf dX8_passDay_51 fF_8_125
theorem X8_passDay_54 (he : iEv mX6_draw [.ref p, .int x0] h (some (.int rv)) h2) (ho : iObj h p 6 = true) : iWp 3 mX8_passDay 54 [a0, a1, a2, a3, a4, a5] [.int x0, .ref p] h Q = iWp 3 mX8_passDay 57 [a0, a1, a2, a3, a4, a5] [.int rv] h2 Q := iWp_cV dX8_passDay_54 fK_8_302 rfl rfl ho (Nat.le_of_ble_eq_true rfl) (Nat.le_of_ble_eq_true rfl) rfl (Nat.le_of_ble_eq_true rfl) he rfl
theorem X8_passDay_57 : iWp d mX8_passDay 57 [a0, a1, a2, a3, a4, a5] (.int x :: st) h Q = iWp d mX8_passDay 59 [a0, a1, a2, a3, iClr a4, .int x] st h Q := w_istore dX8_passDay_57 (Nat.le_of_ble_eq_true rfl) rfl
theorem X8_passDay_59 : iWp d mX8_passDay 59 [a0, .ref p, a2, a3, a4, a5] st h Q = iWp d mX8_passDay 60 [a0, .ref p, a2, a3, a4, a5] (.ref p :: st) h Q := w_aload_n dX8_passDay_59 rfl
theorem X8_passDay_59n : iWp d mX8_passDay 59 [a0, .null, a2, a3, a4, a5] st h Q = iWp d mX8_passDay 60 [a0, .null, a2, a3, a4, a5] (.null :: st) h Q := w_aload_nN dX8_passDay_59 rfl
theorem X8_passDay_60 : iWp d mX8_passDay 60 [a0, a1, a2, a3, a4, .int x] st h Q = iWp d mX8_passDay 62 [a0, a1, a2, a3, a4, .int x] (.int x :: st) h Q := w_iload dX8_passDay_60 rfl
theorem X8_passDay_62 : iWp d mX8_passDay 62 [a0, a1, a2, a3, a4, a5] st h Q = iWp d mX8_passDay 63 [a0, a1, a2, a3, a4, a5] (.int 1 :: st) h Q := w_iconst dX8_passDay_62 rfl
theorem X8_passDay_63 : iWp d mX8_passDay 63 [a0, a1, a2, a3, a4, a5] (.int y :: .int x :: st) h Q = iWp d mX8_passDay 64 [a0, a1, a2, a3, a4, a5] (.int (x + y) :: st) h Q := w_iadd dX8_passDay_63
theorem X8_passDay_64 : iWp d mX8_passDay 64 [a0, a1, .int x, a3, a4, a5] st h Q = iWp d mX8_passDay 65 [a0, a1, .int x, a3, a4, a5] (.int x :: st) h Q := w_iload_n dX8_passDay_64 rfl
theorem X8_passDay_65 : iWp d mX8_passDay 65 [a0, a1, a2, a3, .int x, a5] st h Q = iWp d mX8_passDay 67 [a0, a1, a2, a3, .int x, a5] (.int x :: st) h Q := w_iload dX8_passDay_65 rfl
theorem X8_passDay_67 : iWp d mX8_passDay 67 [a0, .ref p, a2, a3, a4, a5] st h Q = iWp d mX8_passDay 68 [a0, .ref p, a2, a3, a4, a5] (.ref p :: st) h Q := w_aload_n dX8_passDay_67 rfl
theorem X8_passDay_67n : iWp d mX8_passDay 67 [a0, .null, a2, a3, a4, a5] st h Q = iWp d mX8_passDay 68 [a0, .null, a2, a3, a4, a5] (.null :: st) h Q := w_aload_nN dX8_passDay_67 rfl
theorem X8_passDay_68 : iWp d mX8_passDay 68 [a0, a1, a2, a3, a4, .int x] st h Q = iWp d mX8_passDay 70 [a0, a1, a2, a3, a4, .int x] (.int x :: st) h Q := w_iload dX8_passDay_68 rfl
theorem X8_passDay_70 (he : iEv mX7_depthAt [.ref p, .int x0] h (some (.int rv)) h2) (ho : iObj h p 7 = true) : iWp 3 mX8_passDay 70 [a0, a1, a2, a3, a4, a5] [.int x0, .ref p, .int r0, .int r1, .int r2, .ref t3] h Q = iWp 3 mX8_passDay 73 [a0, a1, a2, a3, a4, a5] [.int rv, .int r0, .int r1, .int r2, .ref t3] h2 Q := iWp_cV dX8_passDay_70 fK_8_146 rfl rfl ho (Nat.le_of_ble_eq_true rfl) (Nat.le_of_ble_eq_true rfl) rfl (Nat.le_of_ble_eq_true rfl) he rfl
theorem X8_passDay_73 : iWp d mX8_passDay 73 [a0, a1, a2, a3, a4, a5] st h Q = iWp d mX8_passDay 74 [a0, a1, a2, a3, a4, a5] (.int 1 :: st) h Q := w_iconst dX8_passDay_73 rfl
theorem X8_passDay_74 : iWp d mX8_passDay 74 [a0, a1, a2, a3, a4, a5] (.int y :: .int x :: st) h Q = iWp d mX8_passDay 75 [a0, a1, a2, a3, a4, a5] (.int (x + y) :: st) h Q := w_iadd dX8_passDay_74
theorem X8_passDay_75 (he : iEv mX7_insert [.ref p, .int x0, .int x1, .int x2, .int x3] h none h2) (ho : iObj h p 7 = true) : iWp 3 mX8_passDay 75 [a0, a1, a2, a3, a4, a5] [.int x3, .int x2, .int x1, .int x0, .ref p] h Q = iWp 3 mX8_passDay 78 [a0, a1, a2, a3, a4, a5] [] h2 Q := iWp_cV dX8_passDay_75 fK_8_305 rfl rfl ho (Nat.le_of_ble_eq_true rfl) (Nat.le_of_ble_eq_true rfl) rfl (Nat.le_of_ble_eq_true rfl) he rfl
theorem X8_passDay_78 : iWp d mX8_passDay 78 [a0, a1, a2, a3, a4, a5] st h Q = iWp d mX8_passDay 129 [a0, a1, a2, a3, a4, a5] st h Q := w_goto dX8_passDay_78 rfl
theorem X8_passDay_81 : iWp d mX8_passDay 81 [a0, a1, a2, .int x, a4, a5] st h Q = iWp d mX8_passDay 82 [a0, a1, a2, .int x, a4, a5] (.int x :: st) h Q := w_iload_n dX8_passDay_81 rfl
theorem X8_passDay_82 : iWp d mX8_passDay 82 [a0, a1, a2, a3, a4, a5] (.int x :: st) h Q = if x = 0 then iWp d mX8_passDay 112 [a0, a1, a2, a3, a4, a5] st h Q else iWp d mX8_passDay 85 [a0, a1, a2, a3, a4, a5] st h Q := w_ifc_eq dX8_passDay_82 rfl
theorem X8_passDay_85 : iWp d mX8_passDay 85 [a0, .ref p, a2, a3, a4, a5] st h Q = iWp d mX8_passDay 86 [a0, .ref p, a2, a3, a4, a5] (.ref p :: st) h Q := w_aload_n dX8_passDay_85 rfl
theorem X8_passDay_85n : iWp d mX8_passDay 85 [a0, .null, a2, a3, a4, a5] st h Q = iWp d mX8_passDay 86 [a0, .null, a2, a3, a4, a5] (.null :: st) h Q := w_aload_nN dX8_passDay_85 rfl
theorem X8_passDay_86 : iWp d mX8_passDay 86 [a0, a1, a2, .int x, a4, a5] st h Q = iWp d mX8_passDay 87 [a0, a1, a2, .int x, a4, a5] (.int x :: st) h Q := w_iload_n dX8_passDay_86 rfl
theorem X8_passDay_87 (he : iEv mX7_childCount [.ref p, .int x0] h (some (.int rv)) h2) (ho : iObj h p 7 = true) : iWp 3 mX8_passDay 87 [a0, a1, a2, a3, a4, a5] [.int x0, .ref p] h Q = iWp 3 mX8_passDay 90 [a0, a1, a2, a3, a4, a5] [.int rv] h2 Q := iWp_cV dX8_passDay_87 fK_8_143 rfl rfl ho (Nat.le_of_ble_eq_true rfl) (Nat.le_of_ble_eq_true rfl) rfl (Nat.le_of_ble_eq_true rfl) he rfl
theorem X8_passDay_90 : iWp d mX8_passDay 90 [a0, a1, a2, a3, a4, a5] (.int x :: st) h Q = if x = 0 then iWp d mX8_passDay 93 [a0, a1, a2, a3, a4, a5] st h Q else iWp d mX8_passDay 112 [a0, a1, a2, a3, a4, a5] st h Q := w_ifc_ne dX8_passDay_90 rfl
theorem X8_passDay_93 : iWp d mX8_passDay 93 [.ref p, a1, a2, a3, a4, a5] st h Q = iWp d mX8_passDay 94 [.ref p, a1, a2, a3, a4, a5] (.ref p :: st) h Q := w_aload_n dX8_passDay_93 rfl
theorem X8_passDay_94 : iWp d mX8_passDay 94 [a0, a1, a2, a3, a4, a5] (.ref p :: st) h Q = iOb (iGet h p 8 4) (fun v => iWp d mX8_passDay 97 [a0, a1, a2, a3, a4, a5] (v :: st) h Q) := w_getf dX8_passDay_94 fF_8_32
theorem X8_passDay_97 : iWp d mX8_passDay 97 [a0, a1, a2, a3, a4, a5] st h Q = iWp d mX8_passDay 98 [a0, a1, a2, a3, a4, a5] (.int 2 :: st) h Q := w_iconst dX8_passDay_97 rfl
theorem X8_passDay_98 (he : iEv mX6_draw [.ref p, .int x0] h (some (.int rv)) h2) (ho : iObj h p 6 = true) : iWp 3 mX8_passDay 98 [a0, a1, a2, a3, a4, a5] [.int x0, .ref p] h Q = iWp 3 mX8_passDay 101 [a0, a1, a2, a3, a4, a5] [.int rv] h2 Q := iWp_cV dX8_passDay_98 fK_8_302 rfl rfl ho (Nat.le_of_ble_eq_true rfl) (Nat.le_of_ble_eq_true rfl) rfl (Nat.le_of_ble_eq_true rfl) he rfl
theorem X8_passDay_101 : iWp d mX8_passDay 101 [a0, a1, a2, a3, a4, a5] (.int x :: st) h Q = if x = 0 then iWp d mX8_passDay 104 [a0, a1, a2, a3, a4, a5] st h Q else iWp d mX8_passDay 112 [a0, a1, a2, a3, a4, a5] st h Q := w_ifc_ne dX8_passDay_101 rfl
theorem X8_passDay_104 : iWp d mX8_passDay 104 [a0, .ref p, a2, a3, a4, a5] st h Q = iWp d mX8_passDay 105 [a0, .ref p, a2, a3, a4, a5] (.ref p :: st) h Q := w_aload_n dX8_passDay_104 rfl
theorem X8_passDay_104n : iWp d mX8_passDay 104 [a0, .null, a2, a3, a4, a5] st h Q = iWp d mX8_passDay 105 [a0, .null, a2, a3, a4, a5] (.null :: st) h Q := w_aload_nN dX8_passDay_104 rfl
theorem X8_passDay_105 : iWp d mX8_passDay 105 [a0, a1, a2, .int x, a4, a5] st h Q = iWp d mX8_passDay 106 [a0, a1, a2, .int x, a4, a5] (.int x :: st) h Q := w_iload_n dX8_passDay_105 rfl
theorem X8_passDay_106 (he : iEv mX7_remove [.ref p, .int x0] h none h2) (ho : iObj h p 7 = true) : iWp 3 mX8_passDay 106 [a0, a1, a2, a3, a4, a5] [.int x0, .ref p] h Q = iWp 3 mX8_passDay 109 [a0, a1, a2, a3, a4, a5] [] h2 Q := iWp_cV dX8_passDay_106 fK_8_309 rfl rfl ho (Nat.le_of_ble_eq_true rfl) (Nat.le_of_ble_eq_true rfl) rfl (Nat.le_of_ble_eq_true rfl) he rfl
theorem X8_passDay_109 : iWp d mX8_passDay 109 [a0, a1, a2, a3, a4, a5] st h Q = iWp d mX8_passDay 129 [a0, a1, a2, a3, a4, a5] st h Q := w_goto dX8_passDay_109 rfl
theorem X8_passDay_112 : iWp d mX8_passDay 112 [a0, .ref p, a2, a3, a4, a5] st h Q = iWp d mX8_passDay 113 [a0, .ref p, a2, a3, a4, a5] (.ref p :: st) h Q := w_aload_n dX8_passDay_112 rfl
theorem X8_passDay_112n : iWp d mX8_passDay 112 [a0, .null, a2, a3, a4, a5] st h Q = iWp d mX8_passDay 113 [a0, .null, a2, a3, a4, a5] (.null :: st) h Q := w_aload_nN dX8_passDay_112 rfl
theorem X8_passDay_113 : iWp d mX8_passDay 113 [a0, a1, a2, .int x, a4, a5] st h Q = iWp d mX8_passDay 114 [a0, a1, a2, .int x, a4, a5] (.int x :: st) h Q := w_iload_n dX8_passDay_113 rfl
theorem X8_passDay_114 : iWp d mX8_passDay 114 [a0, a1, a2, a3, a4, a5] st h Q = iWp d mX8_passDay 116 [a0, a1, a2, a3, a4, a5] (.int 97 :: st) h Q := w_bipush dX8_passDay_114 rfl
theorem X8_passDay_116 : iWp d mX8_passDay 116 [.ref p, a1, a2, a3, a4, a5] st h Q = iWp d mX8_passDay 117 [.ref p, a1, a2, a3, a4, a5] (.ref p :: st) h Q := w_aload_n dX8_passDay_116 rfl
theorem X8_passDay_117 : iWp d mX8_passDay 117 [a0, a1, a2, a3, a4, a5] (.ref p :: st) h Q = iOb (iGet h p 8 4) (fun v => iWp d mX8_passDay 120 [a0, a1, a2, a3, a4, a5] (v :: st) h Q) := w_getf dX8_passDay_117 fF_8_32
theorem X8_passDay_120 : iWp d mX8_passDay 120 [a0, a1, a2, a3, a4, a5] st h Q = iWp d mX8_passDay 122 [a0, a1, a2, a3, a4, a5] (.int 26 :: st) h Q := w_bipush dX8_passDay_120 rfl
theorem X8_passDay_122 (he : iEv mX6_draw [.ref p, .int x0] h (some (.int rv)) h2) (ho : iObj h p 6 = true) : iWp 3 mX8_passDay 122 [a0, a1, a2, a3, a4, a5] [.int x0, .ref p, .int r0, .int r1, .ref t2] h Q = iWp 3 mX8_passDay 125 [a0, a1, a2, a3, a4, a5] [.int rv, .int r0, .int r1, .ref t2] h2 Q := iWp_cV dX8_passDay_122 fK_8_302 rfl rfl ho (Nat.le_of_ble_eq_true rfl) (Nat.le_of_ble_eq_true rfl) rfl (Nat.le_of_ble_eq_true rfl) he rfl
theorem X8_passDay_125 : iWp d mX8_passDay 125 [a0, a1, a2, a3, a4, a5] (.int y :: .int x :: st) h Q = iWp d mX8_passDay 126 [a0, a1, a2, a3, a4, a5] (.int (x + y) :: st) h Q := w_iadd dX8_passDay_125
theorem X8_passDay_126 (he : iEv mX7_rename [.ref p, .int x0, .int x1] h none h2) (ho : iObj h p 7 = true) : iWp 3 mX8_passDay 126 [a0, a1, a2, a3, a4, a5] [.int x1, .int x0, .ref p] h Q = iWp 3 mX8_passDay 129 [a0, a1, a2, a3, a4, a5] [] h2 Q := iWp_cV dX8_passDay_126 fK_8_313 rfl rfl ho (Nat.le_of_ble_eq_true rfl) (Nat.le_of_ble_eq_true rfl) rfl (Nat.le_of_ble_eq_true rfl) he rfl
theorem X8_passDay_129 : iWp d mX8_passDay 129 [a0, a1, a2, a3, a4, a5] [] h Q = Q none h := w_ret dX8_passDay_129 rfl
theorem I8_passDay {Q : Option Value → iHp → Prop} (c0 : b0.category = 1) (hw : iWp 3 mX8_passDay 0 [.ref p, b0, iU, iU, iU, iU] [] h Q) : ∃ r h1, iEv mX8_passDay [.ref p, b0] h r h1 ∧ Q r h1 := iEv_of (by rfl) (by simp [iInit, cat_i, cat_r, cat_l, mX8_passDay, c0]) hw
theorem J8_passDay {r : Option Value} {h1 : iHp} (c0 : b0.category = 1) (hw : iWp 3 mX8_passDay 0 [.ref p, b0, iU, iU, iU, iU] [] h (fun r' h' => r' = r ∧ h' = h1)) : iEv mX8_passDay [.ref p, b0] h r h1 := iEv_ev (by rfl) (by simp [iInit, cat_i, cat_r, cat_l, mX8_passDay, c0]) hw
theorem X8_patchAt_0 : iWp d mX8_patchAt 0 [.ref p, a1] st h Q = iWp d mX8_patchAt 1 [.ref p, a1] (.ref p :: st) h Q := w_aload_n dX8_patchAt_0 rfl
theorem X8_patchAt_1 : iWp d mX8_patchAt 1 [a0, a1] (.ref p :: st) h Q = iOb (iGet h p 8 4) (fun v => iWp d mX8_patchAt 4 [a0, a1] (v :: st) h Q) := w_getf dX8_patchAt_1 fF_8_32
theorem X8_patchAt_4 : iWp d mX8_patchAt 4 [a0, .int x] st h Q = iWp d mX8_patchAt 5 [a0, .int x] (.int x :: st) h Q := w_iload_n dX8_patchAt_4 rfl
theorem X8_patchAt_5 (he : iEv mX6_patchAt [.ref p, .int x0] h (some rw) h2) (ho : iObj h p 6 = true) : iWp 2 mX8_patchAt 5 [a0, a1] [.int x0, .ref p] h Q = iWp 2 mX8_patchAt 8 [a0, a1] [rw] h2 Q := iWp_cV dX8_patchAt_5 fK_8_294 rfl rfl ho (Nat.le_of_ble_eq_true rfl) (Nat.le_of_ble_eq_true rfl) rfl (Nat.le_of_ble_eq_true rfl) he rfl
theorem X8_patchAt_8 : iWp d mX8_patchAt 8 [a0, a1] [.ref p] h Q = Q (some (.ref p)) h := w_aret dX8_patchAt_8 rfl
theorem X8_patchAt_8n : iWp d mX8_patchAt 8 [a0, a1] [.null] h Q = Q (some .null) h := w_aretN dX8_patchAt_8 rfl
theorem I8_patchAt {Q : Option Value → iHp → Prop} (hw : iWp 2 mX8_patchAt 0 [.ref p, .int x0] [] h Q) : ∃ r h1, iEv mX8_patchAt [.ref p, .int x0] h r h1 ∧ Q r h1 := iEv_of (by rfl) rfl hw
theorem J8_patchAt {r : Option Value} {h1 : iHp} (hw : iWp 2 mX8_patchAt 0 [.ref p, .int x0] [] h (fun r' h' => r' = r ∧ h' = h1)) : iEv mX8_patchAt [.ref p, .int x0] h r h1 := iEv_ev (by rfl) rfl hw
theorem X8_patchOf_0 : iWp d mX8_patchOf 0 [.ref p, a1, a2, a3] st h Q = iWp d mX8_patchOf 1 [.ref p, a1, a2, a3] (.ref p :: st) h Q := w_aload_n dX8_patchOf_0 rfl
theorem X8_patchOf_1 : iWp d mX8_patchOf 1 [a0, .int x, a2, a3] st h Q = iWp d mX8_patchOf 2 [a0, .int x, a2, a3] (.int x :: st) h Q := w_iload_n dX8_patchOf_1 rfl
theorem X8_patchOf_2 (he : iEv mX8_patchAt [.ref p, .int x0] h (some rw) h2) (ho : iObj h p 8 = true) : iWp 3 mX8_patchOf 2 [a0, a1, a2, a3] [.int x0, .ref p] h Q = iWp 3 mX8_patchOf 5 [a0, a1, a2, a3] [rw] h2 Q := iWp_cV dX8_patchOf_2 fK_8_92 rfl rfl ho (Nat.le_of_ble_eq_true rfl) (Nat.le_of_ble_eq_true rfl) rfl (Nat.le_of_ble_eq_true rfl) he rfl
theorem X8_patchOf_5 : iWp d mX8_patchOf 5 [a0, a1, a2, a3] (.ref p :: st) h Q = iWp d mX8_patchOf 6 [a0, a1, iClr a2, .ref p] st h Q := w_astore_n dX8_patchOf_5 (Nat.le_of_ble_eq_true rfl) rfl
theorem X8_patchOf_5n : iWp d mX8_patchOf 5 [a0, a1, a2, a3] (.null :: st) h Q = iWp d mX8_patchOf 6 [a0, a1, iClr a2, .null] st h Q := w_astore_nN dX8_patchOf_5 (Nat.le_of_ble_eq_true rfl) rfl
theorem X8_patchOf_6 : iWp d mX8_patchOf 6 [a0, a1, a2, .ref p] st h Q = iWp d mX8_patchOf 7 [a0, a1, a2, .ref p] (.ref p :: st) h Q := w_aload_n dX8_patchOf_6 rfl
theorem X8_patchOf_6n : iWp d mX8_patchOf 6 [a0, a1, a2, .null] st h Q = iWp d mX8_patchOf 7 [a0, a1, a2, .null] (.null :: st) h Q := w_aload_nN dX8_patchOf_6 rfl
theorem X8_patchOf_7 : iWp d mX8_patchOf 7 [a0, a1, a2, a3] (.ref p :: st) h Q = iWp d mX8_patchOf 10 [a0, a1, a2, a3] st h Q := w_ifnull dX8_patchOf_7
theorem X8_patchOf_7n : iWp d mX8_patchOf 7 [a0, a1, a2, a3] (.null :: st) h Q = iWp d mX8_patchOf 19 [a0, a1, a2, a3] st h Q := w_ifnullN dX8_patchOf_7 rfl
theorem X8_patchOf_10 : iWp d mX8_patchOf 10 [a0, a1, .int x, a3] st h Q = iWp d mX8_patchOf 11 [a0, a1, .int x, a3] (.int x :: st) h Q := w_iload_n dX8_patchOf_10 rfl
theorem X8_patchOf_11 : iWp d mX8_patchOf 11 [a0, a1, a2, a3] (.int x :: st) h Q = if x < 0 then iWp d mX8_patchOf 19 [a0, a1, a2, a3] st h Q else iWp d mX8_patchOf 14 [a0, a1, a2, a3] st h Q := w_ifc_lt dX8_patchOf_11 rfl
theorem X8_patchOf_14 : iWp d mX8_patchOf 14 [a0, a1, .int x, a3] st h Q = iWp d mX8_patchOf 15 [a0, a1, .int x, a3] (.int x :: st) h Q := w_iload_n dX8_patchOf_14 rfl
theorem X8_patchOf_15 : iWp d mX8_patchOf 15 [a0, a1, a2, a3] st h Q = iWp d mX8_patchOf 16 [a0, a1, a2, a3] (.int 5 :: st) h Q := w_iconst dX8_patchOf_15 rfl
theorem X8_patchOf_16 : iWp d mX8_patchOf 16 [a0, a1, a2, a3] (.int y :: .int x :: st) h Q = if x ≤ y then iWp d mX8_patchOf 26 [a0, a1, a2, a3] st h Q else iWp d mX8_patchOf 19 [a0, a1, a2, a3] st h Q := w_icmp_le dX8_patchOf_16 rfl
theorem X8_patchOf_19 : iWp d mX8_patchOf 19 [.ref p, a1, a2, a3] st h Q = iWp d mX8_patchOf 20 [.ref p, a1, a2, a3] (.ref p :: st) h Q := w_aload_n dX8_patchOf_19 rfl
theorem X8_patchOf_20 : iWp d mX8_patchOf 20 [a0, a1, a2, a3] st h Q = iWp d mX8_patchOf 22 [a0, a1, a2, a3] (.int (-5) :: st) h Q := w_bipush dX8_patchOf_20 rfl
theorem X8_patchOf_22 (he : iEv mX8_refuse [.ref p, .int x0] h (some (.int rv)) h2) (ho : iObj h p 8 = true) : iWp 3 mX8_patchOf 22 [a0, a1, a2, a3] [.int x0, .ref p] h Q = iWp 3 mX8_patchOf 25 [a0, a1, a2, a3] [.int rv] h2 Q := iWp_cV dX8_patchOf_22 fK_8_50 rfl rfl ho (Nat.le_of_ble_eq_true rfl) (Nat.le_of_ble_eq_true rfl) rfl (Nat.le_of_ble_eq_true rfl) he rfl
theorem X8_patchOf_25 : iWp d mX8_patchOf 25 [a0, a1, a2, a3] [.int x] h Q = Q (some (.int x)) h := w_ireti dX8_patchOf_25 rfl
theorem X8_patchOf_26 : iWp d mX8_patchOf 26 [a0, a1, .int x, a3] st h Q = iWp d mX8_patchOf 27 [a0, a1, .int x, a3] (.int x :: st) h Q := w_iload_n dX8_patchOf_26 rfl
theorem X8_patchOf_27 : iWp d mX8_patchOf 27 [a0, a1, a2, a3] (.int x :: st) h Q = if x = 0 then iWp d mX8_patchOf 30 [a0, a1, a2, a3] st h Q else iWp d mX8_patchOf 35 [a0, a1, a2, a3] st h Q := w_ifc_ne dX8_patchOf_27 rfl
theorem X8_patchOf_30 : iWp d mX8_patchOf 30 [a0, a1, a2, .ref p] st h Q = iWp d mX8_patchOf 31 [a0, a1, a2, .ref p] (.ref p :: st) h Q := w_aload_n dX8_patchOf_30 rfl
theorem X8_patchOf_30n : iWp d mX8_patchOf 30 [a0, a1, a2, .null] st h Q = iWp d mX8_patchOf 31 [a0, a1, a2, .null] (.null :: st) h Q := w_aload_nN dX8_patchOf_30 rfl
theorem X8_patchOf_31 (he : iEv mX3_size [.ref p] h (some (.int rv)) h2) (ho : iObj h p 3 = true) : iWp 3 mX8_patchOf 31 [a0, a1, a2, a3] [.ref p] h Q = iWp 3 mX8_patchOf 34 [a0, a1, a2, a3] [.int rv] h2 Q := iWp_cV dX8_patchOf_31 fK_8_188 rfl rfl ho (Nat.le_of_ble_eq_true rfl) (Nat.le_of_ble_eq_true rfl) rfl (Nat.le_of_ble_eq_true rfl) he rfl
theorem X8_patchOf_34 : iWp d mX8_patchOf 34 [a0, a1, a2, a3] [.int x] h Q = Q (some (.int x)) h := w_ireti dX8_patchOf_34 rfl
theorem X8_patchOf_35 : iWp d mX8_patchOf 35 [a0, a1, .int x, a3] st h Q = iWp d mX8_patchOf 36 [a0, a1, .int x, a3] (.int x :: st) h Q := w_iload_n dX8_patchOf_35 rfl
theorem X8_patchOf_36 : iWp d mX8_patchOf 36 [a0, a1, a2, a3] st h Q = iWp d mX8_patchOf 37 [a0, a1, a2, a3] (.int 1 :: st) h Q := w_iconst dX8_patchOf_36 rfl
theorem X8_patchOf_37 : iWp d mX8_patchOf 37 [a0, a1, a2, a3] (.int y :: .int x :: st) h Q = if x = y then iWp d mX8_patchOf 40 [a0, a1, a2, a3] st h Q else iWp d mX8_patchOf 47 [a0, a1, a2, a3] st h Q := w_icmp_ne dX8_patchOf_37 rfl
theorem X8_patchOf_40 : iWp d mX8_patchOf 40 [a0, a1, a2, .ref p] st h Q = iWp d mX8_patchOf 41 [a0, a1, a2, .ref p] (.ref p :: st) h Q := w_aload_n dX8_patchOf_40 rfl
theorem X8_patchOf_40n : iWp d mX8_patchOf 40 [a0, a1, a2, .null] st h Q = iWp d mX8_patchOf 41 [a0, a1, a2, .null] (.null :: st) h Q := w_aload_nN dX8_patchOf_40 rfl
theorem X8_patchOf_41 : iWp d mX8_patchOf 41 [a0, a1, a2, a3] (.ref p :: st) h Q = iOb (iGet h p 3 0) (fun v => iWp d mX8_patchOf 44 [a0, a1, a2, a3] (v :: st) h Q) := w_getf dX8_patchOf_41 fF_8_190
theorem X8_patchOf_44 : iWp d mX8_patchOf 44 [a0, a1, a2, a3] st h Q = iWp d mX8_patchOf 54 [a0, a1, a2, a3] st h Q := w_goto dX8_patchOf_44 rfl
theorem X8_patchOf_47 : iWp d mX8_patchOf 47 [a0, a1, a2, .ref p] st h Q = iWp d mX8_patchOf 48 [a0, a1, a2, .ref p] (.ref p :: st) h Q := w_aload_n dX8_patchOf_47 rfl
theorem X8_patchOf_47n : iWp d mX8_patchOf 47 [a0, a1, a2, .null] st h Q = iWp d mX8_patchOf 48 [a0, a1, a2, .null] (.null :: st) h Q := w_aload_nN dX8_patchOf_47 rfl
theorem X8_patchOf_48 : iWp d mX8_patchOf 48 [a0, a1, .int x, a3] st h Q = iWp d mX8_patchOf 49 [a0, a1, .int x, a3] (.int x :: st) h Q := w_iload_n dX8_patchOf_48 rfl
theorem X8_patchOf_49 : iWp d mX8_patchOf 49 [a0, a1, a2, a3] st h Q = iWp d mX8_patchOf 50 [a0, a1, a2, a3] (.int 2 :: st) h Q := w_iconst dX8_patchOf_49 rfl
theorem X8_patchOf_50 : iWp d mX8_patchOf 50 [a0, a1, a2, a3] (.int y :: .int x :: st) h Q = iWp d mX8_patchOf 51 [a0, a1, a2, a3] (.int (x - y) :: st) h Q := w_isub dX8_patchOf_50
theorem X8_patchOf_51 (he : iEv mX3_countOf [.ref p, .int x0] h (some (.int rv)) h2) (ho : iObj h p 3 = true) : iWp 3 mX8_patchOf 51 [a0, a1, a2, a3] [.int x0, .ref p] h Q = iWp 3 mX8_patchOf 54 [a0, a1, a2, a3] [.int rv] h2 Q := iWp_cV dX8_patchOf_51 fK_8_193 rfl rfl ho (Nat.le_of_ble_eq_true rfl) (Nat.le_of_ble_eq_true rfl) rfl (Nat.le_of_ble_eq_true rfl) he rfl
theorem X8_patchOf_54 : iWp d mX8_patchOf 54 [a0, a1, a2, a3] [.int x] h Q = Q (some (.int x)) h := w_ireti dX8_patchOf_54 rfl
theorem I8_patchOf {Q : Option Value → iHp → Prop} (hw : iWp 3 mX8_patchOf 0 [.ref p, .int x0, .int x1, iU] [] h Q) : ∃ r h1, iEv mX8_patchOf [.ref p, .int x0, .int x1] h r h1 ∧ Q r h1 := iEv_of (by rfl) rfl hw
theorem J8_patchOf {r : Option Value} {h1 : iHp} (hw : iWp 3 mX8_patchOf 0 [.ref p, .int x0, .int x1, iU] [] h (fun r' h' => r' = r ∧ h' = h1)) : iEv mX8_patchOf [.ref p, .int x0, .int x1] h r h1 := iEv_ev (by rfl) rfl hw
theorem X8_put_0 : iWp d mX8_put 0 [.ref p, a1, a2, a3, a4, a5, a6, a7] st h Q = iWp d mX8_put 1 [.ref p, a1, a2, a3, a4, a5, a6, a7] (.ref p :: st) h Q := w_aload_n dX8_put_0 rfl
theorem X8_put_1 : iWp d mX8_put 1 [a0, .int x, a2, a3, a4, a5, a6, a7] st h Q = iWp d mX8_put 2 [a0, .int x, a2, a3, a4, a5, a6, a7] (.int x :: st) h Q := w_iload_n dX8_put_1 rfl
theorem X8_put_2 (he : iEv mX8_treeAt [.ref p, .int x0] h (some rw) h2) (ho : iObj h p 8 = true) : iWp 6 mX8_put 2 [a0, a1, a2, a3, a4, a5, a6, a7] [.int x0, .ref p] h Q = iWp 6 mX8_put 5 [a0, a1, a2, a3, a4, a5, a6, a7] [rw] h2 Q := iWp_cV dX8_put_2 fK_8_121 rfl rfl ho (Nat.le_of_ble_eq_true rfl) (Nat.le_of_ble_eq_true rfl) rfl (Nat.le_of_ble_eq_true rfl) he rfl
theorem X8_put_5 : iWp d mX8_put 5 [a0, a1, a2, a3, a4, a5, a6, a7] (.ref p :: st) h Q = iWp d mX8_put 7 [a0, a1, a2, a3, iClr a4, .ref p, a6, a7] st h Q := w_astore dX8_put_5 (Nat.le_of_ble_eq_true rfl) rfl
theorem X8_put_5n : iWp d mX8_put 5 [a0, a1, a2, a3, a4, a5, a6, a7] (.null :: st) h Q = iWp d mX8_put 7 [a0, a1, a2, a3, iClr a4, .null, a6, a7] st h Q := w_astoreN dX8_put_5 (Nat.le_of_ble_eq_true rfl) rfl
theorem X8_put_7 : iWp d mX8_put 7 [a0, a1, a2, a3, a4, .ref p, a6, a7] st h Q = iWp d mX8_put 9 [a0, a1, a2, a3, a4, .ref p, a6, a7] (.ref p :: st) h Q := w_aload dX8_put_7 rfl
theorem X8_put_7n : iWp d mX8_put 7 [a0, a1, a2, a3, a4, .null, a6, a7] st h Q = iWp d mX8_put 9 [a0, a1, a2, a3, a4, .null, a6, a7] (.null :: st) h Q := w_aloadN dX8_put_7 rfl
theorem X8_put_9 : iWp d mX8_put 9 [a0, a1, a2, a3, a4, a5, a6, a7] (.ref p :: st) h Q = iWp d mX8_put 18 [a0, a1, a2, a3, a4, a5, a6, a7] st h Q := w_ifnonnull dX8_put_9 rfl
theorem X8_put_9n : iWp d mX8_put 9 [a0, a1, a2, a3, a4, a5, a6, a7] (.null :: st) h Q = iWp d mX8_put 12 [a0, a1, a2, a3, a4, a5, a6, a7] st h Q := w_ifnonnullN dX8_put_9
theorem X8_put_12 : iWp d mX8_put 12 [.ref p, a1, a2, a3, a4, a5, a6, a7] st h Q = iWp d mX8_put 13 [.ref p, a1, a2, a3, a4, a5, a6, a7] (.ref p :: st) h Q := w_aload_n dX8_put_12 rfl
theorem X8_put_13 : iWp d mX8_put 13 [a0, a1, a2, a3, a4, a5, a6, a7] st h Q = iWp d mX8_put 14 [a0, a1, a2, a3, a4, a5, a6, a7] (.int (-1) :: st) h Q := w_iconst dX8_put_13 rfl
theorem X8_put_14 (he : iEv mX8_refuse [.ref p, .int x0] h (some (.int rv)) h2) (ho : iObj h p 8 = true) : iWp 6 mX8_put 14 [a0, a1, a2, a3, a4, a5, a6, a7] [.int x0, .ref p] h Q = iWp 6 mX8_put 17 [a0, a1, a2, a3, a4, a5, a6, a7] [.int rv] h2 Q := iWp_cV dX8_put_14 fK_8_50 rfl rfl ho (Nat.le_of_ble_eq_true rfl) (Nat.le_of_ble_eq_true rfl) rfl (Nat.le_of_ble_eq_true rfl) he rfl
theorem X8_put_17 : iWp d mX8_put 17 [a0, a1, a2, a3, a4, a5, a6, a7] [.int x] h Q = Q (some (.int x)) h := w_ireti dX8_put_17 rfl
theorem X8_put_18 : iWp d mX8_put 18 [a0, a1, a2, a3, a4, .ref p, a6, a7] st h Q = iWp d mX8_put 20 [a0, a1, a2, a3, a4, .ref p, a6, a7] (.ref p :: st) h Q := w_aload dX8_put_18 rfl
theorem X8_put_18n : iWp d mX8_put 18 [a0, a1, a2, a3, a4, .null, a6, a7] st h Q = iWp d mX8_put 20 [a0, a1, a2, a3, a4, .null, a6, a7] (.null :: st) h Q := w_aloadN dX8_put_18 rfl
theorem X8_put_20 : iWp d mX8_put 20 [a0, a1, .int x, a3, a4, a5, a6, a7] st h Q = iWp d mX8_put 21 [a0, a1, .int x, a3, a4, a5, a6, a7] (.int x :: st) h Q := w_iload_n dX8_put_20 rfl
theorem X8_put_21 (he : iEv mX7_whereOf [.ref p, .int x0] h (some (.int rv)) h2) (ho : iObj h p 7 = true) : iWp 6 mX8_put 21 [a0, a1, a2, a3, a4, a5, a6, a7] [.int x0, .ref p] h Q = iWp 6 mX8_put 24 [a0, a1, a2, a3, a4, a5, a6, a7] [.int rv] h2 Q := iWp_cV dX8_put_21 fK_8_155 rfl rfl ho (Nat.le_of_ble_eq_true rfl) (Nat.le_of_ble_eq_true rfl) rfl (Nat.le_of_ble_eq_true rfl) he rfl
theorem X8_put_24 : iWp d mX8_put 24 [a0, a1, a2, a3, a4, a5, a6, a7] (.int x :: st) h Q = iWp d mX8_put 26 [a0, a1, a2, a3, a4, iClr a5, .int x, a7] st h Q := w_istore dX8_put_24 (Nat.le_of_ble_eq_true rfl) rfl
theorem X8_put_26 : iWp d mX8_put 26 [a0, a1, a2, a3, a4, a5, .int x, a7] st h Q = iWp d mX8_put 28 [a0, a1, a2, a3, a4, a5, .int x, a7] (.int x :: st) h Q := w_iload dX8_put_26 rfl
theorem X8_put_28 : iWp d mX8_put 28 [a0, a1, a2, a3, a4, a5, a6, a7] st h Q = iWp d mX8_put 29 [a0, a1, a2, a3, a4, a5, a6, a7] (.int (-1) :: st) h Q := w_iconst dX8_put_28 rfl
theorem X8_put_29 : iWp d mX8_put 29 [a0, a1, a2, a3, a4, a5, a6, a7] (.int y :: .int x :: st) h Q = if x = y then iWp d mX8_put 42 [a0, a1, a2, a3, a4, a5, a6, a7] st h Q else iWp d mX8_put 32 [a0, a1, a2, a3, a4, a5, a6, a7] st h Q := w_icmp_eq dX8_put_29 rfl
theorem X8_put_32 : iWp d mX8_put 32 [a0, a1, a2, a3, a4, .ref p, a6, a7] st h Q = iWp d mX8_put 34 [a0, a1, a2, a3, a4, .ref p, a6, a7] (.ref p :: st) h Q := w_aload dX8_put_32 rfl
theorem X8_put_32n : iWp d mX8_put 32 [a0, a1, a2, a3, a4, .null, a6, a7] st h Q = iWp d mX8_put 34 [a0, a1, a2, a3, a4, .null, a6, a7] (.null :: st) h Q := w_aloadN dX8_put_32 rfl
theorem X8_put_34 : iWp d mX8_put 34 [a0, a1, a2, .int x, a4, a5, a6, a7] st h Q = iWp d mX8_put 35 [a0, a1, a2, .int x, a4, a5, a6, a7] (.int x :: st) h Q := w_iload_n dX8_put_34 rfl
theorem X8_put_35 (he : iEv mX7_whereOf [.ref p, .int x0] h (some (.int rv)) h2) (ho : iObj h p 7 = true) : iWp 6 mX8_put 35 [a0, a1, a2, a3, a4, a5, a6, a7] [.int x0, .ref p] h Q = iWp 6 mX8_put 38 [a0, a1, a2, a3, a4, a5, a6, a7] [.int rv] h2 Q := iWp_cV dX8_put_35 fK_8_155 rfl rfl ho (Nat.le_of_ble_eq_true rfl) (Nat.le_of_ble_eq_true rfl) rfl (Nat.le_of_ble_eq_true rfl) he rfl
theorem X8_put_38 : iWp d mX8_put 38 [a0, a1, a2, a3, a4, a5, a6, a7] st h Q = iWp d mX8_put 39 [a0, a1, a2, a3, a4, a5, a6, a7] (.int (-1) :: st) h Q := w_iconst dX8_put_38 rfl
theorem X8_put_39 : iWp d mX8_put 39 [a0, a1, a2, a3, a4, a5, a6, a7] (.int y :: .int x :: st) h Q = if x = y then iWp d mX8_put 42 [a0, a1, a2, a3, a4, a5, a6, a7] st h Q else iWp d mX8_put 49 [a0, a1, a2, a3, a4, a5, a6, a7] st h Q := w_icmp_ne dX8_put_39 rfl
theorem X8_put_42 : iWp d mX8_put 42 [.ref p, a1, a2, a3, a4, a5, a6, a7] st h Q = iWp d mX8_put 43 [.ref p, a1, a2, a3, a4, a5, a6, a7] (.ref p :: st) h Q := w_aload_n dX8_put_42 rfl
theorem X8_put_43 : iWp d mX8_put 43 [a0, a1, a2, a3, a4, a5, a6, a7] st h Q = iWp d mX8_put 45 [a0, a1, a2, a3, a4, a5, a6, a7] (.int (-5) :: st) h Q := w_bipush dX8_put_43 rfl
theorem X8_put_45 (he : iEv mX8_refuse [.ref p, .int x0] h (some (.int rv)) h2) (ho : iObj h p 8 = true) : iWp 6 mX8_put 45 [a0, a1, a2, a3, a4, a5, a6, a7] [.int x0, .ref p] h Q = iWp 6 mX8_put 48 [a0, a1, a2, a3, a4, a5, a6, a7] [.int rv] h2 Q := iWp_cV dX8_put_45 fK_8_50 rfl rfl ho (Nat.le_of_ble_eq_true rfl) (Nat.le_of_ble_eq_true rfl) rfl (Nat.le_of_ble_eq_true rfl) he rfl
theorem X8_put_48 : iWp d mX8_put 48 [a0, a1, a2, a3, a4, a5, a6, a7] [.int x] h Q = Q (some (.int x)) h := w_ireti dX8_put_48 rfl
theorem X8_put_49 : iWp d mX8_put 49 [a0, a1, .int x, a3, a4, a5, a6, a7] st h Q = iWp d mX8_put 50 [a0, a1, .int x, a3, a4, a5, a6, a7] (.int x :: st) h Q := w_iload_n dX8_put_49 rfl
theorem X8_put_50 : iWp d mX8_put 50 [a0, a1, a2, a3, a4, .ref p, a6, a7] st h Q = iWp d mX8_put 52 [a0, a1, a2, a3, a4, .ref p, a6, a7] (.ref p :: st) h Q := w_aload dX8_put_50 rfl
theorem X8_put_50n : iWp d mX8_put 50 [a0, a1, a2, a3, a4, .null, a6, a7] st h Q = iWp d mX8_put 52 [a0, a1, a2, a3, a4, .null, a6, a7] (.null :: st) h Q := w_aloadN dX8_put_50 rfl
theorem X8_put_52 : iWp d mX8_put 52 [a0, a1, a2, a3, a4, a5, .int x, a7] st h Q = iWp d mX8_put 54 [a0, a1, a2, a3, a4, a5, .int x, a7] (.int x :: st) h Q := w_iload dX8_put_52 rfl
theorem X8_put_54 (he : iEv mX7_parentKeyAt [.ref p, .int x0] h (some (.int rv)) h2) (ho : iObj h p 7 = true) : iWp 6 mX8_put 54 [a0, a1, a2, a3, a4, a5, a6, a7] [.int x0, .ref p, .int r0] h Q = iWp 6 mX8_put 57 [a0, a1, a2, a3, a4, a5, a6, a7] [.int rv, .int r0] h2 Q := iWp_cV dX8_put_54 fK_8_137 rfl rfl ho (Nat.le_of_ble_eq_true rfl) (Nat.le_of_ble_eq_true rfl) rfl (Nat.le_of_ble_eq_true rfl) he rfl
theorem X8_put_57 : iWp d mX8_put 57 [a0, a1, a2, a3, a4, .ref p, a6, a7] st h Q = iWp d mX8_put 59 [a0, a1, a2, a3, a4, .ref p, a6, a7] (.ref p :: st) h Q := w_aload dX8_put_57 rfl
theorem X8_put_57n : iWp d mX8_put 57 [a0, a1, a2, a3, a4, .null, a6, a7] st h Q = iWp d mX8_put 59 [a0, a1, a2, a3, a4, .null, a6, a7] (.null :: st) h Q := w_aloadN dX8_put_57 rfl
theorem X8_put_59 : iWp d mX8_put 59 [a0, a1, a2, a3, a4, a5, .int x, a7] st h Q = iWp d mX8_put 61 [a0, a1, a2, a3, a4, a5, .int x, a7] (.int x :: st) h Q := w_iload dX8_put_59 rfl
theorem X8_put_61 (he : iEv mX7_placeAt [.ref p, .int x0] h (some (.int rv)) h2) (ho : iObj h p 7 = true) : iWp 6 mX8_put 61 [a0, a1, a2, a3, a4, a5, a6, a7] [.int x0, .ref p, .int r0, .int r1] h Q = iWp 6 mX8_put 64 [a0, a1, a2, a3, a4, a5, a6, a7] [.int rv, .int r0, .int r1] h2 Q := iWp_cV dX8_put_61 fK_8_140 rfl rfl ho (Nat.le_of_ble_eq_true rfl) (Nat.le_of_ble_eq_true rfl) rfl (Nat.le_of_ble_eq_true rfl) he rfl
theorem X8_put_64 : iWp d mX8_put 64 [a0, a1, a2, .int x, a4, a5, a6, a7] st h Q = iWp d mX8_put 65 [a0, a1, a2, .int x, a4, a5, a6, a7] (.int x :: st) h Q := w_iload_n dX8_put_64 rfl
theorem X8_put_65 : iWp d mX8_put 65 [a0, a1, a2, a3, .int x, a5, a6, a7] st h Q = iWp d mX8_put 67 [a0, a1, a2, a3, .int x, a5, a6, a7] (.int x :: st) h Q := w_iload dX8_put_65 rfl
theorem X8_put_67 (he : iEv mX2_move [.int x0, .int x1, .int x2, .int x3, .int x4] h (some rw) h2) : iWp 6 mX8_put 67 [a0, a1, a2, a3, a4, a5, a6, a7] [.int x4, .int x3, .int x2, .int x1, .int x0] h Q = iWp 6 mX8_put 70 [a0, a1, a2, a3, a4, a5, a6, a7] [rw] h2 Q := iWp_cS dX8_put_67 fK_8_251 rfl rfl (Nat.le_of_ble_eq_true rfl) (Nat.le_of_ble_eq_true rfl) rfl (Nat.le_of_ble_eq_true rfl) he rfl
theorem X8_put_70 : iWp d mX8_put 70 [a0, a1, a2, a3, a4, a5, a6, a7] (.ref p :: st) h Q = iWp d mX8_put 72 [a0, a1, a2, a3, a4, a5, iClr a6, .ref p] st h Q := w_astore dX8_put_70 (Nat.le_of_ble_eq_true rfl) rfl
theorem X8_put_70n : iWp d mX8_put 70 [a0, a1, a2, a3, a4, a5, a6, a7] (.null :: st) h Q = iWp d mX8_put 72 [a0, a1, a2, a3, a4, a5, iClr a6, .null] st h Q := w_astoreN dX8_put_70 (Nat.le_of_ble_eq_true rfl) rfl
theorem X8_put_72 : iWp d mX8_put 72 [a0, a1, a2, a3, a4, a5, a6, .ref p] st h Q = iWp d mX8_put 74 [a0, a1, a2, a3, a4, a5, a6, .ref p] (.ref p :: st) h Q := w_aload dX8_put_72 rfl
theorem X8_put_72n : iWp d mX8_put 72 [a0, a1, a2, a3, a4, a5, a6, .null] st h Q = iWp d mX8_put 74 [a0, a1, a2, a3, a4, a5, a6, .null] (.null :: st) h Q := w_aloadN dX8_put_72 rfl
theorem X8_put_74 : iWp d mX8_put 74 [a0, a1, a2, a3, a4, .ref p, a6, a7] st h Q = iWp d mX8_put 76 [a0, a1, a2, a3, a4, .ref p, a6, a7] (.ref p :: st) h Q := w_aload dX8_put_74 rfl
theorem X8_put_74n : iWp d mX8_put 74 [a0, a1, a2, a3, a4, .null, a6, a7] st h Q = iWp d mX8_put 76 [a0, a1, a2, a3, a4, .null, a6, a7] (.null :: st) h Q := w_aloadN dX8_put_74 rfl
theorem X8_put_76 (he : iEv mX2_fits [.ref p, b0] h (some (.int rv)) h2) (ho : iObj h p 2 = true) (c0 : b0.category = 1) : iWp 6 mX8_put 76 [a0, a1, a2, a3, a4, a5, a6, a7] [b0, .ref p] h Q = iWp 6 mX8_put 79 [a0, a1, a2, a3, a4, a5, a6, a7] [.int rv] h2 Q := iWp_cV dX8_put_76 fK_8_255 rfl rfl ho (Nat.le_of_ble_eq_true rfl) (Nat.le_of_ble_eq_true rfl) (by simp [iInit, cat_i, cat_r, cat_l, mX2_fits, c0]) (Nat.le_of_ble_eq_true rfl) he rfl
theorem X8_put_79 : iWp d mX8_put 79 [a0, a1, a2, a3, a4, a5, a6, a7] (.int x :: st) h Q = if x = 0 then iWp d mX8_put 82 [a0, a1, a2, a3, a4, a5, a6, a7] st h Q else iWp d mX8_put 89 [a0, a1, a2, a3, a4, a5, a6, a7] st h Q := w_ifc_ne dX8_put_79 rfl
theorem X8_put_82 : iWp d mX8_put 82 [.ref p, a1, a2, a3, a4, a5, a6, a7] st h Q = iWp d mX8_put 83 [.ref p, a1, a2, a3, a4, a5, a6, a7] (.ref p :: st) h Q := w_aload_n dX8_put_82 rfl
theorem X8_put_83 : iWp d mX8_put 83 [a0, a1, a2, a3, a4, a5, a6, a7] st h Q = iWp d mX8_put 85 [a0, a1, a2, a3, a4, a5, a6, a7] (.int (-6) :: st) h Q := w_bipush dX8_put_83 rfl
theorem X8_put_85 (he : iEv mX8_refuse [.ref p, .int x0] h (some (.int rv)) h2) (ho : iObj h p 8 = true) : iWp 6 mX8_put 85 [a0, a1, a2, a3, a4, a5, a6, a7] [.int x0, .ref p] h Q = iWp 6 mX8_put 88 [a0, a1, a2, a3, a4, a5, a6, a7] [.int rv] h2 Q := iWp_cV dX8_put_85 fK_8_50 rfl rfl ho (Nat.le_of_ble_eq_true rfl) (Nat.le_of_ble_eq_true rfl) rfl (Nat.le_of_ble_eq_true rfl) he rfl
theorem X8_put_88 : iWp d mX8_put 88 [a0, a1, a2, a3, a4, a5, a6, a7] [.int x] h Q = Q (some (.int x)) h := w_ireti dX8_put_88 rfl
theorem X8_put_89 : iWp d mX8_put 89 [.ref p, a1, a2, a3, a4, a5, a6, a7] st h Q = iWp d mX8_put 90 [.ref p, a1, a2, a3, a4, a5, a6, a7] (.ref p :: st) h Q := w_aload_n dX8_put_89 rfl
theorem X8_put_90 : iWp d mX8_put 90 [a0, a1, a2, a3, a4, a5, a6, a7] (.ref p :: st) h Q = iOb (iGet h p 8 3) (fun v => iWp d mX8_put 93 [a0, a1, a2, a3, a4, a5, a6, a7] (v :: st) h Q) := w_getf dX8_put_90 fF_8_25
theorem X8_put_93 (he : iEv mX1_clear [.ref p] h none h2) (ho : iObj h p 1 = true) : iWp 6 mX8_put 93 [a0, a1, a2, a3, a4, a5, a6, a7] [.ref p] h Q = iWp 6 mX8_put 96 [a0, a1, a2, a3, a4, a5, a6, a7] [] h2 Q := iWp_cV dX8_put_93 fK_8_222 rfl rfl ho (Nat.le_of_ble_eq_true rfl) (Nat.le_of_ble_eq_true rfl) rfl (Nat.le_of_ble_eq_true rfl) he rfl
theorem X8_put_96 : iWp d mX8_put 96 [.ref p, a1, a2, a3, a4, a5, a6, a7] st h Q = iWp d mX8_put 97 [.ref p, a1, a2, a3, a4, a5, a6, a7] (.ref p :: st) h Q := w_aload_n dX8_put_96 rfl
theorem X8_put_97 : iWp d mX8_put 97 [a0, a1, a2, a3, a4, a5, a6, a7] (.ref p :: st) h Q = iOb (iGet h p 8 3) (fun v => iWp d mX8_put 100 [a0, a1, a2, a3, a4, a5, a6, a7] (v :: st) h Q) := w_getf dX8_put_97 fF_8_25
theorem X8_put_100 : iWp d mX8_put 100 [a0, a1, a2, a3, a4, a5, a6, .ref p] st h Q = iWp d mX8_put 102 [a0, a1, a2, a3, a4, a5, a6, .ref p] (.ref p :: st) h Q := w_aload dX8_put_100 rfl
theorem X8_put_100n : iWp d mX8_put 100 [a0, a1, a2, a3, a4, a5, a6, .null] st h Q = iWp d mX8_put 102 [a0, a1, a2, a3, a4, a5, a6, .null] (.null :: st) h Q := w_aloadN dX8_put_100 rfl
theorem X8_put_102 (he : iEv mX1_add [.ref p, b0] h none h2) (ho : iObj h p 1 = true) (c0 : b0.category = 1) : iWp 6 mX8_put 102 [a0, a1, a2, a3, a4, a5, a6, a7] [b0, .ref p] h Q = iWp 6 mX8_put 105 [a0, a1, a2, a3, a4, a5, a6, a7] [] h2 Q := iWp_cV dX8_put_102 fK_8_229 rfl rfl ho (Nat.le_of_ble_eq_true rfl) (Nat.le_of_ble_eq_true rfl) (by simp [iInit, cat_i, cat_r, cat_l, mX1_add, c0]) (Nat.le_of_ble_eq_true rfl) he rfl
theorem X8_put_105 : iWp d mX8_put 105 [.ref p, a1, a2, a3, a4, a5, a6, a7] st h Q = iWp d mX8_put 106 [.ref p, a1, a2, a3, a4, a5, a6, a7] (.ref p :: st) h Q := w_aload_n dX8_put_105 rfl
theorem X8_put_106 : iWp d mX8_put 106 [a0, a1, a2, a3, a4, a5, a6, a7] st h Q = iWp d mX8_put 107 [a0, a1, a2, a3, a4, a5, a6, a7] (.int 0 :: st) h Q := w_iconst dX8_put_106 rfl
theorem X8_put_107 : iWp d mX8_put 107 [a0, a1, a2, a3, a4, a5, a6, a7] st h Q = iWp d mX8_put 108 [a0, a1, a2, a3, a4, a5, a6, a7] (.int (-1) :: st) h Q := w_iconst dX8_put_107 rfl
theorem X8_put_108 (he : iEv mX8_keepDraft [.ref p, .int x0, .int x1] h (some (.int rv)) h2) (ho : iObj h p 8 = true) : iWp 6 mX8_put 108 [a0, a1, a2, a3, a4, a5, a6, a7] [.int x1, .int x0, .ref p] h Q = iWp 6 mX8_put 111 [a0, a1, a2, a3, a4, a5, a6, a7] [.int rv] h2 Q := iWp_cV dX8_put_108 fK_8_181 rfl rfl ho (Nat.le_of_ble_eq_true rfl) (Nat.le_of_ble_eq_true rfl) rfl (Nat.le_of_ble_eq_true rfl) he rfl
theorem X8_put_111 : iWp d mX8_put 111 [a0, a1, a2, a3, a4, a5, a6, a7] [.int x] h Q = Q (some (.int x)) h := w_ireti dX8_put_111 rfl
theorem I8_put {Q : Option Value → iHp → Prop} (hw : iWp 6 mX8_put 0 [.ref p, .int x0, .int x1, .int x2, .int x3, iU, iU, iU] [] h Q) : ∃ r h1, iEv mX8_put [.ref p, .int x0, .int x1, .int x2, .int x3] h r h1 ∧ Q r h1 := iEv_of (by rfl) rfl hw
theorem J8_put {r : Option Value} {h1 : iHp} (hw : iWp 6 mX8_put 0 [.ref p, .int x0, .int x1, .int x2, .int x3, iU, iU, iU] [] h (fun r' h' => r' = r ∧ h' = h1)) : iEv mX8_put [.ref p, .int x0, .int x1, .int x2, .int x3] h r h1 := iEv_ev (by rfl) rfl hw
theorem X8_rebase_0 : iWp d mX8_rebase 0 [.ref p, a1, a2, a3, a4, a5, a6, a7] st h Q = iWp d mX8_rebase 1 [.ref p, a1, a2, a3, a4, a5, a6, a7] (.ref p :: st) h Q := w_aload_n dX8_rebase_0 rfl
theorem X8_rebase_1 : iWp d mX8_rebase 1 [a0, .int x, a2, a3, a4, a5, a6, a7] st h Q = iWp d mX8_rebase 2 [a0, .int x, a2, a3, a4, a5, a6, a7] (.int x :: st) h Q := w_iload_n dX8_rebase_1 rfl
theorem X8_rebase_2 (he : iEv mX8_patchAt [.ref p, .int x0] h (some rw) h2) (ho : iObj h p 8 = true) : iWp 7 mX8_rebase 2 [a0, a1, a2, a3, a4, a5, a6, a7] [.int x0, .ref p] h Q = iWp 7 mX8_rebase 5 [a0, a1, a2, a3, a4, a5, a6, a7] [rw] h2 Q := iWp_cV dX8_rebase_2 fK_8_92 rfl rfl ho (Nat.le_of_ble_eq_true rfl) (Nat.le_of_ble_eq_true rfl) rfl (Nat.le_of_ble_eq_true rfl) he rfl
theorem X8_rebase_5 : iWp d mX8_rebase 5 [a0, a1, a2, a3, a4, a5, a6, a7] (.ref p :: st) h Q = iWp d mX8_rebase 6 [a0, a1, iClr a2, .ref p, a4, a5, a6, a7] st h Q := w_astore_n dX8_rebase_5 (Nat.le_of_ble_eq_true rfl) rfl
theorem X8_rebase_5n : iWp d mX8_rebase 5 [a0, a1, a2, a3, a4, a5, a6, a7] (.null :: st) h Q = iWp d mX8_rebase 6 [a0, a1, iClr a2, .null, a4, a5, a6, a7] st h Q := w_astore_nN dX8_rebase_5 (Nat.le_of_ble_eq_true rfl) rfl
theorem X8_rebase_6 : iWp d mX8_rebase 6 [.ref p, a1, a2, a3, a4, a5, a6, a7] st h Q = iWp d mX8_rebase 7 [.ref p, a1, a2, a3, a4, a5, a6, a7] (.ref p :: st) h Q := w_aload_n dX8_rebase_6 rfl
theorem X8_rebase_7 : iWp d mX8_rebase 7 [a0, a1, .int x, a3, a4, a5, a6, a7] st h Q = iWp d mX8_rebase 8 [a0, a1, .int x, a3, a4, a5, a6, a7] (.int x :: st) h Q := w_iload_n dX8_rebase_7 rfl
theorem X8_rebase_8 (he : iEv mX8_treeAt [.ref p, .int x0] h (some rw) h2) (ho : iObj h p 8 = true) : iWp 7 mX8_rebase 8 [a0, a1, a2, a3, a4, a5, a6, a7] [.int x0, .ref p] h Q = iWp 7 mX8_rebase 11 [a0, a1, a2, a3, a4, a5, a6, a7] [rw] h2 Q := iWp_cV dX8_rebase_8 fK_8_121 rfl rfl ho (Nat.le_of_ble_eq_true rfl) (Nat.le_of_ble_eq_true rfl) rfl (Nat.le_of_ble_eq_true rfl) he rfl
theorem X8_rebase_11 : iWp d mX8_rebase 11 [a0, a1, a2, a3, a4, a5, a6, a7] (.ref p :: st) h Q = iWp d mX8_rebase 13 [a0, a1, a2, iClr a3, .ref p, a5, a6, a7] st h Q := w_astore dX8_rebase_11 (Nat.le_of_ble_eq_true rfl) rfl
theorem X8_rebase_11n : iWp d mX8_rebase 11 [a0, a1, a2, a3, a4, a5, a6, a7] (.null :: st) h Q = iWp d mX8_rebase 13 [a0, a1, a2, iClr a3, .null, a5, a6, a7] st h Q := w_astoreN dX8_rebase_11 (Nat.le_of_ble_eq_true rfl) rfl
theorem X8_rebase_13 : iWp d mX8_rebase 13 [a0, a1, a2, .ref p, a4, a5, a6, a7] st h Q = iWp d mX8_rebase 14 [a0, a1, a2, .ref p, a4, a5, a6, a7] (.ref p :: st) h Q := w_aload_n dX8_rebase_13 rfl
theorem X8_rebase_13n : iWp d mX8_rebase 13 [a0, a1, a2, .null, a4, a5, a6, a7] st h Q = iWp d mX8_rebase 14 [a0, a1, a2, .null, a4, a5, a6, a7] (.null :: st) h Q := w_aload_nN dX8_rebase_13 rfl
theorem X8_rebase_14 : iWp d mX8_rebase 14 [a0, a1, a2, a3, a4, a5, a6, a7] (.ref p :: st) h Q = iWp d mX8_rebase 17 [a0, a1, a2, a3, a4, a5, a6, a7] st h Q := w_ifnull dX8_rebase_14
theorem X8_rebase_14n : iWp d mX8_rebase 14 [a0, a1, a2, a3, a4, a5, a6, a7] (.null :: st) h Q = iWp d mX8_rebase 22 [a0, a1, a2, a3, a4, a5, a6, a7] st h Q := w_ifnullN dX8_rebase_14 rfl
theorem X8_rebase_17 : iWp d mX8_rebase 17 [a0, a1, a2, a3, .ref p, a5, a6, a7] st h Q = iWp d mX8_rebase 19 [a0, a1, a2, a3, .ref p, a5, a6, a7] (.ref p :: st) h Q := w_aload dX8_rebase_17 rfl
theorem X8_rebase_17n : iWp d mX8_rebase 17 [a0, a1, a2, a3, .null, a5, a6, a7] st h Q = iWp d mX8_rebase 19 [a0, a1, a2, a3, .null, a5, a6, a7] (.null :: st) h Q := w_aloadN dX8_rebase_17 rfl
theorem X8_rebase_19 : iWp d mX8_rebase 19 [a0, a1, a2, a3, a4, a5, a6, a7] (.ref p :: st) h Q = iWp d mX8_rebase 28 [a0, a1, a2, a3, a4, a5, a6, a7] st h Q := w_ifnonnull dX8_rebase_19 rfl
theorem X8_rebase_19n : iWp d mX8_rebase 19 [a0, a1, a2, a3, a4, a5, a6, a7] (.null :: st) h Q = iWp d mX8_rebase 22 [a0, a1, a2, a3, a4, a5, a6, a7] st h Q := w_ifnonnullN dX8_rebase_19
theorem X8_rebase_22 : iWp d mX8_rebase 22 [.ref p, a1, a2, a3, a4, a5, a6, a7] st h Q = iWp d mX8_rebase 23 [.ref p, a1, a2, a3, a4, a5, a6, a7] (.ref p :: st) h Q := w_aload_n dX8_rebase_22 rfl
theorem X8_rebase_23 : iWp d mX8_rebase 23 [a0, a1, a2, a3, a4, a5, a6, a7] st h Q = iWp d mX8_rebase 24 [a0, a1, a2, a3, a4, a5, a6, a7] (.int (-1) :: st) h Q := w_iconst dX8_rebase_23 rfl
theorem X8_rebase_24 (he : iEv mX8_refuse [.ref p, .int x0] h (some (.int rv)) h2) (ho : iObj h p 8 = true) : iWp 7 mX8_rebase 24 [a0, a1, a2, a3, a4, a5, a6, a7] [.int x0, .ref p] h Q = iWp 7 mX8_rebase 27 [a0, a1, a2, a3, a4, a5, a6, a7] [.int rv] h2 Q := iWp_cV dX8_rebase_24 fK_8_50 rfl rfl ho (Nat.le_of_ble_eq_true rfl) (Nat.le_of_ble_eq_true rfl) rfl (Nat.le_of_ble_eq_true rfl) he rfl
theorem X8_rebase_27 : iWp d mX8_rebase 27 [a0, a1, a2, a3, a4, a5, a6, a7] [.int x] h Q = Q (some (.int x)) h := w_ireti dX8_rebase_27 rfl
theorem X8_rebase_28 : iWp d mX8_rebase 28 [a0, a1, a2, a3, a4, a5, a6, a7] st h Q = iWp d mX8_rebase 31 [a0, a1, a2, a3, a4, a5, a6, a7] (.ref h.2.1 :: st) (iNewO h 7) Q := w_new dX8_rebase_28 fC_8_126
theorem X8_rebase_31 : iWp d mX8_rebase 31 [a0, a1, a2, a3, a4, a5, a6, a7] (.ref p :: st) h Q = iWp d mX8_rebase 32 [a0, a1, a2, a3, a4, a5, a6, a7] (.ref p :: .ref p :: st) h Q := w_dup dX8_rebase_31 rfl
theorem X8_rebase_32 : iWp d mX8_rebase 32 [a0, a1, a2, a3, .ref p, a5, a6, a7] st h Q = iWp d mX8_rebase 34 [a0, a1, a2, a3, .ref p, a5, a6, a7] (.ref p :: st) h Q := w_aload dX8_rebase_32 rfl
theorem X8_rebase_32n : iWp d mX8_rebase 32 [a0, a1, a2, a3, .null, a5, a6, a7] st h Q = iWp d mX8_rebase 34 [a0, a1, a2, a3, .null, a5, a6, a7] (.null :: st) h Q := w_aloadN dX8_rebase_32 rfl
theorem X8_rebase_34 (he : iEv mX7_init_ [.ref p, b0] h none h2) (c0 : b0.category = 1) : iWp 7 mX8_rebase 34 [a0, a1, a2, a3, a4, a5, a6, a7] [b0, .ref p, .ref t0] h Q = iWp 7 mX8_rebase 37 [a0, a1, a2, a3, a4, a5, a6, a7] [.ref t0] h2 Q := iWp_cI dX8_rebase_34 fK_8_206 rfl rfl (Nat.le_of_ble_eq_true rfl) (Nat.le_of_ble_eq_true rfl) (by simp [iInit, cat_i, cat_r, cat_l, mX7_init_, c0]) (Nat.le_of_ble_eq_true rfl) he rfl
theorem X8_rebase_37 : iWp d mX8_rebase 37 [a0, a1, a2, a3, a4, a5, a6, a7] (.ref p :: st) h Q = iWp d mX8_rebase 39 [a0, a1, a2, a3, iClr a4, .ref p, a6, a7] st h Q := w_astore dX8_rebase_37 (Nat.le_of_ble_eq_true rfl) rfl
theorem X8_rebase_37n : iWp d mX8_rebase 37 [a0, a1, a2, a3, a4, a5, a6, a7] (.null :: st) h Q = iWp d mX8_rebase 39 [a0, a1, a2, a3, iClr a4, .null, a6, a7] st h Q := w_astoreN dX8_rebase_37 (Nat.le_of_ble_eq_true rfl) rfl
theorem X8_rebase_39 : iWp d mX8_rebase 39 [.ref p, a1, a2, a3, a4, a5, a6, a7] st h Q = iWp d mX8_rebase 40 [.ref p, a1, a2, a3, a4, a5, a6, a7] (.ref p :: st) h Q := w_aload_n dX8_rebase_39 rfl
theorem X8_rebase_40 : iWp d mX8_rebase 40 [a0, a1, a2, a3, a4, a5, a6, a7] (.ref p :: st) h Q = iOb (iGet h p 8 3) (fun v => iWp d mX8_rebase 43 [a0, a1, a2, a3, a4, a5, a6, a7] (v :: st) h Q) := w_getf dX8_rebase_40 fF_8_25
theorem X8_rebase_43 (he : iEv mX1_clear [.ref p] h none h2) (ho : iObj h p 1 = true) : iWp 7 mX8_rebase 43 [a0, a1, a2, a3, a4, a5, a6, a7] [.ref p] h Q = iWp 7 mX8_rebase 46 [a0, a1, a2, a3, a4, a5, a6, a7] [] h2 Q := iWp_cV dX8_rebase_43 fK_8_222 rfl rfl ho (Nat.le_of_ble_eq_true rfl) (Nat.le_of_ble_eq_true rfl) rfl (Nat.le_of_ble_eq_true rfl) he rfl
theorem X8_rebase_46 : iWp d mX8_rebase 46 [a0, a1, a2, a3, a4, a5, a6, a7] st h Q = iWp d mX8_rebase 47 [a0, a1, a2, a3, a4, a5, a6, a7] (.int 0 :: st) h Q := w_iconst dX8_rebase_46 rfl
theorem X8_rebase_47 : iWp d mX8_rebase 47 [a0, a1, a2, a3, a4, a5, a6, a7] (.int x :: st) h Q = iWp d mX8_rebase 49 [a0, a1, a2, a3, a4, iClr a5, .int x, a7] st h Q := w_istore dX8_rebase_47 (Nat.le_of_ble_eq_true rfl) rfl
theorem X8_rebase_49 : iWp d mX8_rebase 49 [a0, a1, a2, a3, a4, a5, .int x, a7] st h Q = iWp d mX8_rebase 51 [a0, a1, a2, a3, a4, a5, .int x, a7] (.int x :: st) h Q := w_iload dX8_rebase_49 rfl
theorem X8_rebase_51 : iWp d mX8_rebase 51 [a0, a1, a2, .ref p, a4, a5, a6, a7] st h Q = iWp d mX8_rebase 52 [a0, a1, a2, .ref p, a4, a5, a6, a7] (.ref p :: st) h Q := w_aload_n dX8_rebase_51 rfl
theorem X8_rebase_51n : iWp d mX8_rebase 51 [a0, a1, a2, .null, a4, a5, a6, a7] st h Q = iWp d mX8_rebase 52 [a0, a1, a2, .null, a4, a5, a6, a7] (.null :: st) h Q := w_aload_nN dX8_rebase_51 rfl
theorem X8_rebase_52 (he : iEv mX3_size [.ref p] h (some (.int rv)) h2) (ho : iObj h p 3 = true) : iWp 7 mX8_rebase 52 [a0, a1, a2, a3, a4, a5, a6, a7] [.ref p, .int r0] h Q = iWp 7 mX8_rebase 55 [a0, a1, a2, a3, a4, a5, a6, a7] [.int rv, .int r0] h2 Q := iWp_cV dX8_rebase_52 fK_8_188 rfl rfl ho (Nat.le_of_ble_eq_true rfl) (Nat.le_of_ble_eq_true rfl) rfl (Nat.le_of_ble_eq_true rfl) he rfl
theorem X8_rebase_55 : iWp d mX8_rebase 55 [a0, a1, a2, a3, a4, a5, a6, a7] (.int y :: .int x :: st) h Q = if y ≤ x then iWp d mX8_rebase 90 [a0, a1, a2, a3, a4, a5, a6, a7] st h Q else iWp d mX8_rebase 58 [a0, a1, a2, a3, a4, a5, a6, a7] st h Q := w_icmp_ge dX8_rebase_55 rfl
theorem X8_rebase_58 : iWp d mX8_rebase 58 [a0, a1, a2, .ref p, a4, a5, a6, a7] st h Q = iWp d mX8_rebase 59 [a0, a1, a2, .ref p, a4, a5, a6, a7] (.ref p :: st) h Q := w_aload_n dX8_rebase_58 rfl
theorem X8_rebase_58n : iWp d mX8_rebase 58 [a0, a1, a2, .null, a4, a5, a6, a7] st h Q = iWp d mX8_rebase 59 [a0, a1, a2, .null, a4, a5, a6, a7] (.null :: st) h Q := w_aload_nN dX8_rebase_58 rfl
theorem X8_rebase_59 : iWp d mX8_rebase 59 [a0, a1, a2, a3, a4, a5, .int x, a7] st h Q = iWp d mX8_rebase 61 [a0, a1, a2, a3, a4, a5, .int x, a7] (.int x :: st) h Q := w_iload dX8_rebase_59 rfl
theorem X8_rebase_61 (he : iEv mX3_editAt [.ref p, .int x0] h (some rw) h2) (ho : iObj h p 3 = true) : iWp 7 mX8_rebase 61 [a0, a1, a2, a3, a4, a5, a6, a7] [.int x0, .ref p] h Q = iWp 7 mX8_rebase 64 [a0, a1, a2, a3, a4, a5, a6, a7] [rw] h2 Q := iWp_cV dX8_rebase_61 fK_8_194 rfl rfl ho (Nat.le_of_ble_eq_true rfl) (Nat.le_of_ble_eq_true rfl) rfl (Nat.le_of_ble_eq_true rfl) he rfl
theorem X8_rebase_64 : iWp d mX8_rebase 64 [a0, a1, a2, a3, a4, a5, a6, a7] (.ref p :: st) h Q = iWp d mX8_rebase 66 [a0, a1, a2, a3, a4, a5, iClr a6, .ref p] st h Q := w_astore dX8_rebase_64 (Nat.le_of_ble_eq_true rfl) rfl
theorem X8_rebase_64n : iWp d mX8_rebase 64 [a0, a1, a2, a3, a4, a5, a6, a7] (.null :: st) h Q = iWp d mX8_rebase 66 [a0, a1, a2, a3, a4, a5, iClr a6, .null] st h Q := w_astoreN dX8_rebase_64 (Nat.le_of_ble_eq_true rfl) rfl
theorem X8_rebase_66 : iWp d mX8_rebase 66 [a0, a1, a2, a3, a4, a5, a6, .ref p] st h Q = iWp d mX8_rebase 68 [a0, a1, a2, a3, a4, a5, a6, .ref p] (.ref p :: st) h Q := w_aload dX8_rebase_66 rfl
theorem X8_rebase_66n : iWp d mX8_rebase 66 [a0, a1, a2, a3, a4, a5, a6, .null] st h Q = iWp d mX8_rebase 68 [a0, a1, a2, a3, a4, a5, a6, .null] (.null :: st) h Q := w_aloadN dX8_rebase_66 rfl
theorem X8_rebase_68 : iWp d mX8_rebase 68 [a0, a1, a2, a3, a4, a5, a6, a7] (.ref p :: st) h Q = iWp d mX8_rebase 71 [a0, a1, a2, a3, a4, a5, a6, a7] st h Q := w_ifnull dX8_rebase_68
theorem X8_rebase_68n : iWp d mX8_rebase 68 [a0, a1, a2, a3, a4, a5, a6, a7] (.null :: st) h Q = iWp d mX8_rebase 84 [a0, a1, a2, a3, a4, a5, a6, a7] st h Q := w_ifnullN dX8_rebase_68 rfl
theorem X8_rebase_71 : iWp d mX8_rebase 71 [.ref p, a1, a2, a3, a4, a5, a6, a7] st h Q = iWp d mX8_rebase 72 [.ref p, a1, a2, a3, a4, a5, a6, a7] (.ref p :: st) h Q := w_aload_n dX8_rebase_71 rfl
theorem X8_rebase_72 : iWp d mX8_rebase 72 [a0, a1, a2, a3, a4, a5, a6, a7] (.ref p :: st) h Q = iOb (iGet h p 8 3) (fun v => iWp d mX8_rebase 75 [a0, a1, a2, a3, a4, a5, a6, a7] (v :: st) h Q) := w_getf dX8_rebase_72 fF_8_25
theorem X8_rebase_75 : iWp d mX8_rebase 75 [a0, a1, a2, a3, a4, a5, a6, .ref p] st h Q = iWp d mX8_rebase 77 [a0, a1, a2, a3, a4, a5, a6, .ref p] (.ref p :: st) h Q := w_aload dX8_rebase_75 rfl
theorem X8_rebase_75n : iWp d mX8_rebase 75 [a0, a1, a2, a3, a4, a5, a6, .null] st h Q = iWp d mX8_rebase 77 [a0, a1, a2, a3, a4, a5, a6, .null] (.null :: st) h Q := w_aloadN dX8_rebase_75 rfl
theorem X8_rebase_77 : iWp d mX8_rebase 77 [a0, a1, a2, a3, a4, a5, .int x, a7] st h Q = iWp d mX8_rebase 79 [a0, a1, a2, a3, a4, a5, .int x, a7] (.int x :: st) h Q := w_iload dX8_rebase_77 rfl
theorem X8_rebase_79 : iWp d mX8_rebase 79 [a0, a1, a2, a3, a4, .ref p, a6, a7] st h Q = iWp d mX8_rebase 81 [a0, a1, a2, a3, a4, .ref p, a6, a7] (.ref p :: st) h Q := w_aload dX8_rebase_79 rfl
theorem X8_rebase_79n : iWp d mX8_rebase 79 [a0, a1, a2, a3, a4, .null, a6, a7] st h Q = iWp d mX8_rebase 81 [a0, a1, a2, a3, a4, .null, a6, a7] (.null :: st) h Q := w_aloadN dX8_rebase_79 rfl
theorem X8_rebase_81 (he : iEv mX1_addRebased [.ref p, b0, .int x1, b2] h none h2) (ho : iObj h p 1 = true) (c0 : b0.category = 1) (c2 : b2.category = 1) : iWp 7 mX8_rebase 81 [a0, a1, a2, a3, a4, a5, a6, a7] [b2, .int x1, b0, .ref p] h Q = iWp 7 mX8_rebase 84 [a0, a1, a2, a3, a4, a5, a6, a7] [] h2 Q := iWp_cV dX8_rebase_81 fK_8_240 rfl rfl ho (Nat.le_of_ble_eq_true rfl) (Nat.le_of_ble_eq_true rfl) (by simp [iInit, cat_i, cat_r, cat_l, mX1_addRebased, c0, c2]) (Nat.le_of_ble_eq_true rfl) he rfl
theorem X8_rebase_84 : iWp d mX8_rebase 84 [a0, a1, a2, a3, a4, a5, .int x, a7] st h Q = iWp d mX8_rebase 87 [a0, a1, a2, a3, a4, iClr a5, .int (x + 1), a7] st h Q := w_iinc dX8_rebase_84 rfl (Nat.le_of_ble_eq_true rfl) rfl
theorem X8_rebase_87 : iWp d mX8_rebase 87 [a0, a1, a2, a3, a4, a5, a6, a7] st h Q = iWp d mX8_rebase 49 [a0, a1, a2, a3, a4, a5, a6, a7] st h Q := w_goto dX8_rebase_87 rfl
theorem X8_rebase_90 : iWp d mX8_rebase 90 [.ref p, a1, a2, a3, a4, a5, a6, a7] st h Q = iWp d mX8_rebase 91 [.ref p, a1, a2, a3, a4, a5, a6, a7] (.ref p :: st) h Q := w_aload_n dX8_rebase_90 rfl
theorem X8_rebase_91 : iWp d mX8_rebase 91 [a0, a1, a2, a3, a4, a5, a6, a7] st h Q = iWp d mX8_rebase 92 [a0, a1, a2, a3, a4, a5, a6, a7] (.int 3 :: st) h Q := w_iconst dX8_rebase_91 rfl
theorem X8_rebase_92 : iWp d mX8_rebase 92 [a0, .int x, a2, a3, a4, a5, a6, a7] st h Q = iWp d mX8_rebase 93 [a0, .int x, a2, a3, a4, a5, a6, a7] (.int x :: st) h Q := w_iload_n dX8_rebase_92 rfl
theorem X8_rebase_93 (he : iEv mX8_keepDraft [.ref p, .int x0, .int x1] h (some (.int rv)) h2) (ho : iObj h p 8 = true) : iWp 7 mX8_rebase 93 [a0, a1, a2, a3, a4, a5, a6, a7] [.int x1, .int x0, .ref p] h Q = iWp 7 mX8_rebase 96 [a0, a1, a2, a3, a4, a5, a6, a7] [.int rv] h2 Q := iWp_cV dX8_rebase_93 fK_8_181 rfl rfl ho (Nat.le_of_ble_eq_true rfl) (Nat.le_of_ble_eq_true rfl) rfl (Nat.le_of_ble_eq_true rfl) he rfl
theorem X8_rebase_96 : iWp d mX8_rebase 96 [a0, a1, a2, a3, a4, a5, a6, a7] [.int x] h Q = Q (some (.int x)) h := w_ireti dX8_rebase_96 rfl
theorem I8_rebase {Q : Option Value → iHp → Prop} (hw : iWp 7 mX8_rebase 0 [.ref p, .int x0, .int x1, iU, iU, iU, iU, iU] [] h Q) : ∃ r h1, iEv mX8_rebase [.ref p, .int x0, .int x1] h r h1 ∧ Q r h1 := iEv_of (by rfl) rfl hw
theorem J8_rebase {r : Option Value} {h1 : iHp} (hw : iWp 7 mX8_rebase 0 [.ref p, .int x0, .int x1, iU, iU, iU, iU, iU] [] h (fun r' h' => r' = r ∧ h' = h1)) : iEv mX8_rebase [.ref p, .int x0, .int x1] h r h1 := iEv_ev (by rfl) rfl hw
theorem X8_refuse_0 : iWp d mX8_refuse 0 [a0, .int x] st h Q = iWp d mX8_refuse 1 [a0, .int x] (.int x :: st) h Q := w_iload_n dX8_refuse_0 rfl
theorem X8_refuse_1 : iWp d mX8_refuse 1 [a0, a1] st h Q = iWp d mX8_refuse 3 [a0, a1] (.int (-7) :: st) h Q := w_bipush dX8_refuse_1 rfl
theorem X8_refuse_3 : iWp d mX8_refuse 3 [a0, a1] (.int y :: .int x :: st) h Q = if x < y then iWp d mX8_refuse 22 [a0, a1] st h Q else iWp d mX8_refuse 6 [a0, a1] st h Q := w_icmp_lt dX8_refuse_3 rfl
theorem X8_refuse_6 : iWp d mX8_refuse 6 [a0, .int x] st h Q = iWp d mX8_refuse 7 [a0, .int x] (.int x :: st) h Q := w_iload_n dX8_refuse_6 rfl
theorem X8_refuse_7 : iWp d mX8_refuse 7 [a0, a1] st h Q = iWp d mX8_refuse 8 [a0, a1] (.int (-1) :: st) h Q := w_iconst dX8_refuse_7 rfl
theorem X8_refuse_8 : iWp d mX8_refuse 8 [a0, a1] (.int y :: .int x :: st) h Q = if y < x then iWp d mX8_refuse 22 [a0, a1] st h Q else iWp d mX8_refuse 11 [a0, a1] st h Q := w_icmp_gt dX8_refuse_8 rfl
theorem X8_refuse_11 : iWp d mX8_refuse 11 [.ref p, a1] st h Q = iWp d mX8_refuse 12 [.ref p, a1] (.ref p :: st) h Q := w_aload_n dX8_refuse_11 rfl
theorem X8_refuse_12 : iWp d mX8_refuse 12 [a0, a1] (.ref p :: st) h Q = iOb (iGet h p 8 2) (fun v => iWp d mX8_refuse 15 [a0, a1] (v :: st) h Q) := w_getf dX8_refuse_12 fF_8_19
theorem X8_refuse_15 : iWp d mX8_refuse 15 [a0, .int x] st h Q = iWp d mX8_refuse 16 [a0, .int x] (.int x :: st) h Q := w_iload_n dX8_refuse_15 rfl
theorem X8_refuse_16 : iWp d mX8_refuse 16 [a0, a1] (.int x :: st) h Q = iWp d mX8_refuse 17 [a0, a1] (.int (-x) :: st) h Q := w_ineg dX8_refuse_16
theorem X8_refuse_17 : iWp d mX8_refuse 17 [a0, a1] (.int x :: .ref q :: st) h Q = iWp d mX8_refuse 18 [a0, a1] (.int x :: .ref q :: .int x :: .ref q :: st) h Q := w_dup2 dX8_refuse_17 ⟨rfl, rfl⟩
theorem X8_refuse_18 : iWp d mX8_refuse 18 [a0, a1] (.int x :: .ref p :: st) h Q = iOb (iLdI h p x) (fun v => iWp d mX8_refuse 19 [a0, a1] (.int v :: st) h Q) := w_iaload dX8_refuse_18
theorem X8_refuse_19 : iWp d mX8_refuse 19 [a0, a1] st h Q = iWp d mX8_refuse 20 [a0, a1] (.int 1 :: st) h Q := w_iconst dX8_refuse_19 rfl
theorem X8_refuse_20 : iWp d mX8_refuse 20 [a0, a1] (.int y :: .int x :: st) h Q = iWp d mX8_refuse 21 [a0, a1] (.int (x + y) :: st) h Q := w_iadd dX8_refuse_20
theorem X8_refuse_21 : iWp d mX8_refuse 21 [a0, a1] (.int y :: .int x :: .ref p :: st) h Q = iOb (iStI h p x y) (fun g => iWp d mX8_refuse 22 [a0, a1] st g Q) := w_iastore dX8_refuse_21
theorem X8_refuse_22 : iWp d mX8_refuse 22 [a0, .int x] st h Q = iWp d mX8_refuse 23 [a0, .int x] (.int x :: st) h Q := w_iload_n dX8_refuse_22 rfl
theorem X8_refuse_23 : iWp d mX8_refuse 23 [a0, a1] [.int x] h Q = Q (some (.int x)) h := w_ireti dX8_refuse_23 rfl
theorem I8_refuse {Q : Option Value → iHp → Prop} (hw : iWp 1 mX8_refuse 0 [.ref p, .int x0] [] h Q) : ∃ r h1, iEv mX8_refuse [.ref p, .int x0] h r h1 ∧ Q r h1 := iEv_of (by rfl) rfl hw
theorem J8_refuse {r : Option Value} {h1 : iHp} (hw : iWp 1 mX8_refuse 0 [.ref p, .int x0] [] h (fun r' h' => r' = r ∧ h' = h1)) : iEv mX8_refuse [.ref p, .int x0] h r h1 := iEv_ev (by rfl) rfl hw
theorem X8_refuseLower_0 : iWp d mX8_refuseLower 0 [.ref p, a1] st h Q = iWp d mX8_refuseLower 1 [.ref p, a1] (.ref p :: st) h Q := w_aload_n dX8_refuseLower_0 rfl
theorem X8_refuseLower_1 : iWp d mX8_refuseLower 1 [a0, .int x] st h Q = iWp d mX8_refuseLower 2 [a0, .int x] (.int x :: st) h Q := w_iload_n dX8_refuseLower_1 rfl
theorem X8_refuseLower_2 (he : iEv mX8_refuse [.ref p, .int x0] h (some (.int rv)) h2) (ho : iObj h p 8 = true) : iWp 2 mX8_refuseLower 2 [a0, a1] [.int x0, .ref p] h Q = iWp 2 mX8_refuseLower 5 [a0, a1] [.int rv] h2 Q := iWp_cV dX8_refuseLower_2 fK_8_50 rfl rfl ho (Nat.le_of_ble_eq_true rfl) (Nat.le_of_ble_eq_true rfl) rfl (Nat.le_of_ble_eq_true rfl) he rfl
theorem X8_refuseLower_5 : iWp d mX8_refuseLower 5 [a0, a1] st h Q = iWp d mX8_refuseLower 7 [a0, a1] (.int 10 :: st) h Q := w_bipush dX8_refuseLower_5 rfl
theorem X8_refuseLower_7 : iWp d mX8_refuseLower 7 [a0, a1] (.int y :: .int x :: st) h Q = iWp d mX8_refuseLower 8 [a0, a1] (.int (x - y) :: st) h Q := w_isub dX8_refuseLower_7
theorem X8_refuseLower_8 : iWp d mX8_refuseLower 8 [a0, a1] [.int x] h Q = Q (some (.int x)) h := w_ireti dX8_refuseLower_8 rfl
theorem I8_refuseLower {Q : Option Value → iHp → Prop} (hw : iWp 2 mX8_refuseLower 0 [.ref p, .int x0] [] h Q) : ∃ r h1, iEv mX8_refuseLower [.ref p, .int x0] h r h1 ∧ Q r h1 := iEv_of (by rfl) rfl hw
theorem J8_refuseLower {r : Option Value} {h1 : iHp} (hw : iWp 2 mX8_refuseLower 0 [.ref p, .int x0] [] h (fun r' h' => r' = r ∧ h' = h1)) : iEv mX8_refuseLower [.ref p, .int x0] h r h1 := iEv_ev (by rfl) rfl hw
theorem X8_restore_0 : iWp d mX8_restore 0 [.ref p] st h Q = iWp d mX8_restore 1 [.ref p] (.ref p :: st) h Q := w_aload_n dX8_restore_0 rfl
theorem X8_restore_1 : iWp d mX8_restore 1 [a0] (.ref p :: st) h Q = iOb (iGet h p 8 5) (fun v => iWp d mX8_restore 4 [a0] (v :: st) h Q) := w_getf dX8_restore_1 fF_8_36
theorem X8_restore_4 : iWp d mX8_restore 4 [a0] (.ref p :: st) h Q = iWp d mX8_restore 14 [a0] st h Q := w_ifnonnull dX8_restore_4 rfl
theorem X8_restore_4n : iWp d mX8_restore 4 [a0] (.null :: st) h Q = iWp d mX8_restore 7 [a0] st h Q := w_ifnonnullN dX8_restore_4
theorem X8_restore_7 : iWp d mX8_restore 7 [.ref p] st h Q = iWp d mX8_restore 8 [.ref p] (.ref p :: st) h Q := w_aload_n dX8_restore_7 rfl
theorem X8_restore_8 : iWp d mX8_restore 8 [a0] st h Q = iWp d mX8_restore 10 [a0] (.int (-6) :: st) h Q := w_bipush dX8_restore_8 rfl
theorem X8_restore_10 (he : iEv mX8_refuse [.ref p, .int x0] h (some (.int rv)) h2) (ho : iObj h p 8 = true) : iWp 2 mX8_restore 10 [a0] [.int x0, .ref p] h Q = iWp 2 mX8_restore 13 [a0] [.int rv] h2 Q := iWp_cV dX8_restore_10 fK_8_50 rfl rfl ho (Nat.le_of_ble_eq_true rfl) (Nat.le_of_ble_eq_true rfl) rfl (Nat.le_of_ble_eq_true rfl) he rfl
theorem X8_restore_13 : iWp d mX8_restore 13 [a0] [.int x] h Q = Q (some (.int x)) h := w_ireti dX8_restore_13 rfl
theorem X8_restore_14 : iWp d mX8_restore 14 [.ref p] st h Q = iWp d mX8_restore 15 [.ref p] (.ref p :: st) h Q := w_aload_n dX8_restore_14 rfl
theorem X8_restore_15 : iWp d mX8_restore 15 [a0] st h Q = iWp d mX8_restore 18 [a0] (.ref h.2.1 :: st) (iNewO h 6) Q := w_new dX8_restore_15 fC_8_29
theorem X8_restore_18 : iWp d mX8_restore 18 [a0] (.ref p :: st) h Q = iWp d mX8_restore 19 [a0] (.ref p :: .ref p :: st) h Q := w_dup dX8_restore_18 rfl
theorem X8_restore_19 : iWp d mX8_restore 19 [.ref p] st h Q = iWp d mX8_restore 20 [.ref p] (.ref p :: st) h Q := w_aload_n dX8_restore_19 rfl
theorem X8_restore_20 : iWp d mX8_restore 20 [a0] (.ref p :: st) h Q = iOb (iGet h p 8 5) (fun v => iWp d mX8_restore 23 [a0] (v :: st) h Q) := w_getf dX8_restore_20 fF_8_36
theorem X8_restore_23 (he : iEv mX6_init_ [.ref p, b0] h none h2) (c0 : b0.category = 1) : iWp 2 mX8_restore 23 [a0] [b0, .ref p, .ref t0, .ref t1] h Q = iWp 2 mX8_restore 26 [a0] [.ref t0, .ref t1] h2 Q := iWp_cI dX8_restore_23 fK_8_281 rfl rfl (Nat.le_of_ble_eq_true rfl) (Nat.le_of_ble_eq_true rfl) (by simp [iInit, cat_i, cat_r, cat_l, mX6_init_, c0]) (Nat.le_of_ble_eq_true rfl) he rfl
theorem X8_restore_26 : iWp d mX8_restore 26 [a0] (.ref q :: .ref p :: st) h Q = iOb (iPut h p 8 4 (.ref q)) (fun g => iWp d mX8_restore 29 [a0] st g Q) := w_putf dX8_restore_26 fF_8_32 ⟨rfl, (Or.inl rfl)⟩
theorem X8_restore_26n : iWp d mX8_restore 26 [a0] (.null :: .ref p :: st) h Q = iOb (iPut h p 8 4 (.null)) (fun g => iWp d mX8_restore 29 [a0] st g Q) := w_putf dX8_restore_26 fF_8_32 ⟨rfl, (Or.inl rfl)⟩
theorem X8_restore_29 : iWp d mX8_restore 29 [.ref p] st h Q = iWp d mX8_restore 30 [.ref p] (.ref p :: st) h Q := w_aload_n dX8_restore_29 rfl
theorem X8_restore_30 (he : iEv mX8_emptyVainShelves [.ref p] h none h2) (ho : iObj h p 8 = true) : iWp 2 mX8_restore 30 [a0] [.ref p] h Q = iWp 2 mX8_restore 33 [a0] [] h2 Q := iWp_cV dX8_restore_30 fK_8_265 rfl rfl ho (Nat.le_of_ble_eq_true rfl) (Nat.le_of_ble_eq_true rfl) rfl (Nat.le_of_ble_eq_true rfl) he rfl
theorem X8_restore_33 : iWp d mX8_restore 33 [.ref p] st h Q = iWp d mX8_restore 34 [.ref p] (.ref p :: st) h Q := w_aload_n dX8_restore_33 rfl
theorem X8_restore_34 : iWp d mX8_restore 34 [a0] (.ref p :: st) h Q = iOb (iGet h p 8 4) (fun v => iWp d mX8_restore 37 [a0] (v :: st) h Q) := w_getf dX8_restore_34 fF_8_32
theorem X8_restore_37 : iWp d mX8_restore 37 [a0] (.ref p :: st) h Q = iOb (iGet h p 6 2) (fun v => iWp d mX8_restore 40 [a0] (v :: st) h Q) := w_getf dX8_restore_37 fF_8_169
theorem X8_restore_40 : iWp d mX8_restore 40 [a0] [.int x] h Q = Q (some (.int x)) h := w_ireti dX8_restore_40 rfl
theorem I8_restore {Q : Option Value → iHp → Prop} (hw : iWp 2 mX8_restore 0 [.ref p] [] h Q) : ∃ r h1, iEv mX8_restore [.ref p] h r h1 ∧ Q r h1 := iEv_of (by rfl) rfl hw
theorem J8_restore {r : Option Value} {h1 : iHp} (hw : iWp 2 mX8_restore 0 [.ref p] [] h (fun r' h' => r' = r ∧ h' = h1)) : iEv mX8_restore [.ref p] h r h1 := iEv_ev (by rfl) rfl hw
theorem X8_row_0 : iWp d mX8_row 0 [a0, .int x, a2, a3] st h Q = iWp d mX8_row 1 [a0, .int x, a2, a3] (.int x :: st) h Q := w_iload_n dX8_row_0 rfl
theorem X8_row_1 (he : iEv mX8_isShelf [.int x0] h (some (.int rv)) h2) : iWp 2 mX8_row 1 [a0, a1, a2, a3] [.int x0] h Q = iWp 2 mX8_row 4 [a0, a1, a2, a3] [.int rv] h2 Q := iWp_cS dX8_row_1 fK_8_46 rfl rfl (Nat.le_of_ble_eq_true rfl) (Nat.le_of_ble_eq_true rfl) rfl (Nat.le_of_ble_eq_true rfl) he rfl
theorem X8_row_4 : iWp d mX8_row 4 [a0, a1, a2, a3] (.int x :: st) h Q = if x = 0 then iWp d mX8_row 7 [a0, a1, a2, a3] st h Q else iWp d mX8_row 13 [a0, a1, a2, a3] st h Q := w_ifc_ne dX8_row_4 rfl
theorem X8_row_7 : iWp d mX8_row 7 [.ref p, a1, a2, a3] st h Q = iWp d mX8_row 8 [.ref p, a1, a2, a3] (.ref p :: st) h Q := w_aload_n dX8_row_7 rfl
theorem X8_row_8 : iWp d mX8_row 8 [a0, a1, a2, a3] st h Q = iWp d mX8_row 9 [a0, a1, a2, a3] (.int (-1) :: st) h Q := w_iconst dX8_row_8 rfl
theorem X8_row_9 (he : iEv mX8_refuse [.ref p, .int x0] h (some (.int rv)) h2) (ho : iObj h p 8 = true) : iWp 2 mX8_row 9 [a0, a1, a2, a3] [.int x0, .ref p] h Q = iWp 2 mX8_row 12 [a0, a1, a2, a3] [.int rv] h2 Q := iWp_cV dX8_row_9 fK_8_50 rfl rfl ho (Nat.le_of_ble_eq_true rfl) (Nat.le_of_ble_eq_true rfl) rfl (Nat.le_of_ble_eq_true rfl) he rfl
theorem X8_row_12 : iWp d mX8_row 12 [a0, a1, a2, a3] [.int x] h Q = Q (some (.int x)) h := w_ireti dX8_row_12 rfl
theorem X8_row_13 : iWp d mX8_row 13 [a0, a1, a2, .int x] st h Q = iWp d mX8_row 14 [a0, a1, a2, .int x] (.int x :: st) h Q := w_iload_n dX8_row_13 rfl
theorem X8_row_14 : iWp d mX8_row 14 [a0, a1, a2, a3] (.int x :: st) h Q = if 0 ≤ x then iWp d mX8_row 24 [a0, a1, a2, a3] st h Q else iWp d mX8_row 17 [a0, a1, a2, a3] st h Q := w_ifc_ge dX8_row_14 rfl
theorem X8_row_17 : iWp d mX8_row 17 [.ref p, a1, a2, a3] st h Q = iWp d mX8_row 18 [.ref p, a1, a2, a3] (.ref p :: st) h Q := w_aload_n dX8_row_17 rfl
theorem X8_row_18 : iWp d mX8_row 18 [a0, a1, a2, a3] st h Q = iWp d mX8_row 20 [a0, a1, a2, a3] (.int (-4) :: st) h Q := w_bipush dX8_row_18 rfl
theorem X8_row_20 (he : iEv mX8_refuse [.ref p, .int x0] h (some (.int rv)) h2) (ho : iObj h p 8 = true) : iWp 2 mX8_row 20 [a0, a1, a2, a3] [.int x0, .ref p] h Q = iWp 2 mX8_row 23 [a0, a1, a2, a3] [.int rv] h2 Q := iWp_cV dX8_row_20 fK_8_50 rfl rfl ho (Nat.le_of_ble_eq_true rfl) (Nat.le_of_ble_eq_true rfl) rfl (Nat.le_of_ble_eq_true rfl) he rfl
theorem X8_row_23 : iWp d mX8_row 23 [a0, a1, a2, a3] [.int x] h Q = Q (some (.int x)) h := w_ireti dX8_row_23 rfl
theorem X8_row_24 : iWp d mX8_row 24 [a0, a1, .int x, a3] st h Q = iWp d mX8_row 25 [a0, a1, .int x, a3] (.int x :: st) h Q := w_iload_n dX8_row_24 rfl
theorem X8_row_25 : iWp d mX8_row 25 [a0, a1, a2, a3] (.int x :: st) h Q = if x < 0 then iWp d mX8_row 33 [a0, a1, a2, a3] st h Q else iWp d mX8_row 28 [a0, a1, a2, a3] st h Q := w_ifc_lt dX8_row_25 rfl
theorem X8_row_28 : iWp d mX8_row 28 [a0, a1, .int x, a3] st h Q = iWp d mX8_row 29 [a0, a1, .int x, a3] (.int x :: st) h Q := w_iload_n dX8_row_28 rfl
theorem X8_row_29 : iWp d mX8_row 29 [a0, a1, a2, a3] st h Q = iWp d mX8_row 30 [a0, a1, a2, a3] (.int 3 :: st) h Q := w_iconst dX8_row_29 rfl
theorem X8_row_30 : iWp d mX8_row 30 [a0, a1, a2, a3] (.int y :: .int x :: st) h Q = if x ≤ y then iWp d mX8_row 40 [a0, a1, a2, a3] st h Q else iWp d mX8_row 33 [a0, a1, a2, a3] st h Q := w_icmp_le dX8_row_30 rfl
theorem X8_row_33 : iWp d mX8_row 33 [.ref p, a1, a2, a3] st h Q = iWp d mX8_row 34 [.ref p, a1, a2, a3] (.ref p :: st) h Q := w_aload_n dX8_row_33 rfl
theorem X8_row_34 : iWp d mX8_row 34 [a0, a1, a2, a3] st h Q = iWp d mX8_row 36 [a0, a1, a2, a3] (.int (-6) :: st) h Q := w_bipush dX8_row_34 rfl
theorem X8_row_36 (he : iEv mX8_refuse [.ref p, .int x0] h (some (.int rv)) h2) (ho : iObj h p 8 = true) : iWp 2 mX8_row 36 [a0, a1, a2, a3] [.int x0, .ref p] h Q = iWp 2 mX8_row 39 [a0, a1, a2, a3] [.int rv] h2 Q := iWp_cV dX8_row_36 fK_8_50 rfl rfl ho (Nat.le_of_ble_eq_true rfl) (Nat.le_of_ble_eq_true rfl) rfl (Nat.le_of_ble_eq_true rfl) he rfl
theorem X8_row_39 : iWp d mX8_row 39 [a0, a1, a2, a3] [.int x] h Q = Q (some (.int x)) h := w_ireti dX8_row_39 rfl
theorem X8_row_40 : iWp d mX8_row 40 [a0, a1, a2, .int x] st h Q = iWp d mX8_row 41 [a0, a1, a2, .int x] (.int x :: st) h Q := w_iload_n dX8_row_40 rfl
theorem X8_row_41 : iWp d mX8_row 41 [a0, a1, a2, a3] st h Q = iWp d mX8_row 44 [a0, a1, a2, a3] (.int 160 :: st) h Q := w_sipush dX8_row_41 rfl
theorem X8_row_44 : iWp d mX8_row 44 [a0, a1, a2, a3] (.int y :: .int x :: st) h Q = if x ≤ y then iWp d mX8_row 54 [a0, a1, a2, a3] st h Q else iWp d mX8_row 47 [a0, a1, a2, a3] st h Q := w_icmp_le dX8_row_44 rfl
theorem X8_row_47 : iWp d mX8_row 47 [.ref p, a1, a2, a3] st h Q = iWp d mX8_row 48 [.ref p, a1, a2, a3] (.ref p :: st) h Q := w_aload_n dX8_row_47 rfl
theorem X8_row_48 : iWp d mX8_row 48 [a0, a1, a2, a3] st h Q = iWp d mX8_row 50 [a0, a1, a2, a3] (.int (-7) :: st) h Q := w_bipush dX8_row_48 rfl
theorem X8_row_50 (he : iEv mX8_refuse [.ref p, .int x0] h (some (.int rv)) h2) (ho : iObj h p 8 = true) : iWp 2 mX8_row 50 [a0, a1, a2, a3] [.int x0, .ref p] h Q = iWp 2 mX8_row 53 [a0, a1, a2, a3] [.int rv] h2 Q := iWp_cV dX8_row_50 fK_8_50 rfl rfl ho (Nat.le_of_ble_eq_true rfl) (Nat.le_of_ble_eq_true rfl) rfl (Nat.le_of_ble_eq_true rfl) he rfl
theorem X8_row_53 : iWp d mX8_row 53 [a0, a1, a2, a3] [.int x] h Q = Q (some (.int x)) h := w_ireti dX8_row_53 rfl
theorem X8_row_54 : iWp d mX8_row 54 [.ref p, a1, a2, a3] st h Q = iWp d mX8_row 55 [.ref p, a1, a2, a3] (.ref p :: st) h Q := w_aload_n dX8_row_54 rfl
theorem X8_row_55 : iWp d mX8_row 55 [a0, a1, a2, a3] (.ref p :: st) h Q = iOb (iGet h p 8 0) (fun v => iWp d mX8_row 58 [a0, a1, a2, a3] (v :: st) h Q) := w_getf dX8_row_55 fF_8_11
theorem X8_row_58 : iWp d mX8_row 58 [a0, .int x, a2, a3] st h Q = iWp d mX8_row 59 [a0, .int x, a2, a3] (.int x :: st) h Q := w_iload_n dX8_row_58 rfl
theorem X8_row_59 : iWp d mX8_row 59 [a0, a1, a2, a3] st h Q = iWp d mX8_row 62 [a0, a1, a2, a3] (.ref h.2.1 :: st) (iNewO h 5) Q := w_new dX8_row_59 fC_8_9
theorem X8_row_62 : iWp d mX8_row 62 [a0, a1, a2, a3] (.ref p :: st) h Q = iWp d mX8_row 63 [a0, a1, a2, a3] (.ref p :: .ref p :: st) h Q := w_dup dX8_row_62 rfl
theorem X8_row_63 : iWp d mX8_row 63 [a0, a1, .int x, a3] st h Q = iWp d mX8_row 64 [a0, a1, .int x, a3] (.int x :: st) h Q := w_iload_n dX8_row_63 rfl
theorem X8_row_64 : iWp d mX8_row 64 [a0, a1, a2, .int x] st h Q = iWp d mX8_row 65 [a0, a1, a2, .int x] (.int x :: st) h Q := w_iload_n dX8_row_64 rfl
theorem X8_row_65 (he : iEv mX5_init [.ref p, .int x0, .int x1] h none h2) : iWp 2 mX8_row 65 [a0, a1, a2, a3] [.int x1, .int x0, .ref p, .ref t0, .int r1, .ref t2] h Q = iWp 2 mX8_row 68 [a0, a1, a2, a3] [.ref t0, .int r1, .ref t2] h2 Q := iWp_cI dX8_row_65 fK_8_54 rfl rfl (Nat.le_of_ble_eq_true rfl) (Nat.le_of_ble_eq_true rfl) rfl (Nat.le_of_ble_eq_true rfl) he rfl
theorem X8_row_68 : iWp d mX8_row 68 [a0, a1, a2, a3] (.ref q :: .int x :: .ref p :: st) h Q = iOb (iStQ h p x (some q)) (fun g => iWp d mX8_row 69 [a0, a1, a2, a3] st g Q) := w_aastore dX8_row_68
theorem X8_row_68n : iWp d mX8_row 68 [a0, a1, a2, a3] (.null :: .int x :: .ref p :: st) h Q = iOb (iStQ h p x none) (fun g => iWp d mX8_row 69 [a0, a1, a2, a3] st g Q) := w_aastoreN dX8_row_68
theorem X8_row_69 : iWp d mX8_row 69 [.ref p, a1, a2, a3] st h Q = iWp d mX8_row 70 [.ref p, a1, a2, a3] (.ref p :: st) h Q := w_aload_n dX8_row_69 rfl
theorem X8_row_70 : iWp d mX8_row 70 [a0, a1, a2, a3] (.ref p :: st) h Q = iOb (iGet h p 8 1) (fun v => iWp d mX8_row 73 [a0, a1, a2, a3] (v :: st) h Q) := w_getf dX8_row_70 fF_8_15
theorem X8_row_73 : iWp d mX8_row 73 [a0, .int x, a2, a3] st h Q = iWp d mX8_row 74 [a0, .int x, a2, a3] (.int x :: st) h Q := w_iload_n dX8_row_73 rfl
theorem X8_row_74 : iWp d mX8_row 74 [a0, a1, a2, a3] st h Q = iWp d mX8_row 75 [a0, a1, a2, a3] (.int (-1) :: st) h Q := w_iconst dX8_row_74 rfl
theorem X8_row_75 : iWp d mX8_row 75 [a0, a1, a2, a3] (.int y :: .int x :: .ref p :: st) h Q = iOb (iStI h p x y) (fun g => iWp d mX8_row 76 [a0, a1, a2, a3] st g Q) := w_iastore dX8_row_75
theorem X8_row_76 : iWp d mX8_row 76 [a0, a1, a2, a3] st h Q = iWp d mX8_row 77 [a0, a1, a2, a3] (.int 1 :: st) h Q := w_iconst dX8_row_76 rfl
theorem X8_row_77 : iWp d mX8_row 77 [a0, a1, a2, a3] [.int x] h Q = Q (some (.int x)) h := w_ireti dX8_row_77 rfl
theorem I8_row {Q : Option Value → iHp → Prop} (hw : iWp 2 mX8_row 0 [.ref p, .int x0, .int x1, .int x2] [] h Q) : ∃ r h1, iEv mX8_row [.ref p, .int x0, .int x1, .int x2] h r h1 ∧ Q r h1 := iEv_of (by rfl) rfl hw
theorem J8_row {r : Option Value} {h1 : iHp} (hw : iWp 2 mX8_row 0 [.ref p, .int x0, .int x1, .int x2] [] h (fun r' h' => r' = r ∧ h' = h1)) : iEv mX8_row [.ref p, .int x0, .int x1, .int x2] h r h1 := iEv_ev (by rfl) rfl hw
theorem X8_rowAt_0 : iWp d mX8_rowAt 0 [a0, .int x] st h Q = iWp d mX8_rowAt 1 [a0, .int x] (.int x :: st) h Q := w_iload_n dX8_rowAt_0 rfl
theorem X8_rowAt_1 (he : iEv mX8_isShelf [.int x0] h (some (.int rv)) h2) : iWp 2 mX8_rowAt 1 [a0, a1] [.int x0] h Q = iWp 2 mX8_rowAt 4 [a0, a1] [.int rv] h2 Q := iWp_cS dX8_rowAt_1 fK_8_46 rfl rfl (Nat.le_of_ble_eq_true rfl) (Nat.le_of_ble_eq_true rfl) rfl (Nat.le_of_ble_eq_true rfl) he rfl
theorem X8_rowAt_4 : iWp d mX8_rowAt 4 [a0, a1] (.int x :: st) h Q = if x = 0 then iWp d mX8_rowAt 16 [a0, a1] st h Q else iWp d mX8_rowAt 7 [a0, a1] st h Q := w_ifc_eq dX8_rowAt_4 rfl
theorem X8_rowAt_7 : iWp d mX8_rowAt 7 [.ref p, a1] st h Q = iWp d mX8_rowAt 8 [.ref p, a1] (.ref p :: st) h Q := w_aload_n dX8_rowAt_7 rfl
theorem X8_rowAt_8 : iWp d mX8_rowAt 8 [a0, a1] (.ref p :: st) h Q = iOb (iGet h p 8 0) (fun v => iWp d mX8_rowAt 11 [a0, a1] (v :: st) h Q) := w_getf dX8_rowAt_8 fF_8_11
theorem X8_rowAt_11 : iWp d mX8_rowAt 11 [a0, .int x] st h Q = iWp d mX8_rowAt 12 [a0, .int x] (.int x :: st) h Q := w_iload_n dX8_rowAt_11 rfl
theorem X8_rowAt_12 : iWp d mX8_rowAt 12 [a0, a1] (.int x :: .ref p :: st) h Q = iOb (iLdQ h p x) (fun v => iWp d mX8_rowAt 13 [a0, a1] (va_rf v :: st) h Q) := w_aaload dX8_rowAt_12
theorem X8_rowAt_13 : iWp d mX8_rowAt 13 [a0, a1] st h Q = iWp d mX8_rowAt 17 [a0, a1] st h Q := w_goto dX8_rowAt_13 rfl
theorem X8_rowAt_16 : iWp d mX8_rowAt 16 [a0, a1] st h Q = iWp d mX8_rowAt 17 [a0, a1] (.null :: st) h Q := w_null dX8_rowAt_16
theorem X8_rowAt_17 : iWp d mX8_rowAt 17 [a0, a1] [.ref p] h Q = Q (some (.ref p)) h := w_aret dX8_rowAt_17 rfl
theorem X8_rowAt_17n : iWp d mX8_rowAt 17 [a0, a1] [.null] h Q = Q (some .null) h := w_aretN dX8_rowAt_17 rfl
theorem I8_rowAt {Q : Option Value → iHp → Prop} (hw : iWp 2 mX8_rowAt 0 [.ref p, .int x0] [] h Q) : ∃ r h1, iEv mX8_rowAt [.ref p, .int x0] h r h1 ∧ Q r h1 := iEv_of (by rfl) rfl hw
theorem J8_rowAt {r : Option Value} {h1 : iHp} (hw : iWp 2 mX8_rowAt 0 [.ref p, .int x0] [] h (fun r' h' => r' = r ∧ h' = h1)) : iEv mX8_rowAt [.ref p, .int x0] h r h1 := iEv_ev (by rfl) rfl hw
theorem X8_same_0 : iWp d mX8_same 0 [.ref p, a1, a2, a3, a4] st h Q = iWp d mX8_same 1 [.ref p, a1, a2, a3, a4] (.ref p :: st) h Q := w_aload_n dX8_same_0 rfl
theorem X8_same_1 : iWp d mX8_same 1 [a0, .int x, a2, a3, a4] st h Q = iWp d mX8_same 2 [a0, .int x, a2, a3, a4] (.int x :: st) h Q := w_iload_n dX8_same_1 rfl
theorem X8_same_2 (he : iEv mX8_treeAt [.ref p, .int x0] h (some rw) h2) (ho : iObj h p 8 = true) : iWp 3 mX8_same 2 [a0, a1, a2, a3, a4] [.int x0, .ref p] h Q = iWp 3 mX8_same 5 [a0, a1, a2, a3, a4] [rw] h2 Q := iWp_cV dX8_same_2 fK_8_121 rfl rfl ho (Nat.le_of_ble_eq_true rfl) (Nat.le_of_ble_eq_true rfl) rfl (Nat.le_of_ble_eq_true rfl) he rfl
theorem X8_same_5 : iWp d mX8_same 5 [a0, a1, a2, a3, a4] (.ref p :: st) h Q = iWp d mX8_same 6 [a0, a1, iClr a2, .ref p, a4] st h Q := w_astore_n dX8_same_5 (Nat.le_of_ble_eq_true rfl) rfl
theorem X8_same_5n : iWp d mX8_same 5 [a0, a1, a2, a3, a4] (.null :: st) h Q = iWp d mX8_same 6 [a0, a1, iClr a2, .null, a4] st h Q := w_astore_nN dX8_same_5 (Nat.le_of_ble_eq_true rfl) rfl
theorem X8_same_6 : iWp d mX8_same 6 [.ref p, a1, a2, a3, a4] st h Q = iWp d mX8_same 7 [.ref p, a1, a2, a3, a4] (.ref p :: st) h Q := w_aload_n dX8_same_6 rfl
theorem X8_same_7 : iWp d mX8_same 7 [a0, a1, .int x, a3, a4] st h Q = iWp d mX8_same 8 [a0, a1, .int x, a3, a4] (.int x :: st) h Q := w_iload_n dX8_same_7 rfl
theorem X8_same_8 (he : iEv mX8_treeAt [.ref p, .int x0] h (some rw) h2) (ho : iObj h p 8 = true) : iWp 3 mX8_same 8 [a0, a1, a2, a3, a4] [.int x0, .ref p] h Q = iWp 3 mX8_same 11 [a0, a1, a2, a3, a4] [rw] h2 Q := iWp_cV dX8_same_8 fK_8_121 rfl rfl ho (Nat.le_of_ble_eq_true rfl) (Nat.le_of_ble_eq_true rfl) rfl (Nat.le_of_ble_eq_true rfl) he rfl
theorem X8_same_11 : iWp d mX8_same 11 [a0, a1, a2, a3, a4] (.ref p :: st) h Q = iWp d mX8_same 13 [a0, a1, a2, iClr a3, .ref p] st h Q := w_astore dX8_same_11 (Nat.le_of_ble_eq_true rfl) rfl
theorem X8_same_11n : iWp d mX8_same 11 [a0, a1, a2, a3, a4] (.null :: st) h Q = iWp d mX8_same 13 [a0, a1, a2, iClr a3, .null] st h Q := w_astoreN dX8_same_11 (Nat.le_of_ble_eq_true rfl) rfl
theorem X8_same_13 : iWp d mX8_same 13 [a0, a1, a2, .ref p, a4] st h Q = iWp d mX8_same 14 [a0, a1, a2, .ref p, a4] (.ref p :: st) h Q := w_aload_n dX8_same_13 rfl
theorem X8_same_13n : iWp d mX8_same 13 [a0, a1, a2, .null, a4] st h Q = iWp d mX8_same 14 [a0, a1, a2, .null, a4] (.null :: st) h Q := w_aload_nN dX8_same_13 rfl
theorem X8_same_14 : iWp d mX8_same 14 [a0, a1, a2, a3, a4] (.ref p :: st) h Q = iWp d mX8_same 17 [a0, a1, a2, a3, a4] st h Q := w_ifnull dX8_same_14
theorem X8_same_14n : iWp d mX8_same 14 [a0, a1, a2, a3, a4] (.null :: st) h Q = iWp d mX8_same 22 [a0, a1, a2, a3, a4] st h Q := w_ifnullN dX8_same_14 rfl
theorem X8_same_17 : iWp d mX8_same 17 [a0, a1, a2, a3, .ref p] st h Q = iWp d mX8_same 19 [a0, a1, a2, a3, .ref p] (.ref p :: st) h Q := w_aload dX8_same_17 rfl
theorem X8_same_17n : iWp d mX8_same 17 [a0, a1, a2, a3, .null] st h Q = iWp d mX8_same 19 [a0, a1, a2, a3, .null] (.null :: st) h Q := w_aloadN dX8_same_17 rfl
theorem X8_same_19 : iWp d mX8_same 19 [a0, a1, a2, a3, a4] (.ref p :: st) h Q = iWp d mX8_same 28 [a0, a1, a2, a3, a4] st h Q := w_ifnonnull dX8_same_19 rfl
theorem X8_same_19n : iWp d mX8_same 19 [a0, a1, a2, a3, a4] (.null :: st) h Q = iWp d mX8_same 22 [a0, a1, a2, a3, a4] st h Q := w_ifnonnullN dX8_same_19
theorem X8_same_22 : iWp d mX8_same 22 [.ref p, a1, a2, a3, a4] st h Q = iWp d mX8_same 23 [.ref p, a1, a2, a3, a4] (.ref p :: st) h Q := w_aload_n dX8_same_22 rfl
theorem X8_same_23 : iWp d mX8_same 23 [a0, a1, a2, a3, a4] st h Q = iWp d mX8_same 24 [a0, a1, a2, a3, a4] (.int (-1) :: st) h Q := w_iconst dX8_same_23 rfl
theorem X8_same_24 (he : iEv mX8_refuse [.ref p, .int x0] h (some (.int rv)) h2) (ho : iObj h p 8 = true) : iWp 3 mX8_same 24 [a0, a1, a2, a3, a4] [.int x0, .ref p] h Q = iWp 3 mX8_same 27 [a0, a1, a2, a3, a4] [.int rv] h2 Q := iWp_cV dX8_same_24 fK_8_50 rfl rfl ho (Nat.le_of_ble_eq_true rfl) (Nat.le_of_ble_eq_true rfl) rfl (Nat.le_of_ble_eq_true rfl) he rfl
theorem X8_same_27 : iWp d mX8_same 27 [a0, a1, a2, a3, a4] [.int x] h Q = Q (some (.int x)) h := w_ireti dX8_same_27 rfl
theorem X8_same_28 : iWp d mX8_same 28 [a0, a1, a2, .ref p, a4] st h Q = iWp d mX8_same 29 [a0, a1, a2, .ref p, a4] (.ref p :: st) h Q := w_aload_n dX8_same_28 rfl
theorem X8_same_28n : iWp d mX8_same 28 [a0, a1, a2, .null, a4] st h Q = iWp d mX8_same 29 [a0, a1, a2, .null, a4] (.null :: st) h Q := w_aload_nN dX8_same_28 rfl
theorem X8_same_29 : iWp d mX8_same 29 [a0, a1, a2, a3, .ref p] st h Q = iWp d mX8_same 31 [a0, a1, a2, a3, .ref p] (.ref p :: st) h Q := w_aload dX8_same_29 rfl
theorem X8_same_29n : iWp d mX8_same 29 [a0, a1, a2, a3, .null] st h Q = iWp d mX8_same 31 [a0, a1, a2, a3, .null] (.null :: st) h Q := w_aloadN dX8_same_29 rfl
theorem X8_same_31 (he : iEv mX7_firstUnlike [.ref p, b0] h (some (.int rv)) h2) (ho : iObj h p 7 = true) (c0 : b0.category = 1) : iWp 3 mX8_same 31 [a0, a1, a2, a3, a4] [b0, .ref p] h Q = iWp 3 mX8_same 34 [a0, a1, a2, a3, a4] [.int rv] h2 Q := iWp_cV dX8_same_31 fK_8_166 rfl rfl ho (Nat.le_of_ble_eq_true rfl) (Nat.le_of_ble_eq_true rfl) (by simp [iInit, cat_i, cat_r, cat_l, mX7_firstUnlike, c0]) (Nat.le_of_ble_eq_true rfl) he rfl
theorem X8_same_34 : iWp d mX8_same 34 [a0, a1, a2, a3, a4] st h Q = iWp d mX8_same 35 [a0, a1, a2, a3, a4] (.int 1 :: st) h Q := w_iconst dX8_same_34 rfl
theorem X8_same_35 : iWp d mX8_same 35 [a0, a1, a2, a3, a4] (.int y :: .int x :: st) h Q = iWp d mX8_same 36 [a0, a1, a2, a3, a4] (.int (x + y) :: st) h Q := w_iadd dX8_same_35
theorem X8_same_36 : iWp d mX8_same 36 [a0, a1, a2, a3, a4] [.int x] h Q = Q (some (.int x)) h := w_ireti dX8_same_36 rfl
theorem I8_same {Q : Option Value → iHp → Prop} (hw : iWp 3 mX8_same 0 [.ref p, .int x0, .int x1, iU, iU] [] h Q) : ∃ r h1, iEv mX8_same [.ref p, .int x0, .int x1] h r h1 ∧ Q r h1 := iEv_of (by rfl) rfl hw
theorem J8_same {r : Option Value} {h1 : iHp} (hw : iWp 3 mX8_same 0 [.ref p, .int x0, .int x1, iU, iU] [] h (fun r' h' => r' = r ∧ h' = h1)) : iEv mX8_same [.ref p, .int x0, .int x1] h r h1 := iEv_ev (by rfl) rfl hw
theorem X8_says_0 : iWp d mX8_says 0 [a0, .int x, a2, a3] st h Q = iWp d mX8_says 1 [a0, .int x, a2, a3] (.int x :: st) h Q := w_iload_n dX8_says_0 rfl
theorem X8_says_1 (he : iEv mX8_isShelf [.int x0] h (some (.int rv)) h2) : iWp 3 mX8_says 1 [a0, a1, a2, a3] [.int x0] h Q = iWp 3 mX8_says 4 [a0, a1, a2, a3] [.int rv] h2 Q := iWp_cS dX8_says_1 fK_8_46 rfl rfl (Nat.le_of_ble_eq_true rfl) (Nat.le_of_ble_eq_true rfl) rfl (Nat.le_of_ble_eq_true rfl) he rfl
theorem X8_says_4 : iWp d mX8_says 4 [a0, a1, a2, a3] (.int x :: st) h Q = if x = 0 then iWp d mX8_says 16 [a0, a1, a2, a3] st h Q else iWp d mX8_says 7 [a0, a1, a2, a3] st h Q := w_ifc_eq dX8_says_4 rfl
theorem X8_says_7 : iWp d mX8_says 7 [a0, a1, .int x, a3] st h Q = iWp d mX8_says 8 [a0, a1, .int x, a3] (.int x :: st) h Q := w_iload_n dX8_says_7 rfl
theorem X8_says_8 : iWp d mX8_says 8 [a0, a1, a2, a3] (.int x :: st) h Q = if x < 0 then iWp d mX8_says 16 [a0, a1, a2, a3] st h Q else iWp d mX8_says 11 [a0, a1, a2, a3] st h Q := w_ifc_lt dX8_says_8 rfl
theorem X8_says_11 : iWp d mX8_says 11 [a0, a1, .int x, a3] st h Q = iWp d mX8_says 12 [a0, a1, .int x, a3] (.int x :: st) h Q := w_iload_n dX8_says_11 rfl
theorem X8_says_12 : iWp d mX8_says 12 [a0, a1, a2, a3] st h Q = iWp d mX8_says 13 [a0, a1, a2, a3] (.int 3 :: st) h Q := w_iconst dX8_says_12 rfl
theorem X8_says_13 : iWp d mX8_says 13 [a0, a1, a2, a3] (.int y :: .int x :: st) h Q = if x ≤ y then iWp d mX8_says 22 [a0, a1, a2, a3] st h Q else iWp d mX8_says 16 [a0, a1, a2, a3] st h Q := w_icmp_le dX8_says_13 rfl
theorem X8_says_16 : iWp d mX8_says 16 [.ref p, a1, a2, a3] st h Q = iWp d mX8_says 17 [.ref p, a1, a2, a3] (.ref p :: st) h Q := w_aload_n dX8_says_16 rfl
theorem X8_says_17 : iWp d mX8_says 17 [a0, a1, a2, a3] st h Q = iWp d mX8_says 18 [a0, a1, a2, a3] (.int (-1) :: st) h Q := w_iconst dX8_says_17 rfl
theorem X8_says_18 (he : iEv mX8_refuse [.ref p, .int x0] h (some (.int rv)) h2) (ho : iObj h p 8 = true) : iWp 3 mX8_says 18 [a0, a1, a2, a3] [.int x0, .ref p] h Q = iWp 3 mX8_says 21 [a0, a1, a2, a3] [.int rv] h2 Q := iWp_cV dX8_says_18 fK_8_50 rfl rfl ho (Nat.le_of_ble_eq_true rfl) (Nat.le_of_ble_eq_true rfl) rfl (Nat.le_of_ble_eq_true rfl) he rfl
theorem X8_says_21 : iWp d mX8_says 21 [a0, a1, a2, a3] [.int x] h Q = Q (some (.int x)) h := w_ireti dX8_says_21 rfl
theorem X8_says_22 : iWp d mX8_says 22 [.ref p, a1, a2, a3] st h Q = iWp d mX8_says 23 [.ref p, a1, a2, a3] (.ref p :: st) h Q := w_aload_n dX8_says_22 rfl
theorem X8_says_23 : iWp d mX8_says 23 [a0, .int x, a2, a3] st h Q = iWp d mX8_says 24 [a0, .int x, a2, a3] (.int x :: st) h Q := w_iload_n dX8_says_23 rfl
theorem X8_says_24 (he : iEv mX8_rowAt [.ref p, .int x0] h (some rw) h2) (ho : iObj h p 8 = true) : iWp 3 mX8_says 24 [a0, a1, a2, a3] [.int x0, .ref p] h Q = iWp 3 mX8_says 27 [a0, a1, a2, a3] [rw] h2 Q := iWp_cV dX8_says_24 fK_8_57 rfl rfl ho (Nat.le_of_ble_eq_true rfl) (Nat.le_of_ble_eq_true rfl) rfl (Nat.le_of_ble_eq_true rfl) he rfl
theorem X8_says_27 : iWp d mX8_says 27 [a0, a1, a2, a3] (.ref p :: st) h Q = iWp d mX8_says 30 [a0, a1, a2, a3] st h Q := w_ifnull dX8_says_27
theorem X8_says_27n : iWp d mX8_says 27 [a0, a1, a2, a3] (.null :: st) h Q = iWp d mX8_says 37 [a0, a1, a2, a3] st h Q := w_ifnullN dX8_says_27 rfl
theorem X8_says_30 : iWp d mX8_says 30 [.ref p, a1, a2, a3] st h Q = iWp d mX8_says 31 [.ref p, a1, a2, a3] (.ref p :: st) h Q := w_aload_n dX8_says_30 rfl
theorem X8_says_31 : iWp d mX8_says 31 [a0, a1, a2, a3] st h Q = iWp d mX8_says 33 [a0, a1, a2, a3] (.int (-2) :: st) h Q := w_bipush dX8_says_31 rfl
theorem X8_says_33 (he : iEv mX8_refuse [.ref p, .int x0] h (some (.int rv)) h2) (ho : iObj h p 8 = true) : iWp 3 mX8_says 33 [a0, a1, a2, a3] [.int x0, .ref p] h Q = iWp 3 mX8_says 36 [a0, a1, a2, a3] [.int rv] h2 Q := iWp_cV dX8_says_33 fK_8_50 rfl rfl ho (Nat.le_of_ble_eq_true rfl) (Nat.le_of_ble_eq_true rfl) rfl (Nat.le_of_ble_eq_true rfl) he rfl
theorem X8_says_36 : iWp d mX8_says 36 [a0, a1, a2, a3] [.int x] h Q = Q (some (.int x)) h := w_ireti dX8_says_36 rfl
theorem X8_says_37 : iWp d mX8_says 37 [.ref p, a1, a2, a3] st h Q = iWp d mX8_says 38 [.ref p, a1, a2, a3] (.ref p :: st) h Q := w_aload_n dX8_says_37 rfl
theorem X8_says_38 : iWp d mX8_says 38 [.ref p, a1, a2, a3] st h Q = iWp d mX8_says 39 [.ref p, a1, a2, a3] (.ref p :: st) h Q := w_aload_n dX8_says_38 rfl
theorem X8_says_39 : iWp d mX8_says 39 [a0, a1, a2, a3] (.ref p :: st) h Q = iOb (iGet h p 8 1) (fun v => iWp d mX8_says 42 [a0, a1, a2, a3] (v :: st) h Q) := w_getf dX8_says_39 fF_8_15
theorem X8_says_42 : iWp d mX8_says 42 [a0, .int x, a2, a3] st h Q = iWp d mX8_says 43 [a0, .int x, a2, a3] (.int x :: st) h Q := w_iload_n dX8_says_42 rfl
theorem X8_says_43 : iWp d mX8_says 43 [a0, a1, a2, a3] (.int x :: .ref p :: st) h Q = iOb (iLdI h p x) (fun v => iWp d mX8_says 44 [a0, a1, a2, a3] (.int v :: st) h Q) := w_iaload dX8_says_43
theorem X8_says_44 (he : iEv mX8_patchAt [.ref p, .int x0] h (some rw) h2) (ho : iObj h p 8 = true) : iWp 3 mX8_says 44 [a0, a1, a2, a3] [.int x0, .ref p] h Q = iWp 3 mX8_says 47 [a0, a1, a2, a3] [rw] h2 Q := iWp_cV dX8_says_44 fK_8_92 rfl rfl ho (Nat.le_of_ble_eq_true rfl) (Nat.le_of_ble_eq_true rfl) rfl (Nat.le_of_ble_eq_true rfl) he rfl
theorem X8_says_47 : iWp d mX8_says 47 [a0, a1, a2, a3] (.ref p :: st) h Q = iWp d mX8_says 48 [a0, a1, iClr a2, .ref p] st h Q := w_astore_n dX8_says_47 (Nat.le_of_ble_eq_true rfl) rfl
theorem X8_says_47n : iWp d mX8_says 47 [a0, a1, a2, a3] (.null :: st) h Q = iWp d mX8_says 48 [a0, a1, iClr a2, .null] st h Q := w_astore_nN dX8_says_47 (Nat.le_of_ble_eq_true rfl) rfl
theorem X8_says_48 : iWp d mX8_says 48 [a0, a1, a2, .ref p] st h Q = iWp d mX8_says 49 [a0, a1, a2, .ref p] (.ref p :: st) h Q := w_aload_n dX8_says_48 rfl
theorem X8_says_48n : iWp d mX8_says 48 [a0, a1, a2, .null] st h Q = iWp d mX8_says 49 [a0, a1, a2, .null] (.null :: st) h Q := w_aload_nN dX8_says_48 rfl
theorem X8_says_49 : iWp d mX8_says 49 [a0, a1, a2, a3] (.ref p :: st) h Q = iWp d mX8_says 59 [a0, a1, a2, a3] st h Q := w_ifnonnull dX8_says_49 rfl
theorem X8_says_49n : iWp d mX8_says 49 [a0, a1, a2, a3] (.null :: st) h Q = iWp d mX8_says 52 [a0, a1, a2, a3] st h Q := w_ifnonnullN dX8_says_49
theorem X8_says_52 : iWp d mX8_says 52 [.ref p, a1, a2, a3] st h Q = iWp d mX8_says 53 [.ref p, a1, a2, a3] (.ref p :: st) h Q := w_aload_n dX8_says_52 rfl
theorem X8_says_53 : iWp d mX8_says 53 [a0, a1, a2, a3] st h Q = iWp d mX8_says 55 [a0, a1, a2, a3] (.int (-3) :: st) h Q := w_bipush dX8_says_53 rfl
theorem X8_says_55 (he : iEv mX8_refuse [.ref p, .int x0] h (some (.int rv)) h2) (ho : iObj h p 8 = true) : iWp 3 mX8_says 55 [a0, a1, a2, a3] [.int x0, .ref p] h Q = iWp 3 mX8_says 58 [a0, a1, a2, a3] [.int rv] h2 Q := iWp_cV dX8_says_55 fK_8_50 rfl rfl ho (Nat.le_of_ble_eq_true rfl) (Nat.le_of_ble_eq_true rfl) rfl (Nat.le_of_ble_eq_true rfl) he rfl
theorem X8_says_58 : iWp d mX8_says 58 [a0, a1, a2, a3] [.int x] h Q = Q (some (.int x)) h := w_ireti dX8_says_58 rfl
theorem X8_says_59 : iWp d mX8_says 59 [a0, a1, a2, .ref p] st h Q = iWp d mX8_says 60 [a0, a1, a2, .ref p] (.ref p :: st) h Q := w_aload_n dX8_says_59 rfl
theorem X8_says_59n : iWp d mX8_says 59 [a0, a1, a2, .null] st h Q = iWp d mX8_says 60 [a0, a1, a2, .null] (.null :: st) h Q := w_aload_nN dX8_says_59 rfl
theorem X8_says_60 : iWp d mX8_says 60 [a0, a1, .int x, a3] st h Q = iWp d mX8_says 61 [a0, a1, .int x, a3] (.int x :: st) h Q := w_iload_n dX8_says_60 rfl
theorem X8_says_61 (he : iEv mX3_isOf [.ref p, .int x0] h (some (.int rv)) h2) (ho : iObj h p 3 = true) : iWp 3 mX8_says 61 [a0, a1, a2, a3] [.int x0, .ref p] h Q = iWp 3 mX8_says 64 [a0, a1, a2, a3] [.int rv] h2 Q := iWp_cV dX8_says_61 fK_8_96 rfl rfl ho (Nat.le_of_ble_eq_true rfl) (Nat.le_of_ble_eq_true rfl) rfl (Nat.le_of_ble_eq_true rfl) he rfl
theorem X8_says_64 : iWp d mX8_says 64 [a0, a1, a2, a3] (.int x :: st) h Q = if x = 0 then iWp d mX8_says 67 [a0, a1, a2, a3] st h Q else iWp d mX8_says 74 [a0, a1, a2, a3] st h Q := w_ifc_ne dX8_says_64 rfl
theorem X8_says_67 : iWp d mX8_says 67 [.ref p, a1, a2, a3] st h Q = iWp d mX8_says 68 [.ref p, a1, a2, a3] (.ref p :: st) h Q := w_aload_n dX8_says_67 rfl
theorem X8_says_68 : iWp d mX8_says 68 [a0, a1, a2, a3] st h Q = iWp d mX8_says 70 [a0, a1, a2, a3] (.int (-2) :: st) h Q := w_bipush dX8_says_68 rfl
theorem X8_says_70 (he : iEv mX8_refuse [.ref p, .int x0] h (some (.int rv)) h2) (ho : iObj h p 8 = true) : iWp 3 mX8_says 70 [a0, a1, a2, a3] [.int x0, .ref p] h Q = iWp 3 mX8_says 73 [a0, a1, a2, a3] [.int rv] h2 Q := iWp_cV dX8_says_70 fK_8_50 rfl rfl ho (Nat.le_of_ble_eq_true rfl) (Nat.le_of_ble_eq_true rfl) rfl (Nat.le_of_ble_eq_true rfl) he rfl
theorem X8_says_73 : iWp d mX8_says 73 [a0, a1, a2, a3] [.int x] h Q = Q (some (.int x)) h := w_ireti dX8_says_73 rfl
theorem X8_says_74 : iWp d mX8_says 74 [a0, a1, a2, .ref p] st h Q = iWp d mX8_says 75 [a0, a1, a2, .ref p] (.ref p :: st) h Q := w_aload_n dX8_says_74 rfl
theorem X8_says_74n : iWp d mX8_says 74 [a0, a1, a2, .null] st h Q = iWp d mX8_says 75 [a0, a1, a2, .null] (.null :: st) h Q := w_aload_nN dX8_says_74 rfl
theorem X8_says_75 : iWp d mX8_says 75 [a0, a1, .int x, a3] st h Q = iWp d mX8_says 76 [a0, a1, .int x, a3] (.int x :: st) h Q := w_iload_n dX8_says_75 rfl
theorem X8_says_76 (he : iEv mX3_saysAs [.ref p, .int x0] h (some (.int rv)) h2) (ho : iObj h p 3 = true) : iWp 3 mX8_says 76 [a0, a1, a2, a3] [.int x0, .ref p] h Q = iWp 3 mX8_says 79 [a0, a1, a2, a3] [.int rv] h2 Q := iWp_cV dX8_says_76 fK_8_101 rfl rfl ho (Nat.le_of_ble_eq_true rfl) (Nat.le_of_ble_eq_true rfl) rfl (Nat.le_of_ble_eq_true rfl) he rfl
theorem X8_says_79 : iWp d mX8_says 79 [a0, a1, a2, a3] [.int x] h Q = Q (some (.int x)) h := w_ireti dX8_says_79 rfl
theorem I8_says {Q : Option Value → iHp → Prop} (hw : iWp 3 mX8_says 0 [.ref p, .int x0, .int x1, iU] [] h Q) : ∃ r h1, iEv mX8_says [.ref p, .int x0, .int x1] h r h1 ∧ Q r h1 := iEv_of (by rfl) rfl hw
theorem J8_says {r : Option Value} {h1 : iHp} (hw : iWp 3 mX8_says 0 [.ref p, .int x0, .int x1, iU] [] h (fun r' h' => r' = r ∧ h' = h1)) : iEv mX8_says [.ref p, .int x0, .int x1] h r h1 := iEv_ev (by rfl) rfl hw
theorem X8_seed_0 : iWp d mX8_seed 0 [.ref p, a1, a2] st h Q = iWp d mX8_seed 1 [.ref p, a1, a2] (.ref p :: st) h Q := w_aload_n dX8_seed_0 rfl
theorem X8_seed_1 : iWp d mX8_seed 1 [a0, a1, a2] (.ref p :: st) h Q = iOb (iGet h p 8 4) (fun v => iWp d mX8_seed 4 [a0, a1, a2] (v :: st) h Q) := w_getf dX8_seed_1 fF_8_32
theorem X8_seed_4 : iWp d mX8_seed 4 [a0, a1, a2] (.ref p :: st) h Q = iOb (iGet h p 6 4) (fun v => iWp d mX8_seed 7 [a0, a1, a2] (v :: st) h Q) := w_getf dX8_seed_4 fF_8_278
theorem X8_seed_7 : iWp d mX8_seed 7 [a0, a1, a2] (.int x :: st) h Q = iWp d mX8_seed 8 [a0, iClr a1, .int x] st h Q := w_istore_n dX8_seed_7 (Nat.le_of_ble_eq_true rfl) rfl
theorem X8_seed_8 : iWp d mX8_seed 8 [.ref p, a1, a2] st h Q = iWp d mX8_seed 9 [.ref p, a1, a2] (.ref p :: st) h Q := w_aload_n dX8_seed_8 rfl
theorem X8_seed_9 : iWp d mX8_seed 9 [a0, a1, a2] (.ref p :: st) h Q = iOb (iGet h p 8 4) (fun v => iWp d mX8_seed 12 [a0, a1, a2] (v :: st) h Q) := w_getf dX8_seed_9 fF_8_32
theorem X8_seed_12 : iWp d mX8_seed 12 [a0, .int x, a2] st h Q = iWp d mX8_seed 13 [a0, .int x, a2] (.int x :: st) h Q := w_iload_n dX8_seed_12 rfl
theorem X8_seed_13 : iWp d mX8_seed 13 [a0, a1, a2] (.int x :: .ref p :: st) h Q = iOb (iPut h p 6 4 (.int x)) (fun g => iWp d mX8_seed 16 [a0, a1, a2] st g Q) := w_putf dX8_seed_13 fF_8_278 ⟨rfl, (Or.inl rfl)⟩
theorem X8_seed_16 : iWp d mX8_seed 16 [a0, a1, .int x] st h Q = iWp d mX8_seed 17 [a0, a1, .int x] (.int x :: st) h Q := w_iload_n dX8_seed_16 rfl
theorem X8_seed_17 : iWp d mX8_seed 17 [a0, a1, a2] [.int x] h Q = Q (some (.int x)) h := w_ireti dX8_seed_17 rfl
theorem I8_seed {Q : Option Value → iHp → Prop} (hw : iWp 1 mX8_seed 0 [.ref p, .int x0, iU] [] h Q) : ∃ r h1, iEv mX8_seed [.ref p, .int x0] h r h1 ∧ Q r h1 := iEv_of (by rfl) rfl hw
theorem J8_seed {r : Option Value} {h1 : iHp} (hw : iWp 1 mX8_seed 0 [.ref p, .int x0, iU] [] h (fun r' h' => r' = r ∧ h' = h1)) : iEv mX8_seed [.ref p, .int x0] h r h1 := iEv_ev (by rfl) rfl hw
theorem X8_set_0 : iWp d mX8_set 0 [.ref p, a1, a2, a3, a4, a5] st h Q = iWp d mX8_set 1 [.ref p, a1, a2, a3, a4, a5] (.ref p :: st) h Q := w_aload_n dX8_set_0 rfl
theorem X8_set_1 : iWp d mX8_set 1 [a0, .int x, a2, a3, a4, a5] st h Q = iWp d mX8_set 2 [a0, .int x, a2, a3, a4, a5] (.int x :: st) h Q := w_iload_n dX8_set_1 rfl
theorem X8_set_2 (he : iEv mX8_rowAt [.ref p, .int x0] h (some rw) h2) (ho : iObj h p 8 = true) : iWp 3 mX8_set 2 [a0, a1, a2, a3, a4, a5] [.int x0, .ref p] h Q = iWp 3 mX8_set 5 [a0, a1, a2, a3, a4, a5] [rw] h2 Q := iWp_cV dX8_set_2 fK_8_57 rfl rfl ho (Nat.le_of_ble_eq_true rfl) (Nat.le_of_ble_eq_true rfl) rfl (Nat.le_of_ble_eq_true rfl) he rfl
theorem X8_set_5 : iWp d mX8_set 5 [a0, a1, a2, a3, a4, a5] (.ref p :: st) h Q = iWp d mX8_set 7 [a0, a1, a2, a3, iClr a4, .ref p] st h Q := w_astore dX8_set_5 (Nat.le_of_ble_eq_true rfl) rfl
theorem X8_set_5n : iWp d mX8_set 5 [a0, a1, a2, a3, a4, a5] (.null :: st) h Q = iWp d mX8_set 7 [a0, a1, a2, a3, iClr a4, .null] st h Q := w_astoreN dX8_set_5 (Nat.le_of_ble_eq_true rfl) rfl
theorem X8_set_7 : iWp d mX8_set 7 [a0, a1, a2, a3, a4, .ref p] st h Q = iWp d mX8_set 9 [a0, a1, a2, a3, a4, .ref p] (.ref p :: st) h Q := w_aload dX8_set_7 rfl
theorem X8_set_7n : iWp d mX8_set 7 [a0, a1, a2, a3, a4, .null] st h Q = iWp d mX8_set 9 [a0, a1, a2, a3, a4, .null] (.null :: st) h Q := w_aloadN dX8_set_7 rfl
theorem X8_set_9 : iWp d mX8_set 9 [a0, a1, a2, a3, a4, a5] (.ref p :: st) h Q = iWp d mX8_set 22 [a0, a1, a2, a3, a4, a5] st h Q := w_ifnonnull dX8_set_9 rfl
theorem X8_set_9n : iWp d mX8_set 9 [a0, a1, a2, a3, a4, a5] (.null :: st) h Q = iWp d mX8_set 12 [a0, a1, a2, a3, a4, a5] st h Q := w_ifnonnullN dX8_set_9
theorem X8_set_12 : iWp d mX8_set 12 [.ref p, a1, a2, a3, a4, a5] st h Q = iWp d mX8_set 13 [.ref p, a1, a2, a3, a4, a5] (.ref p :: st) h Q := w_aload_n dX8_set_12 rfl
theorem X8_set_13 : iWp d mX8_set 13 [.ref p, a1, a2, a3, a4, a5] st h Q = iWp d mX8_set 14 [.ref p, a1, a2, a3, a4, a5] (.ref p :: st) h Q := w_aload_n dX8_set_13 rfl
theorem X8_set_14 : iWp d mX8_set 14 [a0, .int x, a2, a3, a4, a5] st h Q = iWp d mX8_set 15 [a0, .int x, a2, a3, a4, a5] (.int x :: st) h Q := w_iload_n dX8_set_14 rfl
theorem X8_set_15 (he : iEv mX8_whyNoRow [.ref p, .int x0] h (some (.int rv)) h2) (ho : iObj h p 8 = true) : iWp 3 mX8_set 15 [a0, a1, a2, a3, a4, a5] [.int x0, .ref p, .ref t0] h Q = iWp 3 mX8_set 18 [a0, a1, a2, a3, a4, a5] [.int rv, .ref t0] h2 Q := iWp_cV dX8_set_15 fK_8_61 rfl rfl ho (Nat.le_of_ble_eq_true rfl) (Nat.le_of_ble_eq_true rfl) rfl (Nat.le_of_ble_eq_true rfl) he rfl
theorem X8_set_18 (he : iEv mX8_refuse [.ref p, .int x0] h (some (.int rv)) h2) (ho : iObj h p 8 = true) : iWp 3 mX8_set 18 [a0, a1, a2, a3, a4, a5] [.int x0, .ref p] h Q = iWp 3 mX8_set 21 [a0, a1, a2, a3, a4, a5] [.int rv] h2 Q := iWp_cV dX8_set_18 fK_8_50 rfl rfl ho (Nat.le_of_ble_eq_true rfl) (Nat.le_of_ble_eq_true rfl) rfl (Nat.le_of_ble_eq_true rfl) he rfl
theorem X8_set_21 : iWp d mX8_set 21 [a0, a1, a2, a3, a4, a5] [.int x] h Q = Q (some (.int x)) h := w_ireti dX8_set_21 rfl
theorem X8_set_22 : iWp d mX8_set 22 [a0, a1, a2, a3, a4, .ref p] st h Q = iWp d mX8_set 24 [a0, a1, a2, a3, a4, .ref p] (.ref p :: st) h Q := w_aload dX8_set_22 rfl
theorem X8_set_22n : iWp d mX8_set 22 [a0, a1, a2, a3, a4, .null] st h Q = iWp d mX8_set 24 [a0, a1, a2, a3, a4, .null] (.null :: st) h Q := w_aloadN dX8_set_22 rfl
theorem X8_set_24 : iWp d mX8_set 24 [a0, a1, .int x, a3, a4, a5] st h Q = iWp d mX8_set 25 [a0, a1, .int x, a3, a4, a5] (.int x :: st) h Q := w_iload_n dX8_set_24 rfl
theorem X8_set_25 (he : iEv mX5_has [.ref p, .int x0] h (some (.int rv)) h2) (ho : iObj h p 5 = true) : iWp 3 mX8_set 25 [a0, a1, a2, a3, a4, a5] [.int x0, .ref p] h Q = iWp 3 mX8_set 28 [a0, a1, a2, a3, a4, a5] [.int rv] h2 Q := iWp_cV dX8_set_25 fK_8_64 rfl rfl ho (Nat.le_of_ble_eq_true rfl) (Nat.le_of_ble_eq_true rfl) rfl (Nat.le_of_ble_eq_true rfl) he rfl
theorem X8_set_28 : iWp d mX8_set 28 [a0, a1, a2, a3, a4, a5] (.int x :: st) h Q = if x = 0 then iWp d mX8_set 31 [a0, a1, a2, a3, a4, a5] st h Q else iWp d mX8_set 38 [a0, a1, a2, a3, a4, a5] st h Q := w_ifc_ne dX8_set_28 rfl
theorem X8_set_31 : iWp d mX8_set 31 [.ref p, a1, a2, a3, a4, a5] st h Q = iWp d mX8_set 32 [.ref p, a1, a2, a3, a4, a5] (.ref p :: st) h Q := w_aload_n dX8_set_31 rfl
theorem X8_set_32 : iWp d mX8_set 32 [a0, a1, a2, a3, a4, a5] st h Q = iWp d mX8_set 34 [a0, a1, a2, a3, a4, a5] (.int (-5) :: st) h Q := w_bipush dX8_set_32 rfl
theorem X8_set_34 (he : iEv mX8_refuse [.ref p, .int x0] h (some (.int rv)) h2) (ho : iObj h p 8 = true) : iWp 3 mX8_set 34 [a0, a1, a2, a3, a4, a5] [.int x0, .ref p] h Q = iWp 3 mX8_set 37 [a0, a1, a2, a3, a4, a5] [.int rv] h2 Q := iWp_cV dX8_set_34 fK_8_50 rfl rfl ho (Nat.le_of_ble_eq_true rfl) (Nat.le_of_ble_eq_true rfl) rfl (Nat.le_of_ble_eq_true rfl) he rfl
theorem X8_set_37 : iWp d mX8_set 37 [a0, a1, a2, a3, a4, a5] [.int x] h Q = Q (some (.int x)) h := w_ireti dX8_set_37 rfl
theorem X8_set_38 : iWp d mX8_set 38 [a0, a1, a2, a3, a4, .ref p] st h Q = iWp d mX8_set 40 [a0, a1, a2, a3, a4, .ref p] (.ref p :: st) h Q := w_aload dX8_set_38 rfl
theorem X8_set_38n : iWp d mX8_set 38 [a0, a1, a2, a3, a4, .null] st h Q = iWp d mX8_set 40 [a0, a1, a2, a3, a4, .null] (.null :: st) h Q := w_aloadN dX8_set_38 rfl
theorem X8_set_40 : iWp d mX8_set 40 [a0, a1, .int x, a3, a4, a5] st h Q = iWp d mX8_set 41 [a0, a1, .int x, a3, a4, a5] (.int x :: st) h Q := w_iload_n dX8_set_40 rfl
theorem X8_set_41 : iWp d mX8_set 41 [a0, a1, a2, .long u, a4, a5] st h Q = iWp d mX8_set 42 [a0, a1, a2, .long u, a4, a5] (.long u :: st) h Q := w_lload_n dX8_set_41 rfl
theorem X8_set_42 (he : iEv mX5_keep [.ref p, .int x0, .long u1] h none h2) (ho : iObj h p 5 = true) : iWp 3 mX8_set 42 [a0, a1, a2, a3, a4, a5] [.long u1, .int x0, .ref p] h Q = iWp 3 mX8_set 45 [a0, a1, a2, a3, a4, a5] [] h2 Q := iWp_cV dX8_set_42 fK_8_67 rfl rfl ho (Nat.le_of_ble_eq_true rfl) (Nat.le_of_ble_eq_true rfl) rfl (Nat.le_of_ble_eq_true rfl) he rfl
theorem X8_set_45 : iWp d mX8_set 45 [a0, a1, a2, a3, a4, a5] st h Q = iWp d mX8_set 46 [a0, a1, a2, a3, a4, a5] (.int 1 :: st) h Q := w_iconst dX8_set_45 rfl
theorem X8_set_46 : iWp d mX8_set 46 [a0, a1, a2, a3, a4, a5] [.int x] h Q = Q (some (.int x)) h := w_ireti dX8_set_46 rfl
theorem I8_set {Q : Option Value → iHp → Prop} (hw : iWp 3 mX8_set 0 [.ref p, .int x0, .int x1, .long u2, iU, iU] [] h Q) : ∃ r h1, iEv mX8_set [.ref p, .int x0, .int x1, .long u2] h r h1 ∧ Q r h1 := iEv_of (by rfl) rfl hw
theorem J8_set {r : Option Value} {h1 : iHp} (hw : iWp 3 mX8_set 0 [.ref p, .int x0, .int x1, .long u2, iU, iU] [] h (fun r' h' => r' = r ∧ h' = h1)) : iEv mX8_set [.ref p, .int x0, .int x1, .long u2] h r h1 := iEv_ev (by rfl) rfl hw
theorem X8_show_0 : iWp d mX8_show 0 [a0, .int x, a2] st h Q = iWp d mX8_show 1 [a0, .int x, a2] (.int x :: st) h Q := w_iload_n dX8_show_0 rfl
theorem X8_show_1 (he : iEv mX8_isShelf [.int x0] h (some (.int rv)) h2) : iWp 3 mX8_show 1 [a0, a1, a2] [.int x0] h Q = iWp 3 mX8_show 4 [a0, a1, a2] [.int rv] h2 Q := iWp_cS dX8_show_1 fK_8_46 rfl rfl (Nat.le_of_ble_eq_true rfl) (Nat.le_of_ble_eq_true rfl) rfl (Nat.le_of_ble_eq_true rfl) he rfl
theorem X8_show_4 : iWp d mX8_show 4 [a0, a1, a2] (.int x :: st) h Q = if x = 0 then iWp d mX8_show 7 [a0, a1, a2] st h Q else iWp d mX8_show 13 [a0, a1, a2] st h Q := w_ifc_ne dX8_show_4 rfl
theorem X8_show_7 : iWp d mX8_show 7 [.ref p, a1, a2] st h Q = iWp d mX8_show 8 [.ref p, a1, a2] (.ref p :: st) h Q := w_aload_n dX8_show_7 rfl
theorem X8_show_8 : iWp d mX8_show 8 [a0, a1, a2] st h Q = iWp d mX8_show 9 [a0, a1, a2] (.int (-1) :: st) h Q := w_iconst dX8_show_8 rfl
theorem X8_show_9 (he : iEv mX8_refuse [.ref p, .int x0] h (some (.int rv)) h2) (ho : iObj h p 8 = true) : iWp 3 mX8_show 9 [a0, a1, a2] [.int x0, .ref p] h Q = iWp 3 mX8_show 12 [a0, a1, a2] [.int rv] h2 Q := iWp_cV dX8_show_9 fK_8_50 rfl rfl ho (Nat.le_of_ble_eq_true rfl) (Nat.le_of_ble_eq_true rfl) rfl (Nat.le_of_ble_eq_true rfl) he rfl
theorem X8_show_12 : iWp d mX8_show 12 [a0, a1, a2] [.int x] h Q = Q (some (.int x)) h := w_ireti dX8_show_12 rfl
theorem X8_show_13 : iWp d mX8_show 13 [a0, a1, .int x] st h Q = iWp d mX8_show 14 [a0, a1, .int x] (.int x :: st) h Q := w_iload_n dX8_show_13 rfl
theorem X8_show_14 : iWp d mX8_show 14 [a0, a1, a2] st h Q = iWp d mX8_show 15 [a0, a1, a2] (.int (-1) :: st) h Q := w_iconst dX8_show_14 rfl
theorem X8_show_15 : iWp d mX8_show 15 [a0, a1, a2] (.int y :: .int x :: st) h Q = if x = y then iWp d mX8_show 32 [a0, a1, a2] st h Q else iWp d mX8_show 18 [a0, a1, a2] st h Q := w_icmp_eq dX8_show_15 rfl
theorem X8_show_18 : iWp d mX8_show 18 [.ref p, a1, a2] st h Q = iWp d mX8_show 19 [.ref p, a1, a2] (.ref p :: st) h Q := w_aload_n dX8_show_18 rfl
theorem X8_show_19 : iWp d mX8_show 19 [a0, a1, .int x] st h Q = iWp d mX8_show 20 [a0, a1, .int x] (.int x :: st) h Q := w_iload_n dX8_show_19 rfl
theorem X8_show_20 (he : iEv mX8_patchAt [.ref p, .int x0] h (some rw) h2) (ho : iObj h p 8 = true) : iWp 3 mX8_show 20 [a0, a1, a2] [.int x0, .ref p] h Q = iWp 3 mX8_show 23 [a0, a1, a2] [rw] h2 Q := iWp_cV dX8_show_20 fK_8_92 rfl rfl ho (Nat.le_of_ble_eq_true rfl) (Nat.le_of_ble_eq_true rfl) rfl (Nat.le_of_ble_eq_true rfl) he rfl
theorem X8_show_23 : iWp d mX8_show 23 [a0, a1, a2] (.ref p :: st) h Q = iWp d mX8_show 32 [a0, a1, a2] st h Q := w_ifnonnull dX8_show_23 rfl
theorem X8_show_23n : iWp d mX8_show 23 [a0, a1, a2] (.null :: st) h Q = iWp d mX8_show 26 [a0, a1, a2] st h Q := w_ifnonnullN dX8_show_23
theorem X8_show_26 : iWp d mX8_show 26 [.ref p, a1, a2] st h Q = iWp d mX8_show 27 [.ref p, a1, a2] (.ref p :: st) h Q := w_aload_n dX8_show_26 rfl
theorem X8_show_27 : iWp d mX8_show 27 [a0, a1, a2] st h Q = iWp d mX8_show 28 [a0, a1, a2] (.int (-1) :: st) h Q := w_iconst dX8_show_27 rfl
theorem X8_show_28 (he : iEv mX8_refuse [.ref p, .int x0] h (some (.int rv)) h2) (ho : iObj h p 8 = true) : iWp 3 mX8_show 28 [a0, a1, a2] [.int x0, .ref p] h Q = iWp 3 mX8_show 31 [a0, a1, a2] [.int rv] h2 Q := iWp_cV dX8_show_28 fK_8_50 rfl rfl ho (Nat.le_of_ble_eq_true rfl) (Nat.le_of_ble_eq_true rfl) rfl (Nat.le_of_ble_eq_true rfl) he rfl
theorem X8_show_31 : iWp d mX8_show 31 [a0, a1, a2] [.int x] h Q = Q (some (.int x)) h := w_ireti dX8_show_31 rfl
theorem X8_show_32 : iWp d mX8_show 32 [.ref p, a1, a2] st h Q = iWp d mX8_show 33 [.ref p, a1, a2] (.ref p :: st) h Q := w_aload_n dX8_show_32 rfl
theorem X8_show_33 : iWp d mX8_show 33 [a0, a1, a2] (.ref p :: st) h Q = iOb (iGet h p 8 0) (fun v => iWp d mX8_show 36 [a0, a1, a2] (v :: st) h Q) := w_getf dX8_show_33 fF_8_11
theorem X8_show_36 : iWp d mX8_show 36 [a0, .int x, a2] st h Q = iWp d mX8_show 37 [a0, .int x, a2] (.int x :: st) h Q := w_iload_n dX8_show_36 rfl
theorem X8_show_37 : iWp d mX8_show 37 [a0, a1, a2] st h Q = iWp d mX8_show 38 [a0, a1, a2] (.null :: st) h Q := w_null dX8_show_37
theorem X8_show_38 : iWp d mX8_show 38 [a0, a1, a2] (.ref q :: .int x :: .ref p :: st) h Q = iOb (iStQ h p x (some q)) (fun g => iWp d mX8_show 39 [a0, a1, a2] st g Q) := w_aastore dX8_show_38
theorem X8_show_38n : iWp d mX8_show 38 [a0, a1, a2] (.null :: .int x :: .ref p :: st) h Q = iOb (iStQ h p x none) (fun g => iWp d mX8_show 39 [a0, a1, a2] st g Q) := w_aastoreN dX8_show_38
theorem X8_show_39 : iWp d mX8_show 39 [.ref p, a1, a2] st h Q = iWp d mX8_show 40 [.ref p, a1, a2] (.ref p :: st) h Q := w_aload_n dX8_show_39 rfl
theorem X8_show_40 : iWp d mX8_show 40 [a0, a1, a2] (.ref p :: st) h Q = iOb (iGet h p 8 1) (fun v => iWp d mX8_show 43 [a0, a1, a2] (v :: st) h Q) := w_getf dX8_show_40 fF_8_15
theorem X8_show_43 : iWp d mX8_show 43 [a0, .int x, a2] st h Q = iWp d mX8_show 44 [a0, .int x, a2] (.int x :: st) h Q := w_iload_n dX8_show_43 rfl
theorem X8_show_44 : iWp d mX8_show 44 [a0, a1, .int x] st h Q = iWp d mX8_show 45 [a0, a1, .int x] (.int x :: st) h Q := w_iload_n dX8_show_44 rfl
theorem X8_show_45 : iWp d mX8_show 45 [a0, a1, a2] (.int y :: .int x :: .ref p :: st) h Q = iOb (iStI h p x y) (fun g => iWp d mX8_show 46 [a0, a1, a2] st g Q) := w_iastore dX8_show_45
theorem X8_show_46 : iWp d mX8_show 46 [a0, a1, .int x] st h Q = iWp d mX8_show 47 [a0, a1, .int x] (.int x :: st) h Q := w_iload_n dX8_show_46 rfl
theorem X8_show_47 : iWp d mX8_show 47 [a0, a1, a2] st h Q = iWp d mX8_show 48 [a0, a1, a2] (.int (-1) :: st) h Q := w_iconst dX8_show_47 rfl
theorem X8_show_48 : iWp d mX8_show 48 [a0, a1, a2] (.int y :: .int x :: st) h Q = if x = y then iWp d mX8_show 51 [a0, a1, a2] st h Q else iWp d mX8_show 55 [a0, a1, a2] st h Q := w_icmp_ne dX8_show_48 rfl
theorem X8_show_51 : iWp d mX8_show 51 [a0, a1, a2] st h Q = iWp d mX8_show 52 [a0, a1, a2] (.int 0 :: st) h Q := w_iconst dX8_show_51 rfl
theorem X8_show_52 : iWp d mX8_show 52 [a0, a1, a2] st h Q = iWp d mX8_show 56 [a0, a1, a2] st h Q := w_goto dX8_show_52 rfl
theorem X8_show_55 : iWp d mX8_show 55 [a0, a1, a2] st h Q = iWp d mX8_show 56 [a0, a1, a2] (.int 1 :: st) h Q := w_iconst dX8_show_55 rfl
theorem X8_show_56 : iWp d mX8_show 56 [a0, a1, a2] [.int x] h Q = Q (some (.int x)) h := w_ireti dX8_show_56 rfl
theorem I8_show {Q : Option Value → iHp → Prop} (hw : iWp 3 mX8_show 0 [.ref p, .int x0, .int x1] [] h Q) : ∃ r h1, iEv mX8_show [.ref p, .int x0, .int x1] h r h1 ∧ Q r h1 := iEv_of (by rfl) rfl hw
theorem J8_show {r : Option Value} {h1 : iHp} (hw : iWp 3 mX8_show 0 [.ref p, .int x0, .int x1] [] h (fun r' h' => r' = r ∧ h' = h1)) : iEv mX8_show [.ref p, .int x0, .int x1] h r h1 := iEv_ev (by rfl) rfl hw
theorem X8_squeeze_0 : iWp d mX8_squeeze 0 [.ref p, a1, a2, a3] st h Q = iWp d mX8_squeeze 1 [.ref p, a1, a2, a3] (.ref p :: st) h Q := w_aload_n dX8_squeeze_0 rfl
theorem X8_squeeze_1 : iWp d mX8_squeeze 1 [a0, .int x, a2, a3] st h Q = iWp d mX8_squeeze 2 [a0, .int x, a2, a3] (.int x :: st) h Q := w_iload_n dX8_squeeze_1 rfl
theorem X8_squeeze_2 (he : iEv mX8_patchAt [.ref p, .int x0] h (some rw) h2) (ho : iObj h p 8 = true) : iWp 5 mX8_squeeze 2 [a0, a1, a2, a3] [.int x0, .ref p] h Q = iWp 5 mX8_squeeze 5 [a0, a1, a2, a3] [rw] h2 Q := iWp_cV dX8_squeeze_2 fK_8_92 rfl rfl ho (Nat.le_of_ble_eq_true rfl) (Nat.le_of_ble_eq_true rfl) rfl (Nat.le_of_ble_eq_true rfl) he rfl
theorem X8_squeeze_5 : iWp d mX8_squeeze 5 [a0, a1, a2, a3] (.ref p :: st) h Q = iWp d mX8_squeeze 6 [a0, iClr a1, .ref p, a3] st h Q := w_astore_n dX8_squeeze_5 (Nat.le_of_ble_eq_true rfl) rfl
theorem X8_squeeze_5n : iWp d mX8_squeeze 5 [a0, a1, a2, a3] (.null :: st) h Q = iWp d mX8_squeeze 6 [a0, iClr a1, .null, a3] st h Q := w_astore_nN dX8_squeeze_5 (Nat.le_of_ble_eq_true rfl) rfl
theorem X8_squeeze_6 : iWp d mX8_squeeze 6 [a0, a1, .ref p, a3] st h Q = iWp d mX8_squeeze 7 [a0, a1, .ref p, a3] (.ref p :: st) h Q := w_aload_n dX8_squeeze_6 rfl
theorem X8_squeeze_6n : iWp d mX8_squeeze 6 [a0, a1, .null, a3] st h Q = iWp d mX8_squeeze 7 [a0, a1, .null, a3] (.null :: st) h Q := w_aload_nN dX8_squeeze_6 rfl
theorem X8_squeeze_7 : iWp d mX8_squeeze 7 [a0, a1, a2, a3] (.ref p :: st) h Q = iWp d mX8_squeeze 16 [a0, a1, a2, a3] st h Q := w_ifnonnull dX8_squeeze_7 rfl
theorem X8_squeeze_7n : iWp d mX8_squeeze 7 [a0, a1, a2, a3] (.null :: st) h Q = iWp d mX8_squeeze 10 [a0, a1, a2, a3] st h Q := w_ifnonnullN dX8_squeeze_7
theorem X8_squeeze_10 : iWp d mX8_squeeze 10 [.ref p, a1, a2, a3] st h Q = iWp d mX8_squeeze 11 [.ref p, a1, a2, a3] (.ref p :: st) h Q := w_aload_n dX8_squeeze_10 rfl
theorem X8_squeeze_11 : iWp d mX8_squeeze 11 [a0, a1, a2, a3] st h Q = iWp d mX8_squeeze 12 [a0, a1, a2, a3] (.int (-1) :: st) h Q := w_iconst dX8_squeeze_11 rfl
theorem X8_squeeze_12 (he : iEv mX8_refuse [.ref p, .int x0] h (some (.int rv)) h2) (ho : iObj h p 8 = true) : iWp 5 mX8_squeeze 12 [a0, a1, a2, a3] [.int x0, .ref p] h Q = iWp 5 mX8_squeeze 15 [a0, a1, a2, a3] [.int rv] h2 Q := iWp_cV dX8_squeeze_12 fK_8_50 rfl rfl ho (Nat.le_of_ble_eq_true rfl) (Nat.le_of_ble_eq_true rfl) rfl (Nat.le_of_ble_eq_true rfl) he rfl
theorem X8_squeeze_15 : iWp d mX8_squeeze 15 [a0, a1, a2, a3] [.int x] h Q = Q (some (.int x)) h := w_ireti dX8_squeeze_15 rfl
theorem X8_squeeze_16 : iWp d mX8_squeeze 16 [.ref p, a1, a2, a3] st h Q = iWp d mX8_squeeze 17 [.ref p, a1, a2, a3] (.ref p :: st) h Q := w_aload_n dX8_squeeze_16 rfl
theorem X8_squeeze_17 : iWp d mX8_squeeze 17 [a0, a1, a2, a3] (.ref p :: st) h Q = iOb (iGet h p 8 3) (fun v => iWp d mX8_squeeze 20 [a0, a1, a2, a3] (v :: st) h Q) := w_getf dX8_squeeze_17 fF_8_25
theorem X8_squeeze_20 (he : iEv mX1_clear [.ref p] h none h2) (ho : iObj h p 1 = true) : iWp 5 mX8_squeeze 20 [a0, a1, a2, a3] [.ref p] h Q = iWp 5 mX8_squeeze 23 [a0, a1, a2, a3] [] h2 Q := iWp_cV dX8_squeeze_20 fK_8_222 rfl rfl ho (Nat.le_of_ble_eq_true rfl) (Nat.le_of_ble_eq_true rfl) rfl (Nat.le_of_ble_eq_true rfl) he rfl
theorem X8_squeeze_23 : iWp d mX8_squeeze 23 [a0, a1, a2, a3] st h Q = iWp d mX8_squeeze 24 [a0, a1, a2, a3] (.int 0 :: st) h Q := w_iconst dX8_squeeze_23 rfl
theorem X8_squeeze_24 : iWp d mX8_squeeze 24 [a0, a1, a2, a3] (.int x :: st) h Q = iWp d mX8_squeeze 25 [a0, a1, iClr a2, .int x] st h Q := w_istore_n dX8_squeeze_24 (Nat.le_of_ble_eq_true rfl) rfl
theorem X8_squeeze_25 : iWp d mX8_squeeze 25 [a0, a1, a2, .int x] st h Q = iWp d mX8_squeeze 26 [a0, a1, a2, .int x] (.int x :: st) h Q := w_iload_n dX8_squeeze_25 rfl
theorem X8_squeeze_26 : iWp d mX8_squeeze 26 [a0, a1, .ref p, a3] st h Q = iWp d mX8_squeeze 27 [a0, a1, .ref p, a3] (.ref p :: st) h Q := w_aload_n dX8_squeeze_26 rfl
theorem X8_squeeze_26n : iWp d mX8_squeeze 26 [a0, a1, .null, a3] st h Q = iWp d mX8_squeeze 27 [a0, a1, .null, a3] (.null :: st) h Q := w_aload_nN dX8_squeeze_26 rfl
theorem X8_squeeze_27 (he : iEv mX3_size [.ref p] h (some (.int rv)) h2) (ho : iObj h p 3 = true) : iWp 5 mX8_squeeze 27 [a0, a1, a2, a3] [.ref p, .int r0] h Q = iWp 5 mX8_squeeze 30 [a0, a1, a2, a3] [.int rv, .int r0] h2 Q := iWp_cV dX8_squeeze_27 fK_8_188 rfl rfl ho (Nat.le_of_ble_eq_true rfl) (Nat.le_of_ble_eq_true rfl) rfl (Nat.le_of_ble_eq_true rfl) he rfl
theorem X8_squeeze_30 : iWp d mX8_squeeze 30 [a0, a1, a2, a3] (.int y :: .int x :: st) h Q = if y ≤ x then iWp d mX8_squeeze 51 [a0, a1, a2, a3] st h Q else iWp d mX8_squeeze 33 [a0, a1, a2, a3] st h Q := w_icmp_ge dX8_squeeze_30 rfl
theorem X8_squeeze_33 : iWp d mX8_squeeze 33 [.ref p, a1, a2, a3] st h Q = iWp d mX8_squeeze 34 [.ref p, a1, a2, a3] (.ref p :: st) h Q := w_aload_n dX8_squeeze_33 rfl
theorem X8_squeeze_34 : iWp d mX8_squeeze 34 [a0, a1, a2, a3] (.ref p :: st) h Q = iOb (iGet h p 8 3) (fun v => iWp d mX8_squeeze 37 [a0, a1, a2, a3] (v :: st) h Q) := w_getf dX8_squeeze_34 fF_8_25
theorem X8_squeeze_37 : iWp d mX8_squeeze 37 [a0, a1, .ref p, a3] st h Q = iWp d mX8_squeeze 38 [a0, a1, .ref p, a3] (.ref p :: st) h Q := w_aload_n dX8_squeeze_37 rfl
theorem X8_squeeze_37n : iWp d mX8_squeeze 37 [a0, a1, .null, a3] st h Q = iWp d mX8_squeeze 38 [a0, a1, .null, a3] (.null :: st) h Q := w_aload_nN dX8_squeeze_37 rfl
theorem X8_squeeze_38 : iWp d mX8_squeeze 38 [a0, a1, a2, .int x] st h Q = iWp d mX8_squeeze 39 [a0, a1, a2, .int x] (.int x :: st) h Q := w_iload_n dX8_squeeze_38 rfl
theorem X8_squeeze_39 (he : iEv mX3_editAt [.ref p, .int x0] h (some rw) h2) (ho : iObj h p 3 = true) : iWp 5 mX8_squeeze 39 [a0, a1, a2, a3] [.int x0, .ref p, .ref t0] h Q = iWp 5 mX8_squeeze 42 [a0, a1, a2, a3] [rw, .ref t0] h2 Q := iWp_cV dX8_squeeze_39 fK_8_194 rfl rfl ho (Nat.le_of_ble_eq_true rfl) (Nat.le_of_ble_eq_true rfl) rfl (Nat.le_of_ble_eq_true rfl) he rfl
theorem X8_squeeze_42 (he : iEv mX1_addSqueezed [.ref p, b0] h none h2) (ho : iObj h p 1 = true) (c0 : b0.category = 1) : iWp 5 mX8_squeeze 42 [a0, a1, a2, a3] [b0, .ref p] h Q = iWp 5 mX8_squeeze 45 [a0, a1, a2, a3] [] h2 Q := iWp_cV dX8_squeeze_42 fK_8_237 rfl rfl ho (Nat.le_of_ble_eq_true rfl) (Nat.le_of_ble_eq_true rfl) (by simp [iInit, cat_i, cat_r, cat_l, mX1_addSqueezed, c0]) (Nat.le_of_ble_eq_true rfl) he rfl
theorem X8_squeeze_45 : iWp d mX8_squeeze 45 [a0, a1, a2, .int x] st h Q = iWp d mX8_squeeze 48 [a0, a1, iClr a2, .int (x + 1)] st h Q := w_iinc dX8_squeeze_45 rfl (Nat.le_of_ble_eq_true rfl) rfl
theorem X8_squeeze_48 : iWp d mX8_squeeze 48 [a0, a1, a2, a3] st h Q = iWp d mX8_squeeze 25 [a0, a1, a2, a3] st h Q := w_goto dX8_squeeze_48 rfl
theorem X8_squeeze_51 : iWp d mX8_squeeze 51 [.ref p, a1, a2, a3] st h Q = iWp d mX8_squeeze 52 [.ref p, a1, a2, a3] (.ref p :: st) h Q := w_aload_n dX8_squeeze_51 rfl
theorem X8_squeeze_52 : iWp d mX8_squeeze 52 [a0, a1, a2, a3] st h Q = iWp d mX8_squeeze 53 [a0, a1, a2, a3] (.int 2 :: st) h Q := w_iconst dX8_squeeze_52 rfl
theorem X8_squeeze_53 : iWp d mX8_squeeze 53 [a0, .int x, a2, a3] st h Q = iWp d mX8_squeeze 54 [a0, .int x, a2, a3] (.int x :: st) h Q := w_iload_n dX8_squeeze_53 rfl
theorem X8_squeeze_54 (he : iEv mX8_keepDraft [.ref p, .int x0, .int x1] h (some (.int rv)) h2) (ho : iObj h p 8 = true) : iWp 5 mX8_squeeze 54 [a0, a1, a2, a3] [.int x1, .int x0, .ref p] h Q = iWp 5 mX8_squeeze 57 [a0, a1, a2, a3] [.int rv] h2 Q := iWp_cV dX8_squeeze_54 fK_8_181 rfl rfl ho (Nat.le_of_ble_eq_true rfl) (Nat.le_of_ble_eq_true rfl) rfl (Nat.le_of_ble_eq_true rfl) he rfl
theorem X8_squeeze_57 : iWp d mX8_squeeze 57 [a0, a1, a2, a3] [.int x] h Q = Q (some (.int x)) h := w_ireti dX8_squeeze_57 rfl
theorem I8_squeeze {Q : Option Value → iHp → Prop} (hw : iWp 5 mX8_squeeze 0 [.ref p, .int x0, iU, iU] [] h Q) : ∃ r h1, iEv mX8_squeeze [.ref p, .int x0] h r h1 ∧ Q r h1 := iEv_of (by rfl) rfl hw
theorem J8_squeeze {r : Option Value} {h1 : iHp} (hw : iWp 5 mX8_squeeze 0 [.ref p, .int x0, iU, iU] [] h (fun r' h' => r' = r ∧ h' = h1)) : iEv mX8_squeeze [.ref p, .int x0] h r h1 := iEv_ev (by rfl) rfl hw
theorem X8_status_0 : iWp d mX8_status 0 [a0, .int x] st h Q = iWp d mX8_status 1 [a0, .int x] (.int x :: st) h Q := w_iload_n dX8_status_0 rfl
theorem X8_status_1 : iWp d mX8_status 1 [a0, a1] st h Q = iWp d mX8_status 3 [a0, a1] (.int 10 :: st) h Q := w_bipush dX8_status_1 rfl
theorem X8_status_3 : iWp d mX8_status 3 [a0, a1] (.int y :: .int x :: st) h Q = if x ≤ y then iWp d mX8_status 22 [a0, a1] st h Q else iWp d mX8_status 6 [a0, a1] st h Q := w_icmp_le dX8_status_3 rfl
theorem X8_status_6 : iWp d mX8_status 6 [a0, .int x] st h Q = iWp d mX8_status 7 [a0, .int x] (.int x :: st) h Q := w_iload_n dX8_status_6 rfl
theorem X8_status_7 : iWp d mX8_status 7 [a0, a1] st h Q = iWp d mX8_status 9 [a0, a1] (.int 17 :: st) h Q := w_bipush dX8_status_7 rfl
theorem X8_status_9 : iWp d mX8_status 9 [a0, a1] (.int y :: .int x :: st) h Q = if y < x then iWp d mX8_status 22 [a0, a1] st h Q else iWp d mX8_status 12 [a0, a1] st h Q := w_icmp_gt dX8_status_9 rfl
theorem X8_status_12 : iWp d mX8_status 12 [.ref p, a1] st h Q = iWp d mX8_status 13 [.ref p, a1] (.ref p :: st) h Q := w_aload_n dX8_status_12 rfl
theorem X8_status_13 : iWp d mX8_status 13 [a0, a1] (.ref p :: st) h Q = iOb (iGet h p 8 2) (fun v => iWp d mX8_status 16 [a0, a1] (v :: st) h Q) := w_getf dX8_status_13 fF_8_19
theorem X8_status_16 : iWp d mX8_status 16 [a0, .int x] st h Q = iWp d mX8_status 17 [a0, .int x] (.int x :: st) h Q := w_iload_n dX8_status_16 rfl
theorem X8_status_17 : iWp d mX8_status 17 [a0, a1] st h Q = iWp d mX8_status 19 [a0, a1] (.int 10 :: st) h Q := w_bipush dX8_status_17 rfl
theorem X8_status_19 : iWp d mX8_status 19 [a0, a1] (.int y :: .int x :: st) h Q = iWp d mX8_status 20 [a0, a1] (.int (x - y) :: st) h Q := w_isub dX8_status_19
theorem X8_status_20 : iWp d mX8_status 20 [a0, a1] (.int x :: .ref p :: st) h Q = iOb (iLdI h p x) (fun v => iWp d mX8_status 21 [a0, a1] (.int v :: st) h Q) := w_iaload dX8_status_20
theorem X8_status_21 : iWp d mX8_status 21 [a0, a1] [.int x] h Q = Q (some (.int x)) h := w_ireti dX8_status_21 rfl
theorem X8_status_22 : iWp d mX8_status 22 [a0, .int x] st h Q = iWp d mX8_status 23 [a0, .int x] (.int x :: st) h Q := w_iload_n dX8_status_22 rfl
theorem X8_status_23_0 : iWp d mX8_status 23 [a0, a1] (.int 0 :: st) h Q = iWp d mX8_status 64 [a0, a1] st h Q := w_switch dX8_status_23 rfl rfl rfl
theorem X8_status_23_1 : iWp d mX8_status 23 [a0, a1] (.int 1 :: st) h Q = iWp d mX8_status 72 [a0, a1] st h Q := w_switch dX8_status_23 rfl rfl rfl
theorem X8_status_23_2 : iWp d mX8_status 23 [a0, a1] (.int 2 :: st) h Q = iWp d mX8_status 80 [a0, a1] st h Q := w_switch dX8_status_23 rfl rfl rfl
theorem X8_status_23_3 : iWp d mX8_status 23 [a0, a1] (.int 3 :: st) h Q = iWp d mX8_status 88 [a0, a1] st h Q := w_switch dX8_status_23 rfl rfl rfl
theorem X8_status_23_4 : iWp d mX8_status 23 [a0, a1] (.int 4 :: st) h Q = iWp d mX8_status 96 [a0, a1] st h Q := w_switch dX8_status_23 rfl rfl rfl
theorem X8_status_23_5 : iWp d mX8_status 23 [a0, a1] (.int 5 :: st) h Q = iWp d mX8_status 101 [a0, a1] st h Q := w_switch dX8_status_23 rfl rfl rfl
theorem X8_status_23_6 : iWp d mX8_status 23 [a0, a1] (.int 6 :: st) h Q = iWp d mX8_status 109 [a0, a1] st h Q := w_switch dX8_status_23 rfl rfl rfl
theorem X8_status_23_d (hx : x.toInt < 0 ∨ 6 < x.toInt) : iWp d mX8_status 23 [a0, a1] (.int x :: st) h Q = iWp d mX8_status 114 [a0, a1] st h Q := w_switchD dX8_status_23 hx rfl
theorem X8_status_64 : iWp d mX8_status 64 [.ref p, a1] st h Q = iWp d mX8_status 65 [.ref p, a1] (.ref p :: st) h Q := w_aload_n dX8_status_64 rfl
theorem X8_status_65 : iWp d mX8_status 65 [a0, a1] (.ref p :: st) h Q = iOb (iGet h p 8 4) (fun v => iWp d mX8_status 68 [a0, a1] (v :: st) h Q) := w_getf dX8_status_65 fF_8_32
theorem X8_status_68 : iWp d mX8_status 68 [a0, a1] (.ref p :: st) h Q = iOb (iGet h p 6 2) (fun v => iWp d mX8_status 71 [a0, a1] (v :: st) h Q) := w_getf dX8_status_68 fF_8_169
theorem X8_status_71 : iWp d mX8_status 71 [a0, a1] [.int x] h Q = Q (some (.int x)) h := w_ireti dX8_status_71 rfl
theorem X8_status_72 : iWp d mX8_status 72 [.ref p, a1] st h Q = iWp d mX8_status 73 [.ref p, a1] (.ref p :: st) h Q := w_aload_n dX8_status_72 rfl
theorem X8_status_73 : iWp d mX8_status 73 [a0, a1] (.ref p :: st) h Q = iOb (iGet h p 8 4) (fun v => iWp d mX8_status 76 [a0, a1] (v :: st) h Q) := w_getf dX8_status_73 fF_8_32
theorem X8_status_76 : iWp d mX8_status 76 [a0, a1] (.ref p :: st) h Q = iOb (iGet h p 6 3) (fun v => iWp d mX8_status 79 [a0, a1] (v :: st) h Q) := w_getf dX8_status_76 fF_8_259
theorem X8_status_79 : iWp d mX8_status 79 [a0, a1] [.int x] h Q = Q (some (.int x)) h := w_ireti dX8_status_79 rfl
theorem X8_status_80 : iWp d mX8_status 80 [.ref p, a1] st h Q = iWp d mX8_status 81 [.ref p, a1] (.ref p :: st) h Q := w_aload_n dX8_status_80 rfl
theorem X8_status_81 : iWp d mX8_status 81 [a0, a1] (.ref p :: st) h Q = iOb (iGet h p 8 4) (fun v => iWp d mX8_status 84 [a0, a1] (v :: st) h Q) := w_getf dX8_status_81 fF_8_32
theorem X8_status_84 (he : iEv mX6_nodeCount [.ref p] h (some (.int rv)) h2) (ho : iObj h p 6 = true) : iWp 3 mX8_status 84 [a0, a1] [.ref p] h Q = iWp 3 mX8_status 87 [a0, a1] [.int rv] h2 Q := iWp_cV dX8_status_84 fK_8_284 rfl rfl ho (Nat.le_of_ble_eq_true rfl) (Nat.le_of_ble_eq_true rfl) rfl (Nat.le_of_ble_eq_true rfl) he rfl
theorem X8_status_87 : iWp d mX8_status 87 [a0, a1] [.int x] h Q = Q (some (.int x)) h := w_ireti dX8_status_87 rfl
theorem X8_status_88 : iWp d mX8_status 88 [.ref p, a1] st h Q = iWp d mX8_status 89 [.ref p, a1] (.ref p :: st) h Q := w_aload_n dX8_status_88 rfl
theorem X8_status_89 : iWp d mX8_status 89 [a0, a1] (.ref p :: st) h Q = iOb (iGet h p 8 4) (fun v => iWp d mX8_status 92 [a0, a1] (v :: st) h Q) := w_getf dX8_status_89 fF_8_32
theorem X8_status_92 (he : iEv mX6_editCount [.ref p] h (some (.int rv)) h2) (ho : iObj h p 6 = true) : iWp 3 mX8_status 92 [a0, a1] [.ref p] h Q = iWp 3 mX8_status 95 [a0, a1] [.int rv] h2 Q := iWp_cV dX8_status_92 fK_8_287 rfl rfl ho (Nat.le_of_ble_eq_true rfl) (Nat.le_of_ble_eq_true rfl) rfl (Nat.le_of_ble_eq_true rfl) he rfl
theorem X8_status_95 : iWp d mX8_status 95 [a0, a1] [.int x] h Q = Q (some (.int x)) h := w_ireti dX8_status_95 rfl
theorem X8_status_96 : iWp d mX8_status 96 [.ref p, a1] st h Q = iWp d mX8_status 97 [.ref p, a1] (.ref p :: st) h Q := w_aload_n dX8_status_96 rfl
theorem X8_status_97 : iWp d mX8_status 97 [a0, a1] (.ref p :: st) h Q = iOb (iGet h p 8 7) (fun v => iWp d mX8_status 100 [a0, a1] (v :: st) h Q) := w_getf dX8_status_97 fF_8_43
theorem X8_status_100 : iWp d mX8_status 100 [a0, a1] [.int x] h Q = Q (some (.int x)) h := w_ireti dX8_status_100 rfl
theorem X8_status_101 : iWp d mX8_status 101 [.ref p, a1] st h Q = iWp d mX8_status 102 [.ref p, a1] (.ref p :: st) h Q := w_aload_n dX8_status_101 rfl
theorem X8_status_102 : iWp d mX8_status 102 [a0, a1] (.ref p :: st) h Q = iOb (iGet h p 8 4) (fun v => iWp d mX8_status 105 [a0, a1] (v :: st) h Q) := w_getf dX8_status_102 fF_8_32
theorem X8_status_105 : iWp d mX8_status 105 [a0, a1] (.ref p :: st) h Q = iOb (iGet h p 6 4) (fun v => iWp d mX8_status 108 [a0, a1] (v :: st) h Q) := w_getf dX8_status_105 fF_8_278
theorem X8_status_108 : iWp d mX8_status 108 [a0, a1] [.int x] h Q = Q (some (.int x)) h := w_ireti dX8_status_108 rfl
theorem X8_status_109 : iWp d mX8_status 109 [.ref p, a1] st h Q = iWp d mX8_status 110 [.ref p, a1] (.ref p :: st) h Q := w_aload_n dX8_status_109 rfl
theorem X8_status_110 (he : iEv mX8_fullShelves [.ref p] h (some (.int rv)) h2) (ho : iObj h p 8 = true) : iWp 3 mX8_status 110 [a0, a1] [.ref p] h Q = iWp 3 mX8_status 113 [a0, a1] [.int rv] h2 Q := iWp_cV dX8_status_110 fK_8_290 rfl rfl ho (Nat.le_of_ble_eq_true rfl) (Nat.le_of_ble_eq_true rfl) rfl (Nat.le_of_ble_eq_true rfl) he rfl
theorem X8_status_113 : iWp d mX8_status 113 [a0, a1] [.int x] h Q = Q (some (.int x)) h := w_ireti dX8_status_113 rfl
theorem X8_status_114 : iWp d mX8_status 114 [a0, a1] st h Q = iWp d mX8_status 115 [a0, a1] (.int (-1) :: st) h Q := w_iconst dX8_status_114 rfl
theorem X8_status_115 : iWp d mX8_status 115 [a0, a1] [.int x] h Q = Q (some (.int x)) h := w_ireti dX8_status_115 rfl
theorem I8_status {Q : Option Value → iHp → Prop} (hw : iWp 3 mX8_status 0 [.ref p, .int x0] [] h Q) : ∃ r h1, iEv mX8_status [.ref p, .int x0] h r h1 ∧ Q r h1 := iEv_of (by rfl) rfl hw
theorem J8_status {r : Option Value} {h1 : iHp} (hw : iWp 3 mX8_status 0 [.ref p, .int x0] [] h (fun r' h' => r' = r ∧ h' = h1)) : iEv mX8_status [.ref p, .int x0] h r h1 := iEv_ev (by rfl) rfl hw
theorem X8_sticks_0 : iWp d mX8_sticks 0 [.ref p, a1, a2, a3, a4] st h Q = iWp d mX8_sticks 1 [.ref p, a1, a2, a3, a4] (.ref p :: st) h Q := w_aload_n dX8_sticks_0 rfl
theorem X8_sticks_1 : iWp d mX8_sticks 1 [a0, .int x, a2, a3, a4] st h Q = iWp d mX8_sticks 2 [a0, .int x, a2, a3, a4] (.int x :: st) h Q := w_iload_n dX8_sticks_1 rfl
theorem X8_sticks_2 (he : iEv mX8_patchAt [.ref p, .int x0] h (some rw) h2) (ho : iObj h p 8 = true) : iWp 7 mX8_sticks 2 [a0, a1, a2, a3, a4] [.int x0, .ref p] h Q = iWp 7 mX8_sticks 5 [a0, a1, a2, a3, a4] [rw] h2 Q := iWp_cV dX8_sticks_2 fK_8_92 rfl rfl ho (Nat.le_of_ble_eq_true rfl) (Nat.le_of_ble_eq_true rfl) rfl (Nat.le_of_ble_eq_true rfl) he rfl
theorem X8_sticks_5 : iWp d mX8_sticks 5 [a0, a1, a2, a3, a4] (.ref p :: st) h Q = iWp d mX8_sticks 6 [a0, a1, iClr a2, .ref p, a4] st h Q := w_astore_n dX8_sticks_5 (Nat.le_of_ble_eq_true rfl) rfl
theorem X8_sticks_5n : iWp d mX8_sticks 5 [a0, a1, a2, a3, a4] (.null :: st) h Q = iWp d mX8_sticks 6 [a0, a1, iClr a2, .null, a4] st h Q := w_astore_nN dX8_sticks_5 (Nat.le_of_ble_eq_true rfl) rfl
theorem X8_sticks_6 : iWp d mX8_sticks 6 [.ref p, a1, a2, a3, a4] st h Q = iWp d mX8_sticks 7 [.ref p, a1, a2, a3, a4] (.ref p :: st) h Q := w_aload_n dX8_sticks_6 rfl
theorem X8_sticks_7 : iWp d mX8_sticks 7 [a0, a1, .int x, a3, a4] st h Q = iWp d mX8_sticks 8 [a0, a1, .int x, a3, a4] (.int x :: st) h Q := w_iload_n dX8_sticks_7 rfl
theorem X8_sticks_8 (he : iEv mX8_treeAt [.ref p, .int x0] h (some rw) h2) (ho : iObj h p 8 = true) : iWp 7 mX8_sticks 8 [a0, a1, a2, a3, a4] [.int x0, .ref p] h Q = iWp 7 mX8_sticks 11 [a0, a1, a2, a3, a4] [rw] h2 Q := iWp_cV dX8_sticks_8 fK_8_121 rfl rfl ho (Nat.le_of_ble_eq_true rfl) (Nat.le_of_ble_eq_true rfl) rfl (Nat.le_of_ble_eq_true rfl) he rfl
theorem X8_sticks_11 : iWp d mX8_sticks 11 [a0, a1, a2, a3, a4] (.ref p :: st) h Q = iWp d mX8_sticks 13 [a0, a1, a2, iClr a3, .ref p] st h Q := w_astore dX8_sticks_11 (Nat.le_of_ble_eq_true rfl) rfl
theorem X8_sticks_11n : iWp d mX8_sticks 11 [a0, a1, a2, a3, a4] (.null :: st) h Q = iWp d mX8_sticks 13 [a0, a1, a2, iClr a3, .null] st h Q := w_astoreN dX8_sticks_11 (Nat.le_of_ble_eq_true rfl) rfl
theorem X8_sticks_13 : iWp d mX8_sticks 13 [a0, a1, a2, .ref p, a4] st h Q = iWp d mX8_sticks 14 [a0, a1, a2, .ref p, a4] (.ref p :: st) h Q := w_aload_n dX8_sticks_13 rfl
theorem X8_sticks_13n : iWp d mX8_sticks 13 [a0, a1, a2, .null, a4] st h Q = iWp d mX8_sticks 14 [a0, a1, a2, .null, a4] (.null :: st) h Q := w_aload_nN dX8_sticks_13 rfl
theorem X8_sticks_14 : iWp d mX8_sticks 14 [a0, a1, a2, a3, a4] (.ref p :: st) h Q = iWp d mX8_sticks 17 [a0, a1, a2, a3, a4] st h Q := w_ifnull dX8_sticks_14
theorem X8_sticks_14n : iWp d mX8_sticks 14 [a0, a1, a2, a3, a4] (.null :: st) h Q = iWp d mX8_sticks 22 [a0, a1, a2, a3, a4] st h Q := w_ifnullN dX8_sticks_14 rfl
theorem X8_sticks_17 : iWp d mX8_sticks 17 [a0, a1, a2, a3, .ref p] st h Q = iWp d mX8_sticks 19 [a0, a1, a2, a3, .ref p] (.ref p :: st) h Q := w_aload dX8_sticks_17 rfl
theorem X8_sticks_17n : iWp d mX8_sticks 17 [a0, a1, a2, a3, .null] st h Q = iWp d mX8_sticks 19 [a0, a1, a2, a3, .null] (.null :: st) h Q := w_aloadN dX8_sticks_17 rfl
theorem X8_sticks_19 : iWp d mX8_sticks 19 [a0, a1, a2, a3, a4] (.ref p :: st) h Q = iWp d mX8_sticks 28 [a0, a1, a2, a3, a4] st h Q := w_ifnonnull dX8_sticks_19 rfl
theorem X8_sticks_19n : iWp d mX8_sticks 19 [a0, a1, a2, a3, a4] (.null :: st) h Q = iWp d mX8_sticks 22 [a0, a1, a2, a3, a4] st h Q := w_ifnonnullN dX8_sticks_19
theorem X8_sticks_22 : iWp d mX8_sticks 22 [.ref p, a1, a2, a3, a4] st h Q = iWp d mX8_sticks 23 [.ref p, a1, a2, a3, a4] (.ref p :: st) h Q := w_aload_n dX8_sticks_22 rfl
theorem X8_sticks_23 : iWp d mX8_sticks 23 [a0, a1, a2, a3, a4] st h Q = iWp d mX8_sticks 24 [a0, a1, a2, a3, a4] (.int (-1) :: st) h Q := w_iconst dX8_sticks_23 rfl
theorem X8_sticks_24 (he : iEv mX8_refuseLower [.ref p, .int x0] h (some (.int rv)) h2) (ho : iObj h p 8 = true) : iWp 7 mX8_sticks 24 [a0, a1, a2, a3, a4] [.int x0, .ref p] h Q = iWp 7 mX8_sticks 27 [a0, a1, a2, a3, a4] [.int rv] h2 Q := iWp_cV dX8_sticks_24 fK_8_152 rfl rfl ho (Nat.le_of_ble_eq_true rfl) (Nat.le_of_ble_eq_true rfl) rfl (Nat.le_of_ble_eq_true rfl) he rfl
theorem X8_sticks_27 : iWp d mX8_sticks 27 [a0, a1, a2, a3, a4] [.int x] h Q = Q (some (.int x)) h := w_ireti dX8_sticks_27 rfl
theorem X8_sticks_28 : iWp d mX8_sticks 28 [a0, a1, a2, .ref p, a4] st h Q = iWp d mX8_sticks 29 [a0, a1, a2, .ref p, a4] (.ref p :: st) h Q := w_aload_n dX8_sticks_28 rfl
theorem X8_sticks_28n : iWp d mX8_sticks 28 [a0, a1, a2, .null, a4] st h Q = iWp d mX8_sticks 29 [a0, a1, a2, .null, a4] (.null :: st) h Q := w_aload_nN dX8_sticks_28 rfl
theorem X8_sticks_29 : iWp d mX8_sticks 29 [a0, a1, a2, a3, a4] st h Q = iWp d mX8_sticks 32 [a0, a1, a2, a3, a4] (.ref h.2.1 :: st) (iNewO h 7) Q := w_new dX8_sticks_29 fC_8_126
theorem X8_sticks_32 : iWp d mX8_sticks 32 [a0, a1, a2, a3, a4] (.ref p :: st) h Q = iWp d mX8_sticks 33 [a0, a1, a2, a3, a4] (.ref p :: .ref p :: st) h Q := w_dup dX8_sticks_32 rfl
theorem X8_sticks_33 : iWp d mX8_sticks 33 [a0, a1, a2, a3, .ref p] st h Q = iWp d mX8_sticks 35 [a0, a1, a2, a3, .ref p] (.ref p :: st) h Q := w_aload dX8_sticks_33 rfl
theorem X8_sticks_33n : iWp d mX8_sticks 33 [a0, a1, a2, a3, .null] st h Q = iWp d mX8_sticks 35 [a0, a1, a2, a3, .null] (.null :: st) h Q := w_aloadN dX8_sticks_33 rfl
theorem X8_sticks_35 (he : iEv mX7_init_ [.ref p, b0] h none h2) (c0 : b0.category = 1) : iWp 7 mX8_sticks 35 [a0, a1, a2, a3, a4] [b0, .ref p, .ref t0, .ref t1] h Q = iWp 7 mX8_sticks 38 [a0, a1, a2, a3, a4] [.ref t0, .ref t1] h2 Q := iWp_cI dX8_sticks_35 fK_8_206 rfl rfl (Nat.le_of_ble_eq_true rfl) (Nat.le_of_ble_eq_true rfl) (by simp [iInit, cat_i, cat_r, cat_l, mX7_init_, c0]) (Nat.le_of_ble_eq_true rfl) he rfl
theorem X8_sticks_38 (he : iEv mX3_changeUntilMisfit [.ref p, b0] h (some (.int rv)) h2) (ho : iObj h p 3 = true) (c0 : b0.category = 1) : iWp 7 mX8_sticks 38 [a0, a1, a2, a3, a4] [b0, .ref p] h Q = iWp 7 mX8_sticks 41 [a0, a1, a2, a3, a4] [.int rv] h2 Q := iWp_cV dX8_sticks_38 fK_8_209 rfl rfl ho (Nat.le_of_ble_eq_true rfl) (Nat.le_of_ble_eq_true rfl) (by simp [iInit, cat_i, cat_r, cat_l, mX3_changeUntilMisfit, c0]) (Nat.le_of_ble_eq_true rfl) he rfl
theorem X8_sticks_41 : iWp d mX8_sticks 41 [a0, a1, a2, a3, a4] [.int x] h Q = Q (some (.int x)) h := w_ireti dX8_sticks_41 rfl
theorem I8_sticks {Q : Option Value → iHp → Prop} (hw : iWp 7 mX8_sticks 0 [.ref p, .int x0, .int x1, iU, iU] [] h Q) : ∃ r h1, iEv mX8_sticks [.ref p, .int x0, .int x1] h r h1 ∧ Q r h1 := iEv_of (by rfl) rfl hw
theorem J8_sticks {r : Option Value} {h1 : iHp} (hw : iWp 7 mX8_sticks 0 [.ref p, .int x0, .int x1, iU, iU] [] h (fun r' h' => r' = r ∧ h' = h1)) : iEv mX8_sticks [.ref p, .int x0, .int x1] h r h1 := iEv_ev (by rfl) rfl hw
theorem X8_touched_0 : iWp d mX8_touched 0 [.ref p, a1, a2, a3] st h Q = iWp d mX8_touched 1 [.ref p, a1, a2, a3] (.ref p :: st) h Q := w_aload_n dX8_touched_0 rfl
theorem X8_touched_1 : iWp d mX8_touched 1 [a0, .int x, a2, a3] st h Q = iWp d mX8_touched 2 [a0, .int x, a2, a3] (.int x :: st) h Q := w_iload_n dX8_touched_1 rfl
theorem X8_touched_2 (he : iEv mX8_patchAt [.ref p, .int x0] h (some rw) h2) (ho : iObj h p 8 = true) : iWp 3 mX8_touched 2 [a0, a1, a2, a3] [.int x0, .ref p] h Q = iWp 3 mX8_touched 5 [a0, a1, a2, a3] [rw] h2 Q := iWp_cV dX8_touched_2 fK_8_92 rfl rfl ho (Nat.le_of_ble_eq_true rfl) (Nat.le_of_ble_eq_true rfl) rfl (Nat.le_of_ble_eq_true rfl) he rfl
theorem X8_touched_5 : iWp d mX8_touched 5 [a0, a1, a2, a3] (.ref p :: st) h Q = iWp d mX8_touched 6 [a0, a1, iClr a2, .ref p] st h Q := w_astore_n dX8_touched_5 (Nat.le_of_ble_eq_true rfl) rfl
theorem X8_touched_5n : iWp d mX8_touched 5 [a0, a1, a2, a3] (.null :: st) h Q = iWp d mX8_touched 6 [a0, a1, iClr a2, .null] st h Q := w_astore_nN dX8_touched_5 (Nat.le_of_ble_eq_true rfl) rfl
theorem X8_touched_6 : iWp d mX8_touched 6 [a0, a1, a2, .ref p] st h Q = iWp d mX8_touched 7 [a0, a1, a2, .ref p] (.ref p :: st) h Q := w_aload_n dX8_touched_6 rfl
theorem X8_touched_6n : iWp d mX8_touched 6 [a0, a1, a2, .null] st h Q = iWp d mX8_touched 7 [a0, a1, a2, .null] (.null :: st) h Q := w_aload_nN dX8_touched_6 rfl
theorem X8_touched_7 : iWp d mX8_touched 7 [a0, a1, a2, a3] (.ref p :: st) h Q = iWp d mX8_touched 16 [a0, a1, a2, a3] st h Q := w_ifnonnull dX8_touched_7 rfl
theorem X8_touched_7n : iWp d mX8_touched 7 [a0, a1, a2, a3] (.null :: st) h Q = iWp d mX8_touched 10 [a0, a1, a2, a3] st h Q := w_ifnonnullN dX8_touched_7
theorem X8_touched_10 : iWp d mX8_touched 10 [.ref p, a1, a2, a3] st h Q = iWp d mX8_touched 11 [.ref p, a1, a2, a3] (.ref p :: st) h Q := w_aload_n dX8_touched_10 rfl
theorem X8_touched_11 : iWp d mX8_touched 11 [a0, a1, a2, a3] st h Q = iWp d mX8_touched 12 [a0, a1, a2, a3] (.int (-1) :: st) h Q := w_iconst dX8_touched_11 rfl
theorem X8_touched_12 (he : iEv mX8_refuse [.ref p, .int x0] h (some (.int rv)) h2) (ho : iObj h p 8 = true) : iWp 3 mX8_touched 12 [a0, a1, a2, a3] [.int x0, .ref p] h Q = iWp 3 mX8_touched 15 [a0, a1, a2, a3] [.int rv] h2 Q := iWp_cV dX8_touched_12 fK_8_50 rfl rfl ho (Nat.le_of_ble_eq_true rfl) (Nat.le_of_ble_eq_true rfl) rfl (Nat.le_of_ble_eq_true rfl) he rfl
theorem X8_touched_15 : iWp d mX8_touched 15 [a0, a1, a2, a3] [.int x] h Q = Q (some (.int x)) h := w_ireti dX8_touched_15 rfl
theorem X8_touched_16 : iWp d mX8_touched 16 [a0, a1, .int x, a3] st h Q = iWp d mX8_touched 17 [a0, a1, .int x, a3] (.int x :: st) h Q := w_iload_n dX8_touched_16 rfl
theorem X8_touched_17 : iWp d mX8_touched 17 [a0, a1, a2, a3] (.int x :: st) h Q = if x < 0 then iWp d mX8_touched 25 [a0, a1, a2, a3] st h Q else iWp d mX8_touched 20 [a0, a1, a2, a3] st h Q := w_ifc_lt dX8_touched_17 rfl
theorem X8_touched_20 : iWp d mX8_touched 20 [a0, a1, .int x, a3] st h Q = iWp d mX8_touched 21 [a0, a1, .int x, a3] (.int x :: st) h Q := w_iload_n dX8_touched_20 rfl
theorem X8_touched_21 : iWp d mX8_touched 21 [a0, a1, a2, a3] st h Q = iWp d mX8_touched 22 [a0, a1, a2, a3] (.int 1 :: st) h Q := w_iconst dX8_touched_21 rfl
theorem X8_touched_22 : iWp d mX8_touched 22 [a0, a1, a2, a3] (.int y :: .int x :: st) h Q = if x ≤ y then iWp d mX8_touched 32 [a0, a1, a2, a3] st h Q else iWp d mX8_touched 25 [a0, a1, a2, a3] st h Q := w_icmp_le dX8_touched_22 rfl
theorem X8_touched_25 : iWp d mX8_touched 25 [.ref p, a1, a2, a3] st h Q = iWp d mX8_touched 26 [.ref p, a1, a2, a3] (.ref p :: st) h Q := w_aload_n dX8_touched_25 rfl
theorem X8_touched_26 : iWp d mX8_touched 26 [a0, a1, a2, a3] st h Q = iWp d mX8_touched 28 [a0, a1, a2, a3] (.int (-5) :: st) h Q := w_bipush dX8_touched_26 rfl
theorem X8_touched_28 (he : iEv mX8_refuse [.ref p, .int x0] h (some (.int rv)) h2) (ho : iObj h p 8 = true) : iWp 3 mX8_touched 28 [a0, a1, a2, a3] [.int x0, .ref p] h Q = iWp 3 mX8_touched 31 [a0, a1, a2, a3] [.int rv] h2 Q := iWp_cV dX8_touched_28 fK_8_50 rfl rfl ho (Nat.le_of_ble_eq_true rfl) (Nat.le_of_ble_eq_true rfl) rfl (Nat.le_of_ble_eq_true rfl) he rfl
theorem X8_touched_31 : iWp d mX8_touched 31 [a0, a1, a2, a3] [.int x] h Q = Q (some (.int x)) h := w_ireti dX8_touched_31 rfl
theorem X8_touched_32 : iWp d mX8_touched 32 [a0, a1, a2, .ref p] st h Q = iWp d mX8_touched 33 [a0, a1, a2, .ref p] (.ref p :: st) h Q := w_aload_n dX8_touched_32 rfl
theorem X8_touched_32n : iWp d mX8_touched 32 [a0, a1, a2, .null] st h Q = iWp d mX8_touched 33 [a0, a1, a2, .null] (.null :: st) h Q := w_aload_nN dX8_touched_32 rfl
theorem X8_touched_33 : iWp d mX8_touched 33 [a0, a1, .int x, a3] st h Q = iWp d mX8_touched 34 [a0, a1, .int x, a3] (.int x :: st) h Q := w_iload_n dX8_touched_33 rfl
theorem X8_touched_34 : iWp d mX8_touched 34 [a0, a1, a2, a3] st h Q = iWp d mX8_touched 36 [a0, a1, a2, a3] (.int 30 :: st) h Q := w_bipush dX8_touched_34 rfl
theorem X8_touched_36 : iWp d mX8_touched 36 [a0, a1, a2, a3] (.int y :: .int x :: st) h Q = iWp d mX8_touched 37 [a0, a1, a2, a3] (.int (x * y) :: st) h Q := w_imul dX8_touched_36
theorem X8_touched_37 (he : iEv mX3_keyBits [.ref p, .int x0] h (some (.int rv)) h2) (ho : iObj h p 3 = true) : iWp 3 mX8_touched 37 [a0, a1, a2, a3] [.int x0, .ref p] h Q = iWp 3 mX8_touched 40 [a0, a1, a2, a3] [.int rv] h2 Q := iWp_cV dX8_touched_37 fK_8_203 rfl rfl ho (Nat.le_of_ble_eq_true rfl) (Nat.le_of_ble_eq_true rfl) rfl (Nat.le_of_ble_eq_true rfl) he rfl
theorem X8_touched_40 : iWp d mX8_touched 40 [a0, a1, a2, a3] [.int x] h Q = Q (some (.int x)) h := w_ireti dX8_touched_40 rfl
theorem I8_touched {Q : Option Value → iHp → Prop} (hw : iWp 3 mX8_touched 0 [.ref p, .int x0, .int x1, iU] [] h Q) : ∃ r h1, iEv mX8_touched [.ref p, .int x0, .int x1] h r h1 ∧ Q r h1 := iEv_of (by rfl) rfl hw
theorem J8_touched {r : Option Value} {h1 : iHp} (hw : iWp 3 mX8_touched 0 [.ref p, .int x0, .int x1, iU] [] h (fun r' h' => r' = r ∧ h' = h1)) : iEv mX8_touched [.ref p, .int x0, .int x1] h r h1 := iEv_ev (by rfl) rfl hw
theorem X8_tree_0 : iWp d mX8_tree 0 [.ref p, a1, a2, a3, a4] st h Q = iWp d mX8_tree 1 [.ref p, a1, a2, a3, a4] (.ref p :: st) h Q := w_aload_n dX8_tree_0 rfl
theorem X8_tree_1 : iWp d mX8_tree 1 [a0, .int x, a2, a3, a4] st h Q = iWp d mX8_tree 2 [a0, .int x, a2, a3, a4] (.int x :: st) h Q := w_iload_n dX8_tree_1 rfl
theorem X8_tree_2 (he : iEv mX8_rowAt [.ref p, .int x0] h (some rw) h2) (ho : iObj h p 8 = true) : iWp 7 mX8_tree 2 [a0, a1, a2, a3, a4] [.int x0, .ref p] h Q = iWp 7 mX8_tree 5 [a0, a1, a2, a3, a4] [rw] h2 Q := iWp_cV dX8_tree_2 fK_8_57 rfl rfl ho (Nat.le_of_ble_eq_true rfl) (Nat.le_of_ble_eq_true rfl) rfl (Nat.le_of_ble_eq_true rfl) he rfl
theorem X8_tree_5 : iWp d mX8_tree 5 [a0, a1, a2, a3, a4] (.ref p :: st) h Q = iWp d mX8_tree 6 [a0, iClr a1, .ref p, a3, a4] st h Q := w_astore_n dX8_tree_5 (Nat.le_of_ble_eq_true rfl) rfl
theorem X8_tree_5n : iWp d mX8_tree 5 [a0, a1, a2, a3, a4] (.null :: st) h Q = iWp d mX8_tree 6 [a0, iClr a1, .null, a3, a4] st h Q := w_astore_nN dX8_tree_5 (Nat.le_of_ble_eq_true rfl) rfl
theorem X8_tree_6 : iWp d mX8_tree 6 [a0, a1, .ref p, a3, a4] st h Q = iWp d mX8_tree 7 [a0, a1, .ref p, a3, a4] (.ref p :: st) h Q := w_aload_n dX8_tree_6 rfl
theorem X8_tree_6n : iWp d mX8_tree 6 [a0, a1, .null, a3, a4] st h Q = iWp d mX8_tree 7 [a0, a1, .null, a3, a4] (.null :: st) h Q := w_aload_nN dX8_tree_6 rfl
theorem X8_tree_7 : iWp d mX8_tree 7 [a0, a1, a2, a3, a4] (.ref p :: st) h Q = iWp d mX8_tree 20 [a0, a1, a2, a3, a4] st h Q := w_ifnonnull dX8_tree_7 rfl
theorem X8_tree_7n : iWp d mX8_tree 7 [a0, a1, a2, a3, a4] (.null :: st) h Q = iWp d mX8_tree 10 [a0, a1, a2, a3, a4] st h Q := w_ifnonnullN dX8_tree_7
theorem X8_tree_10 : iWp d mX8_tree 10 [.ref p, a1, a2, a3, a4] st h Q = iWp d mX8_tree 11 [.ref p, a1, a2, a3, a4] (.ref p :: st) h Q := w_aload_n dX8_tree_10 rfl
theorem X8_tree_11 : iWp d mX8_tree 11 [.ref p, a1, a2, a3, a4] st h Q = iWp d mX8_tree 12 [.ref p, a1, a2, a3, a4] (.ref p :: st) h Q := w_aload_n dX8_tree_11 rfl
theorem X8_tree_12 : iWp d mX8_tree 12 [a0, .int x, a2, a3, a4] st h Q = iWp d mX8_tree 13 [a0, .int x, a2, a3, a4] (.int x :: st) h Q := w_iload_n dX8_tree_12 rfl
theorem X8_tree_13 (he : iEv mX8_whyNoRow [.ref p, .int x0] h (some (.int rv)) h2) (ho : iObj h p 8 = true) : iWp 7 mX8_tree 13 [a0, a1, a2, a3, a4] [.int x0, .ref p, .ref t0] h Q = iWp 7 mX8_tree 16 [a0, a1, a2, a3, a4] [.int rv, .ref t0] h2 Q := iWp_cV dX8_tree_13 fK_8_61 rfl rfl ho (Nat.le_of_ble_eq_true rfl) (Nat.le_of_ble_eq_true rfl) rfl (Nat.le_of_ble_eq_true rfl) he rfl
theorem X8_tree_16 (he : iEv mX8_refuse [.ref p, .int x0] h (some (.int rv)) h2) (ho : iObj h p 8 = true) : iWp 7 mX8_tree 16 [a0, a1, a2, a3, a4] [.int x0, .ref p] h Q = iWp 7 mX8_tree 19 [a0, a1, a2, a3, a4] [.int rv] h2 Q := iWp_cV dX8_tree_16 fK_8_50 rfl rfl ho (Nat.le_of_ble_eq_true rfl) (Nat.le_of_ble_eq_true rfl) rfl (Nat.le_of_ble_eq_true rfl) he rfl
theorem X8_tree_19 : iWp d mX8_tree 19 [a0, a1, a2, a3, a4] [.int x] h Q = Q (some (.int x)) h := w_ireti dX8_tree_19 rfl
theorem X8_tree_20 : iWp d mX8_tree 20 [a0, a1, a2, a3, a4] st h Q = iWp d mX8_tree 23 [a0, a1, a2, a3, a4] (.ref h.2.1 :: st) (iNewO h 4) Q := w_new dX8_tree_20 fC_8_104
theorem X8_tree_23 : iWp d mX8_tree 23 [a0, a1, a2, a3, a4] (.ref p :: st) h Q = iWp d mX8_tree 24 [a0, a1, a2, a3, a4] (.ref p :: .ref p :: st) h Q := w_dup dX8_tree_23 rfl
theorem X8_tree_24 : iWp d mX8_tree 24 [a0, a1, .ref p, a3, a4] st h Q = iWp d mX8_tree 25 [a0, a1, .ref p, a3, a4] (.ref p :: st) h Q := w_aload_n dX8_tree_24 rfl
theorem X8_tree_24n : iWp d mX8_tree 24 [a0, a1, .null, a3, a4] st h Q = iWp d mX8_tree 25 [a0, a1, .null, a3, a4] (.null :: st) h Q := w_aload_nN dX8_tree_24 rfl
theorem X8_tree_25 (he : iEv mX4_init [.ref p, b0] h none h2) (c0 : b0.category = 1) : iWp 7 mX8_tree 25 [a0, a1, a2, a3, a4] [b0, .ref p, .ref t0] h Q = iWp 7 mX8_tree 28 [a0, a1, a2, a3, a4] [.ref t0] h2 Q := iWp_cI dX8_tree_25 fK_8_106 rfl rfl (Nat.le_of_ble_eq_true rfl) (Nat.le_of_ble_eq_true rfl) (by simp [iInit, cat_i, cat_r, cat_l, mX4_init, c0]) (Nat.le_of_ble_eq_true rfl) he rfl
theorem X8_tree_28 : iWp d mX8_tree 28 [a0, a1, a2, a3, a4] (.ref p :: st) h Q = iWp d mX8_tree 29 [a0, a1, iClr a2, .ref p, a4] st h Q := w_astore_n dX8_tree_28 (Nat.le_of_ble_eq_true rfl) rfl
theorem X8_tree_28n : iWp d mX8_tree 28 [a0, a1, a2, a3, a4] (.null :: st) h Q = iWp d mX8_tree 29 [a0, a1, iClr a2, .null, a4] st h Q := w_astore_nN dX8_tree_28 (Nat.le_of_ble_eq_true rfl) rfl
theorem X8_tree_29 : iWp d mX8_tree 29 [.ref p, a1, a2, a3, a4] st h Q = iWp d mX8_tree 30 [.ref p, a1, a2, a3, a4] (.ref p :: st) h Q := w_aload_n dX8_tree_29 rfl
theorem X8_tree_30 : iWp d mX8_tree 30 [a0, a1, a2, .ref p, a4] st h Q = iWp d mX8_tree 31 [a0, a1, a2, .ref p, a4] (.ref p :: st) h Q := w_aload_n dX8_tree_30 rfl
theorem X8_tree_30n : iWp d mX8_tree 30 [a0, a1, a2, .null, a4] st h Q = iWp d mX8_tree 31 [a0, a1, a2, .null, a4] (.null :: st) h Q := w_aload_nN dX8_tree_30 rfl
theorem X8_tree_31 (he : iEv mX4_read [.ref p] h (some (.int rv)) h2) (ho : iObj h p 4 = true) : iWp 7 mX8_tree 31 [a0, a1, a2, a3, a4] [.ref p, .ref t0] h Q = iWp 7 mX8_tree 34 [a0, a1, a2, a3, a4] [.int rv, .ref t0] h2 Q := iWp_cV dX8_tree_31 fK_8_109 rfl rfl ho (Nat.le_of_ble_eq_true rfl) (Nat.le_of_ble_eq_true rfl) rfl (Nat.le_of_ble_eq_true rfl) he rfl
theorem X8_tree_34 : iWp d mX8_tree 34 [a0, a1, a2, a3, a4] (.int x :: .ref p :: st) h Q = iOb (iPut h p 8 6 (.int x)) (fun g => iWp d mX8_tree 37 [a0, a1, a2, a3, a4] st g Q) := w_putf dX8_tree_34 fF_8_39 ⟨rfl, (Or.inl rfl)⟩
theorem X8_tree_37 : iWp d mX8_tree 37 [.ref p, a1, a2, a3, a4] st h Q = iWp d mX8_tree 38 [.ref p, a1, a2, a3, a4] (.ref p :: st) h Q := w_aload_n dX8_tree_37 rfl
theorem X8_tree_38 : iWp d mX8_tree 38 [a0, a1, a2, a3, a4] (.ref p :: st) h Q = iOb (iGet h p 8 6) (fun v => iWp d mX8_tree 41 [a0, a1, a2, a3, a4] (v :: st) h Q) := w_getf dX8_tree_38 fF_8_39
theorem X8_tree_41 : iWp d mX8_tree 41 [a0, a1, a2, a3, a4] st h Q = iWp d mX8_tree 42 [a0, a1, a2, a3, a4] (.int (-1) :: st) h Q := w_iconst dX8_tree_41 rfl
theorem X8_tree_42 : iWp d mX8_tree 42 [a0, a1, a2, a3, a4] (.int y :: .int x :: st) h Q = if x = y then iWp d mX8_tree 52 [a0, a1, a2, a3, a4] st h Q else iWp d mX8_tree 45 [a0, a1, a2, a3, a4] st h Q := w_icmp_eq dX8_tree_42 rfl
theorem X8_tree_45 : iWp d mX8_tree 45 [.ref p, a1, a2, a3, a4] st h Q = iWp d mX8_tree 46 [.ref p, a1, a2, a3, a4] (.ref p :: st) h Q := w_aload_n dX8_tree_45 rfl
theorem X8_tree_46 : iWp d mX8_tree 46 [a0, a1, a2, a3, a4] st h Q = iWp d mX8_tree 48 [a0, a1, a2, a3, a4] (.int (-6) :: st) h Q := w_bipush dX8_tree_46 rfl
theorem X8_tree_48 (he : iEv mX8_refuse [.ref p, .int x0] h (some (.int rv)) h2) (ho : iObj h p 8 = true) : iWp 7 mX8_tree 48 [a0, a1, a2, a3, a4] [.int x0, .ref p] h Q = iWp 7 mX8_tree 51 [a0, a1, a2, a3, a4] [.int rv] h2 Q := iWp_cV dX8_tree_48 fK_8_50 rfl rfl ho (Nat.le_of_ble_eq_true rfl) (Nat.le_of_ble_eq_true rfl) rfl (Nat.le_of_ble_eq_true rfl) he rfl
theorem X8_tree_51 : iWp d mX8_tree 51 [a0, a1, a2, a3, a4] [.int x] h Q = Q (some (.int x)) h := w_ireti dX8_tree_51 rfl
theorem X8_tree_52 : iWp d mX8_tree 52 [.ref p, a1, a2, a3, a4] st h Q = iWp d mX8_tree 53 [.ref p, a1, a2, a3, a4] (.ref p :: st) h Q := w_aload_n dX8_tree_52 rfl
theorem X8_tree_53 : iWp d mX8_tree 53 [a0, a1, a2, a3, a4] (.ref p :: st) h Q = iOb (iGet h p 8 4) (fun v => iWp d mX8_tree 56 [a0, a1, a2, a3, a4] (v :: st) h Q) := w_getf dX8_tree_53 fF_8_32
theorem X8_tree_56 : iWp d mX8_tree 56 [a0, a1, a2, .ref p, a4] st h Q = iWp d mX8_tree 57 [a0, a1, a2, .ref p, a4] (.ref p :: st) h Q := w_aload_n dX8_tree_56 rfl
theorem X8_tree_56n : iWp d mX8_tree 56 [a0, a1, a2, .null, a4] st h Q = iWp d mX8_tree 57 [a0, a1, a2, .null, a4] (.null :: st) h Q := w_aload_nN dX8_tree_56 rfl
theorem X8_tree_57 : iWp d mX8_tree 57 [a0, a1, a2, a3, a4] (.ref p :: st) h Q = iOb (iGet h p 4 0) (fun v => iWp d mX8_tree 60 [a0, a1, a2, a3, a4] (v :: st) h Q) := w_getf dX8_tree_57 fF_8_113
theorem X8_tree_60 (he : iEv mX6_addTree [.ref p, b0] h (some (.int rv)) h2) (ho : iObj h p 6 = true) (c0 : b0.category = 1) : iWp 7 mX8_tree 60 [a0, a1, a2, a3, a4] [b0, .ref p] h Q = iWp 7 mX8_tree 63 [a0, a1, a2, a3, a4] [.int rv] h2 Q := iWp_cV dX8_tree_60 fK_8_117 rfl rfl ho (Nat.le_of_ble_eq_true rfl) (Nat.le_of_ble_eq_true rfl) (by simp [iInit, cat_i, cat_r, cat_l, mX6_addTree, c0]) (Nat.le_of_ble_eq_true rfl) he rfl
theorem X8_tree_63 : iWp d mX8_tree 63 [a0, a1, a2, a3, a4] (.int x :: st) h Q = iWp d mX8_tree 65 [a0, a1, a2, iClr a3, .int x] st h Q := w_istore dX8_tree_63 (Nat.le_of_ble_eq_true rfl) rfl
theorem X8_tree_65 : iWp d mX8_tree 65 [a0, a1, a2, a3, .int x] st h Q = iWp d mX8_tree 67 [a0, a1, a2, a3, .int x] (.int x :: st) h Q := w_iload dX8_tree_65 rfl
theorem X8_tree_67 : iWp d mX8_tree 67 [a0, a1, a2, a3, a4] st h Q = iWp d mX8_tree 68 [a0, a1, a2, a3, a4] (.int (-1) :: st) h Q := w_iconst dX8_tree_67 rfl
theorem X8_tree_68 : iWp d mX8_tree 68 [a0, a1, a2, a3, a4] (.int y :: .int x :: st) h Q = if x = y then iWp d mX8_tree 71 [a0, a1, a2, a3, a4] st h Q else iWp d mX8_tree 80 [a0, a1, a2, a3, a4] st h Q := w_icmp_ne dX8_tree_68 rfl
theorem X8_tree_71 : iWp d mX8_tree 71 [.ref p, a1, a2, a3, a4] st h Q = iWp d mX8_tree 72 [.ref p, a1, a2, a3, a4] (.ref p :: st) h Q := w_aload_n dX8_tree_71 rfl
theorem X8_tree_72 : iWp d mX8_tree 72 [a0, a1, a2, a3, a4] st h Q = iWp d mX8_tree 74 [a0, a1, a2, a3, a4] (.int (-7) :: st) h Q := w_bipush dX8_tree_72 rfl
theorem X8_tree_74 (he : iEv mX8_refuse [.ref p, .int x0] h (some (.int rv)) h2) (ho : iObj h p 8 = true) : iWp 7 mX8_tree 74 [a0, a1, a2, a3, a4] [.int x0, .ref p] h Q = iWp 7 mX8_tree 77 [a0, a1, a2, a3, a4] [.int rv] h2 Q := iWp_cV dX8_tree_74 fK_8_50 rfl rfl ho (Nat.le_of_ble_eq_true rfl) (Nat.le_of_ble_eq_true rfl) rfl (Nat.le_of_ble_eq_true rfl) he rfl
theorem X8_tree_77 : iWp d mX8_tree 77 [a0, a1, a2, a3, a4] st h Q = iWp d mX8_tree 82 [a0, a1, a2, a3, a4] st h Q := w_goto dX8_tree_77 rfl
theorem X8_tree_80 : iWp d mX8_tree 80 [a0, a1, a2, a3, .int x] st h Q = iWp d mX8_tree 82 [a0, a1, a2, a3, .int x] (.int x :: st) h Q := w_iload dX8_tree_80 rfl
theorem X8_tree_82 : iWp d mX8_tree 82 [a0, a1, a2, a3, a4] [.int x] h Q = Q (some (.int x)) h := w_ireti dX8_tree_82 rfl
theorem I8_tree {Q : Option Value → iHp → Prop} (hw : iWp 7 mX8_tree 0 [.ref p, .int x0, iU, iU, iU] [] h Q) : ∃ r h1, iEv mX8_tree [.ref p, .int x0] h r h1 ∧ Q r h1 := iEv_of (by rfl) rfl hw
theorem J8_tree {r : Option Value} {h1 : iHp} (hw : iWp 7 mX8_tree 0 [.ref p, .int x0, iU, iU, iU] [] h (fun r' h' => r' = r ∧ h' = h1)) : iEv mX8_tree [.ref p, .int x0] h r h1 := iEv_ev (by rfl) rfl hw
theorem X8_treeAt_0 : iWp d mX8_treeAt 0 [.ref p, a1] st h Q = iWp d mX8_treeAt 1 [.ref p, a1] (.ref p :: st) h Q := w_aload_n dX8_treeAt_0 rfl
theorem X8_treeAt_1 : iWp d mX8_treeAt 1 [a0, a1] (.ref p :: st) h Q = iOb (iGet h p 8 4) (fun v => iWp d mX8_treeAt 4 [a0, a1] (v :: st) h Q) := w_getf dX8_treeAt_1 fF_8_32
theorem X8_treeAt_4 : iWp d mX8_treeAt 4 [a0, .int x] st h Q = iWp d mX8_treeAt 5 [a0, .int x] (.int x :: st) h Q := w_iload_n dX8_treeAt_4 rfl
theorem X8_treeAt_5 (he : iEv mX6_treeAt [.ref p, .int x0] h (some rw) h2) (ho : iObj h p 6 = true) : iWp 2 mX8_treeAt 5 [a0, a1] [.int x0, .ref p] h Q = iWp 2 mX8_treeAt 8 [a0, a1] [rw] h2 Q := iWp_cV dX8_treeAt_5 fK_8_293 rfl rfl ho (Nat.le_of_ble_eq_true rfl) (Nat.le_of_ble_eq_true rfl) rfl (Nat.le_of_ble_eq_true rfl) he rfl
theorem X8_treeAt_8 : iWp d mX8_treeAt 8 [a0, a1] [.ref p] h Q = Q (some (.ref p)) h := w_aret dX8_treeAt_8 rfl
theorem X8_treeAt_8n : iWp d mX8_treeAt 8 [a0, a1] [.null] h Q = Q (some .null) h := w_aretN dX8_treeAt_8 rfl
theorem I8_treeAt {Q : Option Value → iHp → Prop} (hw : iWp 2 mX8_treeAt 0 [.ref p, .int x0] [] h Q) : ∃ r h1, iEv mX8_treeAt [.ref p, .int x0] h r h1 ∧ Q r h1 := iEv_of (by rfl) rfl hw
theorem J8_treeAt {r : Option Value} {h1 : iHp} (hw : iWp 2 mX8_treeAt 0 [.ref p, .int x0] [] h (fun r' h' => r' = r ∧ h' = h1)) : iEv mX8_treeAt [.ref p, .int x0] h r h1 := iEv_ev (by rfl) rfl hw
theorem X8_whyNoRow_0 : iWp d mX8_whyNoRow 0 [a0, .int x] st h Q = iWp d mX8_whyNoRow 1 [a0, .int x] (.int x :: st) h Q := w_iload_n dX8_whyNoRow_0 rfl
theorem X8_whyNoRow_1 (he : iEv mX8_isShelf [.int x0] h (some (.int rv)) h2) : iWp 2 mX8_whyNoRow 1 [a0, a1] [.int x0] h Q = iWp 2 mX8_whyNoRow 4 [a0, a1] [.int rv] h2 Q := iWp_cS dX8_whyNoRow_1 fK_8_46 rfl rfl (Nat.le_of_ble_eq_true rfl) (Nat.le_of_ble_eq_true rfl) rfl (Nat.le_of_ble_eq_true rfl) he rfl
theorem X8_whyNoRow_4 : iWp d mX8_whyNoRow 4 [a0, a1] (.int x :: st) h Q = if x = 0 then iWp d mX8_whyNoRow 7 [a0, a1] st h Q else iWp d mX8_whyNoRow 9 [a0, a1] st h Q := w_ifc_ne dX8_whyNoRow_4 rfl
theorem X8_whyNoRow_7 : iWp d mX8_whyNoRow 7 [a0, a1] st h Q = iWp d mX8_whyNoRow 8 [a0, a1] (.int (-1) :: st) h Q := w_iconst dX8_whyNoRow_7 rfl
theorem X8_whyNoRow_8 : iWp d mX8_whyNoRow 8 [a0, a1] [.int x] h Q = Q (some (.int x)) h := w_ireti dX8_whyNoRow_8 rfl
theorem X8_whyNoRow_9 : iWp d mX8_whyNoRow 9 [.ref p, a1] st h Q = iWp d mX8_whyNoRow 10 [.ref p, a1] (.ref p :: st) h Q := w_aload_n dX8_whyNoRow_9 rfl
theorem X8_whyNoRow_10 : iWp d mX8_whyNoRow 10 [a0, a1] (.ref p :: st) h Q = iOb (iGet h p 8 1) (fun v => iWp d mX8_whyNoRow 13 [a0, a1] (v :: st) h Q) := w_getf dX8_whyNoRow_10 fF_8_15
theorem X8_whyNoRow_13 : iWp d mX8_whyNoRow 13 [a0, .int x] st h Q = iWp d mX8_whyNoRow 14 [a0, .int x] (.int x :: st) h Q := w_iload_n dX8_whyNoRow_13 rfl
theorem X8_whyNoRow_14 : iWp d mX8_whyNoRow 14 [a0, a1] (.int x :: .ref p :: st) h Q = iOb (iLdI h p x) (fun v => iWp d mX8_whyNoRow 15 [a0, a1] (.int v :: st) h Q) := w_iaload dX8_whyNoRow_14
theorem X8_whyNoRow_15 : iWp d mX8_whyNoRow 15 [a0, a1] st h Q = iWp d mX8_whyNoRow 16 [a0, a1] (.int (-1) :: st) h Q := w_iconst dX8_whyNoRow_15 rfl
theorem X8_whyNoRow_16 : iWp d mX8_whyNoRow 16 [a0, a1] (.int y :: .int x :: st) h Q = if x = y then iWp d mX8_whyNoRow 19 [a0, a1] st h Q else iWp d mX8_whyNoRow 24 [a0, a1] st h Q := w_icmp_ne dX8_whyNoRow_16 rfl
theorem X8_whyNoRow_19 : iWp d mX8_whyNoRow 19 [a0, a1] st h Q = iWp d mX8_whyNoRow 21 [a0, a1] (.int (-3) :: st) h Q := w_bipush dX8_whyNoRow_19 rfl
theorem X8_whyNoRow_21 : iWp d mX8_whyNoRow 21 [a0, a1] st h Q = iWp d mX8_whyNoRow 26 [a0, a1] st h Q := w_goto dX8_whyNoRow_21 rfl
theorem X8_whyNoRow_24 : iWp d mX8_whyNoRow 24 [a0, a1] st h Q = iWp d mX8_whyNoRow 26 [a0, a1] (.int (-2) :: st) h Q := w_bipush dX8_whyNoRow_24 rfl
theorem X8_whyNoRow_26 : iWp d mX8_whyNoRow 26 [a0, a1] [.int x] h Q = Q (some (.int x)) h := w_ireti dX8_whyNoRow_26 rfl
theorem I8_whyNoRow {Q : Option Value → iHp → Prop} (hw : iWp 2 mX8_whyNoRow 0 [.ref p, .int x0] [] h Q) : ∃ r h1, iEv mX8_whyNoRow [.ref p, .int x0] h r h1 ∧ Q r h1 := iEv_of (by rfl) rfl hw
theorem J8_whyNoRow {r : Option Value} {h1 : iHp} (hw : iWp 2 mX8_whyNoRow 0 [.ref p, .int x0] [] h (fun r' h' => r' = r ∧ h' = h1)) : iEv mX8_whyNoRow [.ref p, .int x0] h r h1 := iEv_ev (by rfl) rfl hw
end XS

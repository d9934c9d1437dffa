section XS
variable {d : Nat} {a0 a1 a2 a3 a4 a5 a6 a7 a8 a9 a10 a11 a12 a13 b0 b1 b2 b3 rw : Value} {x y z x0 x1 x2 x3 x4 x5 x6 r0 r1 r2 r3 r4 r5 r6 rv : Int32} {u v u0 u1 u2 s0 s1 rl : Int64} {p q t0 t1 t2 t3 t4 t5 t6 : Nat} {b : Bool} {st : List Value} {h h2 : iHp} {Q : Option Value → iHp → Prop}

theorem XL_law_0 : iWp d mL_law 0 [a0, a1, a2, a3] st h Q = iWp d mL_law 3 [a0, a1, a2, a3] (.ref h.2.1 :: st) (iNewO h 8) Q := w_new dL_law_0 fC_10_7
theorem XL_law_3 : iWp d mL_law 3 [a0, a1, a2, a3] (.ref p :: st) h Q = iWp d mL_law 4 [a0, a1, a2, a3] (.ref p :: .ref p :: st) h Q := w_dup dL_law_3 rfl
theorem XL_law_4 (he : iEv mX8_init [.ref p] h none h2) : iWp 60 mL_law 4 [a0, a1, a2, a3] [.ref p, .ref t0] h Q = iWp 60 mL_law 7 [a0, a1, a2, a3] [.ref t0] h2 Q := iWp_cI dL_law_4 fK_10_9 rfl rfl (Nat.le_of_ble_eq_true rfl) (Nat.le_of_ble_eq_true rfl) rfl (Nat.le_of_ble_eq_true rfl) he rfl
theorem XL_law_7 : iWp d mL_law 7 [a0, a1, a2, a3] (.ref p :: st) h Q = iWp d mL_law 8 [iClr a0, .ref p, a2, a3] st h Q := w_astore_n dL_law_7 (Nat.le_of_ble_eq_true rfl) rfl
theorem XL_law_7n : iWp d mL_law 7 [a0, a1, a2, a3] (.null :: st) h Q = iWp d mL_law 8 [iClr a0, .null, a2, a3] st h Q := w_astore_nN dL_law_7 (Nat.le_of_ble_eq_true rfl) rfl
theorem XL_law_8 : iWp d mL_law 8 [a0, a1, a2, a3] st h Q = iWp d mL_law 11 [a0, a1, a2, a3] (.ref h.2.1 :: st) (iNewO h 9) Q := w_new dL_law_8 fC_10_10
theorem XL_law_11 : iWp d mL_law 11 [a0, a1, a2, a3] (.ref p :: st) h Q = iWp d mL_law 12 [a0, a1, a2, a3] (.ref p :: .ref p :: st) h Q := w_dup dL_law_11 rfl
theorem XL_law_12 (he : iEv mX9_init [.ref p] h none h2) : iWp 60 mL_law 12 [a0, a1, a2, a3] [.ref p, .ref t0] h Q = iWp 60 mL_law 15 [a0, a1, a2, a3] [.ref t0] h2 Q := iWp_cI dL_law_12 fK_10_12 rfl rfl (Nat.le_of_ble_eq_true rfl) (Nat.le_of_ble_eq_true rfl) rfl (Nat.le_of_ble_eq_true rfl) he rfl
theorem XL_law_15 : iWp d mL_law 15 [a0, a1, a2, a3] (.ref p :: st) h Q = iWp d mL_law 16 [a0, iClr a1, .ref p, a3] st h Q := w_astore_n dL_law_15 (Nat.le_of_ble_eq_true rfl) rfl
theorem XL_law_15n : iWp d mL_law 15 [a0, a1, a2, a3] (.null :: st) h Q = iWp d mL_law 16 [a0, iClr a1, .null, a3] st h Q := w_astore_nN dL_law_15 (Nat.le_of_ble_eq_true rfl) rfl
theorem XL_law_16 : iWp d mL_law 16 [a0, a1, a2, a3] st h Q = iWp d mL_law 17 [a0, a1, a2, a3] (.int 0 :: st) h Q := w_iconst dL_law_16 rfl
theorem XL_law_17 : iWp d mL_law 17 [a0, a1, a2, a3] (.int x :: st) h Q = iWp d mL_law 18 [a0, a1, iClr a2, .int x] st h Q := w_istore_n dL_law_17 (Nat.le_of_ble_eq_true rfl) rfl
theorem XL_law_18 : iWp d mL_law 18 [a0, a1, a2, .int x] st h Q = iWp d mL_law 19 [a0, a1, a2, .int x] (.int x :: st) h Q := w_iload_n dL_law_18 rfl
theorem XL_law_19 : iWp d mL_law 19 [.ref p, a1, a2, a3] st h Q = iWp d mL_law 20 [.ref p, a1, a2, a3] (.ref p :: st) h Q := w_aload_n dL_law_19 rfl
theorem XL_law_19n : iWp d mL_law 19 [.null, a1, a2, a3] st h Q = iWp d mL_law 20 [.null, a1, a2, a3] (.null :: st) h Q := w_aload_nN dL_law_19 rfl
theorem XL_law_20 : iWp d mL_law 20 [a0, a1, a2, a3] (.ref p :: st) h Q = iOb (iLen h p) (fun v => iWp d mL_law 21 [a0, a1, a2, a3] (.int v :: st) h Q) := w_alen dL_law_20
theorem XL_law_21 : iWp d mL_law 21 [a0, a1, a2, a3] st h Q = iWp d mL_law 23 [a0, a1, a2, a3] (.int 6 :: st) h Q := w_bipush dL_law_21 rfl
theorem XL_law_23 : iWp d mL_law 23 [a0, a1, a2, a3] (.int y :: .int x :: st) h Q = iWp d mL_law 24 [a0, a1, a2, a3] (.int (x - y) :: st) h Q := w_isub dL_law_23
theorem XL_law_24 : iWp d mL_law 24 [a0, a1, a2, a3] (.int y :: .int x :: st) h Q = if y < x then iWp d mL_law 1471 [a0, a1, a2, a3] st h Q else iWp d mL_law 27 [a0, a1, a2, a3] st h Q := w_icmp_gt dL_law_24 rfl
theorem XL_law_27 : iWp d mL_law 27 [.ref p, a1, a2, a3] st h Q = iWp d mL_law 28 [.ref p, a1, a2, a3] (.ref p :: st) h Q := w_aload_n dL_law_27 rfl
theorem XL_law_27n : iWp d mL_law 27 [.null, a1, a2, a3] st h Q = iWp d mL_law 28 [.null, a1, a2, a3] (.null :: st) h Q := w_aload_nN dL_law_27 rfl
theorem XL_law_28 : iWp d mL_law 28 [a0, a1, a2, .int x] st h Q = iWp d mL_law 29 [a0, a1, a2, .int x] (.int x :: st) h Q := w_iload_n dL_law_28 rfl
theorem XL_law_29 : iWp d mL_law 29 [a0, a1, a2, a3] (.int x :: .ref p :: st) h Q = iOb (iLdI h p x) (fun v => iWp d mL_law 30 [a0, a1, a2, a3] (.int v :: st) h Q) := w_iaload dL_law_29
theorem XL_law_30 : iWp d mL_law 30 [a0, a1, a2, a3] st h Q = iWp d mL_law 32 [a0, a1, a2, a3] (.int 63 :: st) h Q := w_bipush dL_law_30 rfl
theorem XL_law_32 : iWp d mL_law 32 [a0, a1, a2, a3] (.int y :: .int x :: st) h Q = iWp d mL_law 33 [a0, a1, a2, a3] (.int (x &&& y) :: st) h Q := w_iand dL_law_32
theorem XL_law_33_0 : iWp d mL_law 33 [a0, a1, a2, a3] (.int 0 :: st) h Q = iWp d mL_law 200 [a0, a1, a2, a3] st h Q := w_switch dL_law_33 rfl rfl rfl
theorem XL_law_33_1 : iWp d mL_law 33 [a0, a1, a2, a3] (.int 1 :: st) h Q = iWp d mL_law 243 [a0, a1, a2, a3] st h Q := w_switch dL_law_33 rfl rfl rfl
theorem XL_law_33_2 : iWp d mL_law 33 [a0, a1, a2, a3] (.int 2 :: st) h Q = iWp d mL_law 316 [a0, a1, a2, a3] st h Q := w_switch dL_law_33 rfl rfl rfl
theorem XL_law_33_3 : iWp d mL_law 33 [a0, a1, a2, a3] (.int 3 :: st) h Q = iWp d mL_law 379 [a0, a1, a2, a3] st h Q := w_switch dL_law_33 rfl rfl rfl
theorem XL_law_33_4 : iWp d mL_law 33 [a0, a1, a2, a3] (.int 4 :: st) h Q = iWp d mL_law 413 [a0, a1, a2, a3] st h Q := w_switch dL_law_33 rfl rfl rfl
theorem XL_law_33_5 : iWp d mL_law 33 [a0, a1, a2, a3] (.int 5 :: st) h Q = iWp d mL_law 446 [a0, a1, a2, a3] st h Q := w_switch dL_law_33 rfl rfl rfl
theorem XL_law_33_6 : iWp d mL_law 33 [a0, a1, a2, a3] (.int 6 :: st) h Q = iWp d mL_law 469 [a0, a1, a2, a3] st h Q := w_switch dL_law_33 rfl rfl rfl
theorem XL_law_33_7 : iWp d mL_law 33 [a0, a1, a2, a3] (.int 7 :: st) h Q = iWp d mL_law 502 [a0, a1, a2, a3] st h Q := w_switch dL_law_33 rfl rfl rfl
theorem XL_law_33_8 : iWp d mL_law 33 [a0, a1, a2, a3] (.int 8 :: st) h Q = iWp d mL_law 525 [a0, a1, a2, a3] st h Q := w_switch dL_law_33 rfl rfl rfl
theorem XL_law_33_9 : iWp d mL_law 33 [a0, a1, a2, a3] (.int 9 :: st) h Q = iWp d mL_law 538 [a0, a1, a2, a3] st h Q := w_switch dL_law_33 rfl rfl rfl
theorem XL_law_33_10 : iWp d mL_law 33 [a0, a1, a2, a3] (.int 10 :: st) h Q = iWp d mL_law 561 [a0, a1, a2, a3] st h Q := w_switch dL_law_33 rfl rfl rfl
theorem XL_law_33_11 : iWp d mL_law 33 [a0, a1, a2, a3] (.int 11 :: st) h Q = iWp d mL_law 604 [a0, a1, a2, a3] st h Q := w_switch dL_law_33 rfl rfl rfl
theorem XL_law_33_12 : iWp d mL_law 33 [a0, a1, a2, a3] (.int 12 :: st) h Q = iWp d mL_law 637 [a0, a1, a2, a3] st h Q := w_switch dL_law_33 rfl rfl rfl
theorem XL_law_33_13 : iWp d mL_law 33 [a0, a1, a2, a3] (.int 13 :: st) h Q = iWp d mL_law 680 [a0, a1, a2, a3] st h Q := w_switch dL_law_33 rfl rfl rfl
theorem XL_law_33_14 : iWp d mL_law 33 [a0, a1, a2, a3] (.int 14 :: st) h Q = iWp d mL_law 723 [a0, a1, a2, a3] st h Q := w_switch dL_law_33 rfl rfl rfl
theorem XL_law_33_15 : iWp d mL_law 33 [a0, a1, a2, a3] (.int 15 :: st) h Q = iWp d mL_law 756 [a0, a1, a2, a3] st h Q := w_switch dL_law_33 rfl rfl rfl
theorem XL_law_33_16 : iWp d mL_law 33 [a0, a1, a2, a3] (.int 16 :: st) h Q = iWp d mL_law 779 [a0, a1, a2, a3] st h Q := w_switch dL_law_33 rfl rfl rfl
theorem XL_law_33_17 : iWp d mL_law 33 [a0, a1, a2, a3] (.int 17 :: st) h Q = iWp d mL_law 812 [a0, a1, a2, a3] st h Q := w_switch dL_law_33 rfl rfl rfl
theorem XL_law_33_18 : iWp d mL_law 33 [a0, a1, a2, a3] (.int 18 :: st) h Q = iWp d mL_law 845 [a0, a1, a2, a3] st h Q := w_switch dL_law_33 rfl rfl rfl
theorem XL_law_33_19 : iWp d mL_law 33 [a0, a1, a2, a3] (.int 19 :: st) h Q = iWp d mL_law 878 [a0, a1, a2, a3] st h Q := w_switch dL_law_33 rfl rfl rfl
theorem XL_law_33_20 : iWp d mL_law 33 [a0, a1, a2, a3] (.int 20 :: st) h Q = iWp d mL_law 911 [a0, a1, a2, a3] st h Q := w_switch dL_law_33 rfl rfl rfl
theorem XL_law_33_21 : iWp d mL_law 33 [a0, a1, a2, a3] (.int 21 :: st) h Q = iWp d mL_law 954 [a0, a1, a2, a3] st h Q := w_switch dL_law_33 rfl rfl rfl
theorem XL_law_33_22 : iWp d mL_law 33 [a0, a1, a2, a3] (.int 22 :: st) h Q = iWp d mL_law 987 [a0, a1, a2, a3] st h Q := w_switch dL_law_33 rfl rfl rfl
theorem XL_law_33_23 : iWp d mL_law 33 [a0, a1, a2, a3] (.int 23 :: st) h Q = iWp d mL_law 1020 [a0, a1, a2, a3] st h Q := w_switch dL_law_33 rfl rfl rfl
theorem XL_law_33_24 : iWp d mL_law 33 [a0, a1, a2, a3] (.int 24 :: st) h Q = iWp d mL_law 1053 [a0, a1, a2, a3] st h Q := w_switch dL_law_33 rfl rfl rfl
theorem XL_law_33_25 : iWp d mL_law 33 [a0, a1, a2, a3] (.int 25 :: st) h Q = iWp d mL_law 1076 [a0, a1, a2, a3] st h Q := w_switch dL_law_33 rfl rfl rfl
theorem XL_law_33_26 : iWp d mL_law 33 [a0, a1, a2, a3] (.int 26 :: st) h Q = iWp d mL_law 1109 [a0, a1, a2, a3] st h Q := w_switch dL_law_33 rfl rfl rfl
theorem XL_law_33_27 : iWp d mL_law 33 [a0, a1, a2, a3] (.int 27 :: st) h Q = iWp d mL_law 1132 [a0, a1, a2, a3] st h Q := w_switch dL_law_33 rfl rfl rfl
theorem XL_law_33_28 : iWp d mL_law 33 [a0, a1, a2, a3] (.int 28 :: st) h Q = iWp d mL_law 1165 [a0, a1, a2, a3] st h Q := w_switch dL_law_33 rfl rfl rfl
theorem XL_law_33_29 : iWp d mL_law 33 [a0, a1, a2, a3] (.int 29 :: st) h Q = iWp d mL_law 1208 [a0, a1, a2, a3] st h Q := w_switch dL_law_33 rfl rfl rfl
theorem XL_law_33_30 : iWp d mL_law 33 [a0, a1, a2, a3] (.int 30 :: st) h Q = iWp d mL_law 1251 [a0, a1, a2, a3] st h Q := w_switch dL_law_33 rfl rfl rfl
theorem XL_law_33_31 : iWp d mL_law 33 [a0, a1, a2, a3] (.int 31 :: st) h Q = iWp d mL_law 1304 [a0, a1, a2, a3] st h Q := w_switch dL_law_33 rfl rfl rfl
theorem XL_law_33_32 : iWp d mL_law 33 [a0, a1, a2, a3] (.int 32 :: st) h Q = iWp d mL_law 1317 [a0, a1, a2, a3] st h Q := w_switch dL_law_33 rfl rfl rfl
theorem XL_law_33_33 : iWp d mL_law 33 [a0, a1, a2, a3] (.int 33 :: st) h Q = iWp d mL_law 1360 [a0, a1, a2, a3] st h Q := w_switch dL_law_33 rfl rfl rfl
theorem XL_law_33_34 : iWp d mL_law 33 [a0, a1, a2, a3] (.int 34 :: st) h Q = iWp d mL_law 1393 [a0, a1, a2, a3] st h Q := w_switch dL_law_33 rfl rfl rfl
theorem XL_law_33_35 : iWp d mL_law 33 [a0, a1, a2, a3] (.int 35 :: st) h Q = iWp d mL_law 1416 [a0, a1, a2, a3] st h Q := w_switch dL_law_33 rfl rfl rfl
theorem XL_law_33_36 : iWp d mL_law 33 [a0, a1, a2, a3] (.int 36 :: st) h Q = iWp d mL_law 1429 [a0, a1, a2, a3] st h Q := w_switch dL_law_33 rfl rfl rfl
theorem XL_law_33_37 : iWp d mL_law 33 [a0, a1, a2, a3] (.int 37 :: st) h Q = iWp d mL_law 1442 [a0, a1, a2, a3] st h Q := w_switch dL_law_33 rfl rfl rfl
theorem XL_law_33_d (hx : x.toInt < 0 ∨ 37 < x.toInt) : iWp d mL_law 33 [a0, a1, a2, a3] (.int x :: st) h Q = iWp d mL_law 1465 [a0, a1, a2, a3] st h Q := w_switchD dL_law_33 hx rfl
theorem XL_law_200 : iWp d mL_law 200 [a0, .ref p, a2, a3] st h Q = iWp d mL_law 201 [a0, .ref p, a2, a3] (.ref p :: st) h Q := w_aload_n dL_law_200 rfl
theorem XL_law_200n : iWp d mL_law 200 [a0, .null, a2, a3] st h Q = iWp d mL_law 201 [a0, .null, a2, a3] (.null :: st) h Q := w_aload_nN dL_law_200 rfl
theorem XL_law_201 : iWp d mL_law 201 [.ref p, a1, a2, a3] st h Q = iWp d mL_law 202 [.ref p, a1, a2, a3] (.ref p :: st) h Q := w_aload_n dL_law_201 rfl
theorem XL_law_201n : iWp d mL_law 201 [.null, a1, a2, a3] st h Q = iWp d mL_law 202 [.null, a1, a2, a3] (.null :: st) h Q := w_aload_nN dL_law_201 rfl
theorem XL_law_202 : iWp d mL_law 202 [a0, a1, a2, .int x] st h Q = iWp d mL_law 203 [a0, a1, a2, .int x] (.int x :: st) h Q := w_iload_n dL_law_202 rfl
theorem XL_law_203 : iWp d mL_law 203 [a0, a1, a2, a3] st h Q = iWp d mL_law 204 [a0, a1, a2, a3] (.int 1 :: st) h Q := w_iconst dL_law_203 rfl
theorem XL_law_204 : iWp d mL_law 204 [a0, a1, a2, a3] (.int y :: .int x :: st) h Q = iWp d mL_law 205 [a0, a1, a2, a3] (.int (x + y) :: st) h Q := w_iadd dL_law_204
theorem XL_law_205 : iWp d mL_law 205 [a0, a1, a2, a3] (.int x :: .ref p :: st) h Q = iOb (iLdI h p x) (fun v => iWp d mL_law 206 [a0, a1, a2, a3] (.int v :: st) h Q) := w_iaload dL_law_205
theorem XL_law_206 : iWp d mL_law 206 [.ref p, a1, a2, a3] st h Q = iWp d mL_law 207 [.ref p, a1, a2, a3] (.ref p :: st) h Q := w_aload_n dL_law_206 rfl
theorem XL_law_206n : iWp d mL_law 206 [.null, a1, a2, a3] st h Q = iWp d mL_law 207 [.null, a1, a2, a3] (.null :: st) h Q := w_aload_nN dL_law_206 rfl
theorem XL_law_207 : iWp d mL_law 207 [a0, a1, a2, .int x] st h Q = iWp d mL_law 208 [a0, a1, a2, .int x] (.int x :: st) h Q := w_iload_n dL_law_207 rfl
theorem XL_law_208 : iWp d mL_law 208 [a0, a1, a2, a3] st h Q = iWp d mL_law 209 [a0, a1, a2, a3] (.int 2 :: st) h Q := w_iconst dL_law_208 rfl
theorem XL_law_209 : iWp d mL_law 209 [a0, a1, a2, a3] (.int y :: .int x :: st) h Q = iWp d mL_law 210 [a0, a1, a2, a3] (.int (x + y) :: st) h Q := w_iadd dL_law_209
theorem XL_law_210 : iWp d mL_law 210 [a0, a1, a2, a3] (.int x :: .ref p :: st) h Q = iOb (iLdI h p x) (fun v => iWp d mL_law 211 [a0, a1, a2, a3] (.int v :: st) h Q) := w_iaload dL_law_210
theorem XL_law_211 : iWp d mL_law 211 [.ref p, a1, a2, a3] st h Q = iWp d mL_law 212 [.ref p, a1, a2, a3] (.ref p :: st) h Q := w_aload_n dL_law_211 rfl
theorem XL_law_211n : iWp d mL_law 211 [.null, a1, a2, a3] st h Q = iWp d mL_law 212 [.null, a1, a2, a3] (.null :: st) h Q := w_aload_nN dL_law_211 rfl
theorem XL_law_212 : iWp d mL_law 212 [a0, a1, a2, .int x] st h Q = iWp d mL_law 213 [a0, a1, a2, .int x] (.int x :: st) h Q := w_iload_n dL_law_212 rfl
theorem XL_law_213 : iWp d mL_law 213 [a0, a1, a2, a3] st h Q = iWp d mL_law 214 [a0, a1, a2, a3] (.int 3 :: st) h Q := w_iconst dL_law_213 rfl
theorem XL_law_214 : iWp d mL_law 214 [a0, a1, a2, a3] (.int y :: .int x :: st) h Q = iWp d mL_law 215 [a0, a1, a2, a3] (.int (x + y) :: st) h Q := w_iadd dL_law_214
theorem XL_law_215 : iWp d mL_law 215 [a0, a1, a2, a3] (.int x :: .ref p :: st) h Q = iOb (iLdI h p x) (fun v => iWp d mL_law 216 [a0, a1, a2, a3] (.int v :: st) h Q) := w_iaload dL_law_215
theorem XL_law_216 (he : iEv mX8_row [.ref p, .int x0, .int x1, .int x2] h (some (.int rv)) h2) (ho : iObj h p 8 = true) : iWp 60 mL_law 216 [a0, a1, a2, a3] [.int x2, .int x1, .int x0, .ref p] h Q = iWp 60 mL_law 219 [a0, a1, a2, a3] [.int rv] h2 Q := iWp_cV dL_law_216 fK_10_13 rfl rfl ho (Nat.le_of_ble_eq_true rfl) (Nat.le_of_ble_eq_true rfl) rfl (Nat.le_of_ble_eq_true rfl) he rfl
theorem XL_law_219 : iWp d mL_law 219 [a0, a1, .ref p, a3] st h Q = iWp d mL_law 220 [a0, a1, .ref p, a3] (.ref p :: st) h Q := w_aload_n dL_law_219 rfl
theorem XL_law_219n : iWp d mL_law 219 [a0, a1, .null, a3] st h Q = iWp d mL_law 220 [a0, a1, .null, a3] (.null :: st) h Q := w_aload_nN dL_law_219 rfl
theorem XL_law_220 : iWp d mL_law 220 [.ref p, a1, a2, a3] st h Q = iWp d mL_law 221 [.ref p, a1, a2, a3] (.ref p :: st) h Q := w_aload_n dL_law_220 rfl
theorem XL_law_220n : iWp d mL_law 220 [.null, a1, a2, a3] st h Q = iWp d mL_law 221 [.null, a1, a2, a3] (.null :: st) h Q := w_aload_nN dL_law_220 rfl
theorem XL_law_221 : iWp d mL_law 221 [a0, a1, a2, .int x] st h Q = iWp d mL_law 222 [a0, a1, a2, .int x] (.int x :: st) h Q := w_iload_n dL_law_221 rfl
theorem XL_law_222 : iWp d mL_law 222 [a0, a1, a2, a3] st h Q = iWp d mL_law 223 [a0, a1, a2, a3] (.int 1 :: st) h Q := w_iconst dL_law_222 rfl
theorem XL_law_223 : iWp d mL_law 223 [a0, a1, a2, a3] (.int y :: .int x :: st) h Q = iWp d mL_law 224 [a0, a1, a2, a3] (.int (x + y) :: st) h Q := w_iadd dL_law_223
theorem XL_law_224 : iWp d mL_law 224 [a0, a1, a2, a3] (.int x :: .ref p :: st) h Q = iOb (iLdI h p x) (fun v => iWp d mL_law 225 [a0, a1, a2, a3] (.int v :: st) h Q) := w_iaload dL_law_224
theorem XL_law_225 : iWp d mL_law 225 [.ref p, a1, a2, a3] st h Q = iWp d mL_law 226 [.ref p, a1, a2, a3] (.ref p :: st) h Q := w_aload_n dL_law_225 rfl
theorem XL_law_225n : iWp d mL_law 225 [.null, a1, a2, a3] st h Q = iWp d mL_law 226 [.null, a1, a2, a3] (.null :: st) h Q := w_aload_nN dL_law_225 rfl
theorem XL_law_226 : iWp d mL_law 226 [a0, a1, a2, .int x] st h Q = iWp d mL_law 227 [a0, a1, a2, .int x] (.int x :: st) h Q := w_iload_n dL_law_226 rfl
theorem XL_law_227 : iWp d mL_law 227 [a0, a1, a2, a3] st h Q = iWp d mL_law 228 [a0, a1, a2, a3] (.int 2 :: st) h Q := w_iconst dL_law_227 rfl
theorem XL_law_228 : iWp d mL_law 228 [a0, a1, a2, a3] (.int y :: .int x :: st) h Q = iWp d mL_law 229 [a0, a1, a2, a3] (.int (x + y) :: st) h Q := w_iadd dL_law_228
theorem XL_law_229 : iWp d mL_law 229 [a0, a1, a2, a3] (.int x :: .ref p :: st) h Q = iOb (iLdI h p x) (fun v => iWp d mL_law 230 [a0, a1, a2, a3] (.int v :: st) h Q) := w_iaload dL_law_229
theorem XL_law_230 : iWp d mL_law 230 [.ref p, a1, a2, a3] st h Q = iWp d mL_law 231 [.ref p, a1, a2, a3] (.ref p :: st) h Q := w_aload_n dL_law_230 rfl
theorem XL_law_230n : iWp d mL_law 230 [.null, a1, a2, a3] st h Q = iWp d mL_law 231 [.null, a1, a2, a3] (.null :: st) h Q := w_aload_nN dL_law_230 rfl
theorem XL_law_231 : iWp d mL_law 231 [a0, a1, a2, .int x] st h Q = iWp d mL_law 232 [a0, a1, a2, .int x] (.int x :: st) h Q := w_iload_n dL_law_231 rfl
theorem XL_law_232 : iWp d mL_law 232 [a0, a1, a2, a3] st h Q = iWp d mL_law 233 [a0, a1, a2, a3] (.int 3 :: st) h Q := w_iconst dL_law_232 rfl
theorem XL_law_233 : iWp d mL_law 233 [a0, a1, a2, a3] (.int y :: .int x :: st) h Q = iWp d mL_law 234 [a0, a1, a2, a3] (.int (x + y) :: st) h Q := w_iadd dL_law_233
theorem XL_law_234 : iWp d mL_law 234 [a0, a1, a2, a3] (.int x :: .ref p :: st) h Q = iOb (iLdI h p x) (fun v => iWp d mL_law 235 [a0, a1, a2, a3] (.int v :: st) h Q) := w_iaload dL_law_234
theorem XL_law_235 (he : iEv mX9_row [.ref p, .int x0, .int x1, .int x2] h (some (.int rv)) h2) (ho : iObj h p 9 = true) : iWp 60 mL_law 235 [a0, a1, a2, a3] [.int x2, .int x1, .int x0, .ref p, .int r0] h Q = iWp 60 mL_law 238 [a0, a1, a2, a3] [.int rv, .int r0] h2 Q := iWp_cV dL_law_235 fK_10_17 rfl rfl ho (Nat.le_of_ble_eq_true rfl) (Nat.le_of_ble_eq_true rfl) rfl (Nat.le_of_ble_eq_true rfl) he rfl
theorem XL_law_238 : iWp d mL_law 238 [a0, a1, a2, a3] (.int y :: .int x :: st) h Q = if x = y then iWp d mL_law 1465 [a0, a1, a2, a3] st h Q else iWp d mL_law 241 [a0, a1, a2, a3] st h Q := w_icmp_eq dL_law_238 rfl
theorem XL_law_241 : iWp d mL_law 241 [a0, a1, a2, a3] st h Q = iWp d mL_law 242 [a0, a1, a2, a3] (.int 0 :: st) h Q := w_iconst dL_law_241 rfl
theorem XL_law_242 : iWp d mL_law 242 [a0, a1, a2, a3] [.int (iB b)] h Q = Q (some (.int (iB b))) h := w_iretb dL_law_242 rfl
theorem XL_law_242z : iWp d mL_law 242 [a0, a1, a2, a3] [.int 0] h Q = Q (some (.int (iB false))) h := w_iretb (bb := false) dL_law_242 rfl
theorem XL_law_242o : iWp d mL_law 242 [a0, a1, a2, a3] [.int 1] h Q = Q (some (.int (iB true))) h := w_iretb (bb := true) dL_law_242 rfl
theorem XL_law_243 : iWp d mL_law 243 [a0, .ref p, a2, a3] st h Q = iWp d mL_law 244 [a0, .ref p, a2, a3] (.ref p :: st) h Q := w_aload_n dL_law_243 rfl
theorem XL_law_243n : iWp d mL_law 243 [a0, .null, a2, a3] st h Q = iWp d mL_law 244 [a0, .null, a2, a3] (.null :: st) h Q := w_aload_nN dL_law_243 rfl
theorem XL_law_244 : iWp d mL_law 244 [.ref p, a1, a2, a3] st h Q = iWp d mL_law 245 [.ref p, a1, a2, a3] (.ref p :: st) h Q := w_aload_n dL_law_244 rfl
theorem XL_law_244n : iWp d mL_law 244 [.null, a1, a2, a3] st h Q = iWp d mL_law 245 [.null, a1, a2, a3] (.null :: st) h Q := w_aload_nN dL_law_244 rfl
theorem XL_law_245 : iWp d mL_law 245 [a0, a1, a2, .int x] st h Q = iWp d mL_law 246 [a0, a1, a2, .int x] (.int x :: st) h Q := w_iload_n dL_law_245 rfl
theorem XL_law_246 : iWp d mL_law 246 [a0, a1, a2, a3] st h Q = iWp d mL_law 247 [a0, a1, a2, a3] (.int 1 :: st) h Q := w_iconst dL_law_246 rfl
theorem XL_law_247 : iWp d mL_law 247 [a0, a1, a2, a3] (.int y :: .int x :: st) h Q = iWp d mL_law 248 [a0, a1, a2, a3] (.int (x + y) :: st) h Q := w_iadd dL_law_247
theorem XL_law_248 : iWp d mL_law 248 [a0, a1, a2, a3] (.int x :: .ref p :: st) h Q = iOb (iLdI h p x) (fun v => iWp d mL_law 249 [a0, a1, a2, a3] (.int v :: st) h Q) := w_iaload dL_law_248
theorem XL_law_249 : iWp d mL_law 249 [.ref p, a1, a2, a3] st h Q = iWp d mL_law 250 [.ref p, a1, a2, a3] (.ref p :: st) h Q := w_aload_n dL_law_249 rfl
theorem XL_law_249n : iWp d mL_law 249 [.null, a1, a2, a3] st h Q = iWp d mL_law 250 [.null, a1, a2, a3] (.null :: st) h Q := w_aload_nN dL_law_249 rfl
theorem XL_law_250 : iWp d mL_law 250 [a0, a1, a2, .int x] st h Q = iWp d mL_law 251 [a0, a1, a2, .int x] (.int x :: st) h Q := w_iload_n dL_law_250 rfl
theorem XL_law_251 : iWp d mL_law 251 [a0, a1, a2, a3] st h Q = iWp d mL_law 252 [a0, a1, a2, a3] (.int 2 :: st) h Q := w_iconst dL_law_251 rfl
theorem XL_law_252 : iWp d mL_law 252 [a0, a1, a2, a3] (.int y :: .int x :: st) h Q = iWp d mL_law 253 [a0, a1, a2, a3] (.int (x + y) :: st) h Q := w_iadd dL_law_252
theorem XL_law_253 : iWp d mL_law 253 [a0, a1, a2, a3] (.int x :: .ref p :: st) h Q = iOb (iLdI h p x) (fun v => iWp d mL_law 254 [a0, a1, a2, a3] (.int v :: st) h Q) := w_iaload dL_law_253
theorem XL_law_254 : iWp d mL_law 254 [.ref p, a1, a2, a3] st h Q = iWp d mL_law 255 [.ref p, a1, a2, a3] (.ref p :: st) h Q := w_aload_n dL_law_254 rfl
theorem XL_law_254n : iWp d mL_law 254 [.null, a1, a2, a3] st h Q = iWp d mL_law 255 [.null, a1, a2, a3] (.null :: st) h Q := w_aload_nN dL_law_254 rfl
theorem XL_law_255 : iWp d mL_law 255 [a0, a1, a2, .int x] st h Q = iWp d mL_law 256 [a0, a1, a2, .int x] (.int x :: st) h Q := w_iload_n dL_law_255 rfl
theorem XL_law_256 : iWp d mL_law 256 [a0, a1, a2, a3] st h Q = iWp d mL_law 257 [a0, a1, a2, a3] (.int 3 :: st) h Q := w_iconst dL_law_256 rfl
theorem XL_law_257 : iWp d mL_law 257 [a0, a1, a2, a3] (.int y :: .int x :: st) h Q = iWp d mL_law 258 [a0, a1, a2, a3] (.int (x + y) :: st) h Q := w_iadd dL_law_257
theorem XL_law_258 : iWp d mL_law 258 [a0, a1, a2, a3] (.int x :: .ref p :: st) h Q = iOb (iLdI h p x) (fun v => iWp d mL_law 259 [a0, a1, a2, a3] (.int v :: st) h Q) := w_iaload dL_law_258
theorem XL_law_259 : iWp d mL_law 259 [a0, a1, a2, a3] (.int x :: st) h Q = iWp d mL_law 260 [a0, a1, a2, a3] (.long x.toInt64 :: st) h Q := w_i2l dL_law_259
theorem XL_law_260 : iWp d mL_law 260 [a0, a1, a2, a3] st h Q = iWp d mL_law 262 [a0, a1, a2, a3] (.int 32 :: st) h Q := w_bipush dL_law_260 rfl
theorem XL_law_262 : iWp d mL_law 262 [a0, a1, a2, a3] (.int y :: .long u :: st) h Q = iWp d mL_law 263 [a0, a1, a2, a3] (.long (u <<< (y.toInt64 &&& 63)) :: st) h Q := w_lshl dL_law_262
theorem XL_law_263 : iWp d mL_law 263 [.ref p, a1, a2, a3] st h Q = iWp d mL_law 264 [.ref p, a1, a2, a3] (.ref p :: st) h Q := w_aload_n dL_law_263 rfl
theorem XL_law_263n : iWp d mL_law 263 [.null, a1, a2, a3] st h Q = iWp d mL_law 264 [.null, a1, a2, a3] (.null :: st) h Q := w_aload_nN dL_law_263 rfl
theorem XL_law_264 : iWp d mL_law 264 [a0, a1, a2, .int x] st h Q = iWp d mL_law 265 [a0, a1, a2, .int x] (.int x :: st) h Q := w_iload_n dL_law_264 rfl
theorem XL_law_265 : iWp d mL_law 265 [a0, a1, a2, a3] st h Q = iWp d mL_law 266 [a0, a1, a2, a3] (.int 4 :: st) h Q := w_iconst dL_law_265 rfl
theorem XL_law_266 : iWp d mL_law 266 [a0, a1, a2, a3] (.int y :: .int x :: st) h Q = iWp d mL_law 267 [a0, a1, a2, a3] (.int (x + y) :: st) h Q := w_iadd dL_law_266
theorem XL_law_267 : iWp d mL_law 267 [a0, a1, a2, a3] (.int x :: .ref p :: st) h Q = iOb (iLdI h p x) (fun v => iWp d mL_law 268 [a0, a1, a2, a3] (.int v :: st) h Q) := w_iaload dL_law_267
theorem XL_law_268 : iWp d mL_law 268 [a0, a1, a2, a3] (.int x :: st) h Q = iWp d mL_law 269 [a0, a1, a2, a3] (.long x.toInt64 :: st) h Q := w_i2l dL_law_268
theorem XL_law_269 : iWp d mL_law 269 [a0, a1, a2, a3] st h Q = iWp d mL_law 272 [a0, a1, a2, a3] (.long 4294967295 :: st) h Q := w_ldc2_w dL_law_269 rfl
theorem XL_law_272 : iWp d mL_law 272 [a0, a1, a2, a3] (.long v :: .long u :: st) h Q = iWp d mL_law 273 [a0, a1, a2, a3] (.long (u &&& v) :: st) h Q := w_land dL_law_272
theorem XL_law_273 : iWp d mL_law 273 [a0, a1, a2, a3] (.long v :: .long u :: st) h Q = iWp d mL_law 274 [a0, a1, a2, a3] (.long (u ||| v) :: st) h Q := w_lor dL_law_273
theorem XL_law_274 (he : iEv mX8_set [.ref p, .int x0, .int x1, .long u2] h (some (.int rv)) h2) (ho : iObj h p 8 = true) : iWp 60 mL_law 274 [a0, a1, a2, a3] [.long u2, .int x1, .int x0, .ref p] h Q = iWp 60 mL_law 277 [a0, a1, a2, a3] [.int rv] h2 Q := iWp_cV dL_law_274 fK_10_20 rfl rfl ho (Nat.le_of_ble_eq_true rfl) (Nat.le_of_ble_eq_true rfl) rfl (Nat.le_of_ble_eq_true rfl) he rfl
theorem XL_law_277 : iWp d mL_law 277 [a0, a1, .ref p, a3] st h Q = iWp d mL_law 278 [a0, a1, .ref p, a3] (.ref p :: st) h Q := w_aload_n dL_law_277 rfl
theorem XL_law_277n : iWp d mL_law 277 [a0, a1, .null, a3] st h Q = iWp d mL_law 278 [a0, a1, .null, a3] (.null :: st) h Q := w_aload_nN dL_law_277 rfl
theorem XL_law_278 : iWp d mL_law 278 [.ref p, a1, a2, a3] st h Q = iWp d mL_law 279 [.ref p, a1, a2, a3] (.ref p :: st) h Q := w_aload_n dL_law_278 rfl
theorem XL_law_278n : iWp d mL_law 278 [.null, a1, a2, a3] st h Q = iWp d mL_law 279 [.null, a1, a2, a3] (.null :: st) h Q := w_aload_nN dL_law_278 rfl
theorem XL_law_279 : iWp d mL_law 279 [a0, a1, a2, .int x] st h Q = iWp d mL_law 280 [a0, a1, a2, .int x] (.int x :: st) h Q := w_iload_n dL_law_279 rfl
theorem XL_law_280 : iWp d mL_law 280 [a0, a1, a2, a3] st h Q = iWp d mL_law 281 [a0, a1, a2, a3] (.int 1 :: st) h Q := w_iconst dL_law_280 rfl
theorem XL_law_281 : iWp d mL_law 281 [a0, a1, a2, a3] (.int y :: .int x :: st) h Q = iWp d mL_law 282 [a0, a1, a2, a3] (.int (x + y) :: st) h Q := w_iadd dL_law_281
theorem XL_law_282 : iWp d mL_law 282 [a0, a1, a2, a3] (.int x :: .ref p :: st) h Q = iOb (iLdI h p x) (fun v => iWp d mL_law 283 [a0, a1, a2, a3] (.int v :: st) h Q) := w_iaload dL_law_282
theorem XL_law_283 : iWp d mL_law 283 [.ref p, a1, a2, a3] st h Q = iWp d mL_law 284 [.ref p, a1, a2, a3] (.ref p :: st) h Q := w_aload_n dL_law_283 rfl
theorem XL_law_283n : iWp d mL_law 283 [.null, a1, a2, a3] st h Q = iWp d mL_law 284 [.null, a1, a2, a3] (.null :: st) h Q := w_aload_nN dL_law_283 rfl
theorem XL_law_284 : iWp d mL_law 284 [a0, a1, a2, .int x] st h Q = iWp d mL_law 285 [a0, a1, a2, .int x] (.int x :: st) h Q := w_iload_n dL_law_284 rfl
theorem XL_law_285 : iWp d mL_law 285 [a0, a1, a2, a3] st h Q = iWp d mL_law 286 [a0, a1, a2, a3] (.int 2 :: st) h Q := w_iconst dL_law_285 rfl
theorem XL_law_286 : iWp d mL_law 286 [a0, a1, a2, a3] (.int y :: .int x :: st) h Q = iWp d mL_law 287 [a0, a1, a2, a3] (.int (x + y) :: st) h Q := w_iadd dL_law_286
theorem XL_law_287 : iWp d mL_law 287 [a0, a1, a2, a3] (.int x :: .ref p :: st) h Q = iOb (iLdI h p x) (fun v => iWp d mL_law 288 [a0, a1, a2, a3] (.int v :: st) h Q) := w_iaload dL_law_287
theorem XL_law_288 : iWp d mL_law 288 [.ref p, a1, a2, a3] st h Q = iWp d mL_law 289 [.ref p, a1, a2, a3] (.ref p :: st) h Q := w_aload_n dL_law_288 rfl
theorem XL_law_288n : iWp d mL_law 288 [.null, a1, a2, a3] st h Q = iWp d mL_law 289 [.null, a1, a2, a3] (.null :: st) h Q := w_aload_nN dL_law_288 rfl
theorem XL_law_289 : iWp d mL_law 289 [a0, a1, a2, .int x] st h Q = iWp d mL_law 290 [a0, a1, a2, .int x] (.int x :: st) h Q := w_iload_n dL_law_289 rfl
theorem XL_law_290 : iWp d mL_law 290 [a0, a1, a2, a3] st h Q = iWp d mL_law 291 [a0, a1, a2, a3] (.int 3 :: st) h Q := w_iconst dL_law_290 rfl
theorem XL_law_291 : iWp d mL_law 291 [a0, a1, a2, a3] (.int y :: .int x :: st) h Q = iWp d mL_law 292 [a0, a1, a2, a3] (.int (x + y) :: st) h Q := w_iadd dL_law_291
theorem XL_law_292 : iWp d mL_law 292 [a0, a1, a2, a3] (.int x :: .ref p :: st) h Q = iOb (iLdI h p x) (fun v => iWp d mL_law 293 [a0, a1, a2, a3] (.int v :: st) h Q) := w_iaload dL_law_292
theorem XL_law_293 : iWp d mL_law 293 [a0, a1, a2, a3] (.int x :: st) h Q = iWp d mL_law 294 [a0, a1, a2, a3] (.long x.toInt64 :: st) h Q := w_i2l dL_law_293
theorem XL_law_294 : iWp d mL_law 294 [a0, a1, a2, a3] st h Q = iWp d mL_law 296 [a0, a1, a2, a3] (.int 32 :: st) h Q := w_bipush dL_law_294 rfl
theorem XL_law_296 : iWp d mL_law 296 [a0, a1, a2, a3] (.int y :: .long u :: st) h Q = iWp d mL_law 297 [a0, a1, a2, a3] (.long (u <<< (y.toInt64 &&& 63)) :: st) h Q := w_lshl dL_law_296
theorem XL_law_297 : iWp d mL_law 297 [.ref p, a1, a2, a3] st h Q = iWp d mL_law 298 [.ref p, a1, a2, a3] (.ref p :: st) h Q := w_aload_n dL_law_297 rfl
theorem XL_law_297n : iWp d mL_law 297 [.null, a1, a2, a3] st h Q = iWp d mL_law 298 [.null, a1, a2, a3] (.null :: st) h Q := w_aload_nN dL_law_297 rfl
theorem XL_law_298 : iWp d mL_law 298 [a0, a1, a2, .int x] st h Q = iWp d mL_law 299 [a0, a1, a2, .int x] (.int x :: st) h Q := w_iload_n dL_law_298 rfl
theorem XL_law_299 : iWp d mL_law 299 [a0, a1, a2, a3] st h Q = iWp d mL_law 300 [a0, a1, a2, a3] (.int 4 :: st) h Q := w_iconst dL_law_299 rfl
theorem XL_law_300 : iWp d mL_law 300 [a0, a1, a2, a3] (.int y :: .int x :: st) h Q = iWp d mL_law 301 [a0, a1, a2, a3] (.int (x + y) :: st) h Q := w_iadd dL_law_300
theorem XL_law_301 : iWp d mL_law 301 [a0, a1, a2, a3] (.int x :: .ref p :: st) h Q = iOb (iLdI h p x) (fun v => iWp d mL_law 302 [a0, a1, a2, a3] (.int v :: st) h Q) := w_iaload dL_law_301
theorem XL_law_302 : iWp d mL_law 302 [a0, a1, a2, a3] (.int x :: st) h Q = iWp d mL_law 303 [a0, a1, a2, a3] (.long x.toInt64 :: st) h Q := w_i2l dL_law_302
theorem XL_law_303 : iWp d mL_law 303 [a0, a1, a2, a3] st h Q = iWp d mL_law 306 [a0, a1, a2, a3] (.long 4294967295 :: st) h Q := w_ldc2_w dL_law_303 rfl
theorem XL_law_306 : iWp d mL_law 306 [a0, a1, a2, a3] (.long v :: .long u :: st) h Q = iWp d mL_law 307 [a0, a1, a2, a3] (.long (u &&& v) :: st) h Q := w_land dL_law_306
theorem XL_law_307 : iWp d mL_law 307 [a0, a1, a2, a3] (.long v :: .long u :: st) h Q = iWp d mL_law 308 [a0, a1, a2, a3] (.long (u ||| v) :: st) h Q := w_lor dL_law_307
theorem XL_law_308 (he : iEv mX9_set [.ref p, .int x0, .int x1, .long u2] h (some (.int rv)) h2) (ho : iObj h p 9 = true) : iWp 60 mL_law 308 [a0, a1, a2, a3] [.long u2, .int x1, .int x0, .ref p, .int r0] h Q = iWp 60 mL_law 311 [a0, a1, a2, a3] [.int rv, .int r0] h2 Q := iWp_cV dL_law_308 fK_10_24 rfl rfl ho (Nat.le_of_ble_eq_true rfl) (Nat.le_of_ble_eq_true rfl) rfl (Nat.le_of_ble_eq_true rfl) he rfl
theorem XL_law_311 : iWp d mL_law 311 [a0, a1, a2, a3] (.int y :: .int x :: st) h Q = if x = y then iWp d mL_law 1465 [a0, a1, a2, a3] st h Q else iWp d mL_law 314 [a0, a1, a2, a3] st h Q := w_icmp_eq dL_law_311 rfl
theorem XL_law_314 : iWp d mL_law 314 [a0, a1, a2, a3] st h Q = iWp d mL_law 315 [a0, a1, a2, a3] (.int 0 :: st) h Q := w_iconst dL_law_314 rfl
theorem XL_law_315 : iWp d mL_law 315 [a0, a1, a2, a3] [.int (iB b)] h Q = Q (some (.int (iB b))) h := w_iretb dL_law_315 rfl
theorem XL_law_315z : iWp d mL_law 315 [a0, a1, a2, a3] [.int 0] h Q = Q (some (.int (iB false))) h := w_iretb (bb := false) dL_law_315 rfl
theorem XL_law_315o : iWp d mL_law 315 [a0, a1, a2, a3] [.int 1] h Q = Q (some (.int (iB true))) h := w_iretb (bb := true) dL_law_315 rfl
theorem XL_law_316 : iWp d mL_law 316 [a0, .ref p, a2, a3] st h Q = iWp d mL_law 317 [a0, .ref p, a2, a3] (.ref p :: st) h Q := w_aload_n dL_law_316 rfl
theorem XL_law_316n : iWp d mL_law 316 [a0, .null, a2, a3] st h Q = iWp d mL_law 317 [a0, .null, a2, a3] (.null :: st) h Q := w_aload_nN dL_law_316 rfl
theorem XL_law_317 : iWp d mL_law 317 [.ref p, a1, a2, a3] st h Q = iWp d mL_law 318 [.ref p, a1, a2, a3] (.ref p :: st) h Q := w_aload_n dL_law_317 rfl
theorem XL_law_317n : iWp d mL_law 317 [.null, a1, a2, a3] st h Q = iWp d mL_law 318 [.null, a1, a2, a3] (.null :: st) h Q := w_aload_nN dL_law_317 rfl
theorem XL_law_318 : iWp d mL_law 318 [a0, a1, a2, .int x] st h Q = iWp d mL_law 319 [a0, a1, a2, .int x] (.int x :: st) h Q := w_iload_n dL_law_318 rfl
theorem XL_law_319 : iWp d mL_law 319 [a0, a1, a2, a3] st h Q = iWp d mL_law 320 [a0, a1, a2, a3] (.int 1 :: st) h Q := w_iconst dL_law_319 rfl
theorem XL_law_320 : iWp d mL_law 320 [a0, a1, a2, a3] (.int y :: .int x :: st) h Q = iWp d mL_law 321 [a0, a1, a2, a3] (.int (x + y) :: st) h Q := w_iadd dL_law_320
theorem XL_law_321 : iWp d mL_law 321 [a0, a1, a2, a3] (.int x :: .ref p :: st) h Q = iOb (iLdI h p x) (fun v => iWp d mL_law 322 [a0, a1, a2, a3] (.int v :: st) h Q) := w_iaload dL_law_321
theorem XL_law_322 : iWp d mL_law 322 [.ref p, a1, a2, a3] st h Q = iWp d mL_law 323 [.ref p, a1, a2, a3] (.ref p :: st) h Q := w_aload_n dL_law_322 rfl
theorem XL_law_322n : iWp d mL_law 322 [.null, a1, a2, a3] st h Q = iWp d mL_law 323 [.null, a1, a2, a3] (.null :: st) h Q := w_aload_nN dL_law_322 rfl
theorem XL_law_323 : iWp d mL_law 323 [a0, a1, a2, .int x] st h Q = iWp d mL_law 324 [a0, a1, a2, .int x] (.int x :: st) h Q := w_iload_n dL_law_323 rfl
theorem XL_law_324 : iWp d mL_law 324 [a0, a1, a2, a3] st h Q = iWp d mL_law 325 [a0, a1, a2, a3] (.int 2 :: st) h Q := w_iconst dL_law_324 rfl
theorem XL_law_325 : iWp d mL_law 325 [a0, a1, a2, a3] (.int y :: .int x :: st) h Q = iWp d mL_law 326 [a0, a1, a2, a3] (.int (x + y) :: st) h Q := w_iadd dL_law_325
theorem XL_law_326 : iWp d mL_law 326 [a0, a1, a2, a3] (.int x :: .ref p :: st) h Q = iOb (iLdI h p x) (fun v => iWp d mL_law 327 [a0, a1, a2, a3] (.int v :: st) h Q) := w_iaload dL_law_326
theorem XL_law_327 : iWp d mL_law 327 [.ref p, a1, a2, a3] st h Q = iWp d mL_law 328 [.ref p, a1, a2, a3] (.ref p :: st) h Q := w_aload_n dL_law_327 rfl
theorem XL_law_327n : iWp d mL_law 327 [.null, a1, a2, a3] st h Q = iWp d mL_law 328 [.null, a1, a2, a3] (.null :: st) h Q := w_aload_nN dL_law_327 rfl
theorem XL_law_328 : iWp d mL_law 328 [a0, a1, a2, .int x] st h Q = iWp d mL_law 329 [a0, a1, a2, .int x] (.int x :: st) h Q := w_iload_n dL_law_328 rfl
theorem XL_law_329 : iWp d mL_law 329 [a0, a1, a2, a3] st h Q = iWp d mL_law 330 [a0, a1, a2, a3] (.int 3 :: st) h Q := w_iconst dL_law_329 rfl
theorem XL_law_330 : iWp d mL_law 330 [a0, a1, a2, a3] (.int y :: .int x :: st) h Q = iWp d mL_law 331 [a0, a1, a2, a3] (.int (x + y) :: st) h Q := w_iadd dL_law_330
theorem XL_law_331 : iWp d mL_law 331 [a0, a1, a2, a3] (.int x :: .ref p :: st) h Q = iOb (iLdI h p x) (fun v => iWp d mL_law 332 [a0, a1, a2, a3] (.int v :: st) h Q) := w_iaload dL_law_331
theorem XL_law_332 : iWp d mL_law 332 [.ref p, a1, a2, a3] st h Q = iWp d mL_law 333 [.ref p, a1, a2, a3] (.ref p :: st) h Q := w_aload_n dL_law_332 rfl
theorem XL_law_332n : iWp d mL_law 332 [.null, a1, a2, a3] st h Q = iWp d mL_law 333 [.null, a1, a2, a3] (.null :: st) h Q := w_aload_nN dL_law_332 rfl
theorem XL_law_333 : iWp d mL_law 333 [a0, a1, a2, .int x] st h Q = iWp d mL_law 334 [a0, a1, a2, .int x] (.int x :: st) h Q := w_iload_n dL_law_333 rfl
theorem XL_law_334 : iWp d mL_law 334 [a0, a1, a2, a3] st h Q = iWp d mL_law 335 [a0, a1, a2, a3] (.int 4 :: st) h Q := w_iconst dL_law_334 rfl
theorem XL_law_335 : iWp d mL_law 335 [a0, a1, a2, a3] (.int y :: .int x :: st) h Q = iWp d mL_law 336 [a0, a1, a2, a3] (.int (x + y) :: st) h Q := w_iadd dL_law_335
theorem XL_law_336 : iWp d mL_law 336 [a0, a1, a2, a3] (.int x :: .ref p :: st) h Q = iOb (iLdI h p x) (fun v => iWp d mL_law 337 [a0, a1, a2, a3] (.int v :: st) h Q) := w_iaload dL_law_336
theorem XL_law_337 : iWp d mL_law 337 [.ref p, a1, a2, a3] st h Q = iWp d mL_law 338 [.ref p, a1, a2, a3] (.ref p :: st) h Q := w_aload_n dL_law_337 rfl
theorem XL_law_337n : iWp d mL_law 337 [.null, a1, a2, a3] st h Q = iWp d mL_law 338 [.null, a1, a2, a3] (.null :: st) h Q := w_aload_nN dL_law_337 rfl
theorem XL_law_338 : iWp d mL_law 338 [a0, a1, a2, .int x] st h Q = iWp d mL_law 339 [a0, a1, a2, .int x] (.int x :: st) h Q := w_iload_n dL_law_338 rfl
theorem XL_law_339 : iWp d mL_law 339 [a0, a1, a2, a3] st h Q = iWp d mL_law 340 [a0, a1, a2, a3] (.int 5 :: st) h Q := w_iconst dL_law_339 rfl
theorem XL_law_340 : iWp d mL_law 340 [a0, a1, a2, a3] (.int y :: .int x :: st) h Q = iWp d mL_law 341 [a0, a1, a2, a3] (.int (x + y) :: st) h Q := w_iadd dL_law_340
theorem XL_law_341 : iWp d mL_law 341 [a0, a1, a2, a3] (.int x :: .ref p :: st) h Q = iOb (iLdI h p x) (fun v => iWp d mL_law 342 [a0, a1, a2, a3] (.int v :: st) h Q) := w_iaload dL_law_341
theorem XL_law_342 (he : iEv mX8_copy [.ref p, .int x0, .int x1, .int x2, .int x3, .int x4] h (some (.int rv)) h2) (ho : iObj h p 8 = true) : iWp 60 mL_law 342 [a0, a1, a2, a3] [.int x4, .int x3, .int x2, .int x1, .int x0, .ref p] h Q = iWp 60 mL_law 345 [a0, a1, a2, a3] [.int rv] h2 Q := iWp_cV dL_law_342 fK_10_25 rfl rfl ho (Nat.le_of_ble_eq_true rfl) (Nat.le_of_ble_eq_true rfl) rfl (Nat.le_of_ble_eq_true rfl) he rfl
theorem XL_law_345 : iWp d mL_law 345 [a0, a1, .ref p, a3] st h Q = iWp d mL_law 346 [a0, a1, .ref p, a3] (.ref p :: st) h Q := w_aload_n dL_law_345 rfl
theorem XL_law_345n : iWp d mL_law 345 [a0, a1, .null, a3] st h Q = iWp d mL_law 346 [a0, a1, .null, a3] (.null :: st) h Q := w_aload_nN dL_law_345 rfl
theorem XL_law_346 : iWp d mL_law 346 [.ref p, a1, a2, a3] st h Q = iWp d mL_law 347 [.ref p, a1, a2, a3] (.ref p :: st) h Q := w_aload_n dL_law_346 rfl
theorem XL_law_346n : iWp d mL_law 346 [.null, a1, a2, a3] st h Q = iWp d mL_law 347 [.null, a1, a2, a3] (.null :: st) h Q := w_aload_nN dL_law_346 rfl
theorem XL_law_347 : iWp d mL_law 347 [a0, a1, a2, .int x] st h Q = iWp d mL_law 348 [a0, a1, a2, .int x] (.int x :: st) h Q := w_iload_n dL_law_347 rfl
theorem XL_law_348 : iWp d mL_law 348 [a0, a1, a2, a3] st h Q = iWp d mL_law 349 [a0, a1, a2, a3] (.int 1 :: st) h Q := w_iconst dL_law_348 rfl
theorem XL_law_349 : iWp d mL_law 349 [a0, a1, a2, a3] (.int y :: .int x :: st) h Q = iWp d mL_law 350 [a0, a1, a2, a3] (.int (x + y) :: st) h Q := w_iadd dL_law_349
theorem XL_law_350 : iWp d mL_law 350 [a0, a1, a2, a3] (.int x :: .ref p :: st) h Q = iOb (iLdI h p x) (fun v => iWp d mL_law 351 [a0, a1, a2, a3] (.int v :: st) h Q) := w_iaload dL_law_350
theorem XL_law_351 : iWp d mL_law 351 [.ref p, a1, a2, a3] st h Q = iWp d mL_law 352 [.ref p, a1, a2, a3] (.ref p :: st) h Q := w_aload_n dL_law_351 rfl
theorem XL_law_351n : iWp d mL_law 351 [.null, a1, a2, a3] st h Q = iWp d mL_law 352 [.null, a1, a2, a3] (.null :: st) h Q := w_aload_nN dL_law_351 rfl
theorem XL_law_352 : iWp d mL_law 352 [a0, a1, a2, .int x] st h Q = iWp d mL_law 353 [a0, a1, a2, .int x] (.int x :: st) h Q := w_iload_n dL_law_352 rfl
theorem XL_law_353 : iWp d mL_law 353 [a0, a1, a2, a3] st h Q = iWp d mL_law 354 [a0, a1, a2, a3] (.int 2 :: st) h Q := w_iconst dL_law_353 rfl
theorem XL_law_354 : iWp d mL_law 354 [a0, a1, a2, a3] (.int y :: .int x :: st) h Q = iWp d mL_law 355 [a0, a1, a2, a3] (.int (x + y) :: st) h Q := w_iadd dL_law_354
theorem XL_law_355 : iWp d mL_law 355 [a0, a1, a2, a3] (.int x :: .ref p :: st) h Q = iOb (iLdI h p x) (fun v => iWp d mL_law 356 [a0, a1, a2, a3] (.int v :: st) h Q) := w_iaload dL_law_355
theorem XL_law_356 : iWp d mL_law 356 [.ref p, a1, a2, a3] st h Q = iWp d mL_law 357 [.ref p, a1, a2, a3] (.ref p :: st) h Q := w_aload_n dL_law_356 rfl
theorem XL_law_356n : iWp d mL_law 356 [.null, a1, a2, a3] st h Q = iWp d mL_law 357 [.null, a1, a2, a3] (.null :: st) h Q := w_aload_nN dL_law_356 rfl
theorem XL_law_357 : iWp d mL_law 357 [a0, a1, a2, .int x] st h Q = iWp d mL_law 358 [a0, a1, a2, .int x] (.int x :: st) h Q := w_iload_n dL_law_357 rfl
theorem XL_law_358 : iWp d mL_law 358 [a0, a1, a2, a3] st h Q = iWp d mL_law 359 [a0, a1, a2, a3] (.int 3 :: st) h Q := w_iconst dL_law_358 rfl
theorem XL_law_359 : iWp d mL_law 359 [a0, a1, a2, a3] (.int y :: .int x :: st) h Q = iWp d mL_law 360 [a0, a1, a2, a3] (.int (x + y) :: st) h Q := w_iadd dL_law_359
theorem XL_law_360 : iWp d mL_law 360 [a0, a1, a2, a3] (.int x :: .ref p :: st) h Q = iOb (iLdI h p x) (fun v => iWp d mL_law 361 [a0, a1, a2, a3] (.int v :: st) h Q) := w_iaload dL_law_360
theorem XL_law_361 : iWp d mL_law 361 [.ref p, a1, a2, a3] st h Q = iWp d mL_law 362 [.ref p, a1, a2, a3] (.ref p :: st) h Q := w_aload_n dL_law_361 rfl
theorem XL_law_361n : iWp d mL_law 361 [.null, a1, a2, a3] st h Q = iWp d mL_law 362 [.null, a1, a2, a3] (.null :: st) h Q := w_aload_nN dL_law_361 rfl
theorem XL_law_362 : iWp d mL_law 362 [a0, a1, a2, .int x] st h Q = iWp d mL_law 363 [a0, a1, a2, .int x] (.int x :: st) h Q := w_iload_n dL_law_362 rfl
theorem XL_law_363 : iWp d mL_law 363 [a0, a1, a2, a3] st h Q = iWp d mL_law 364 [a0, a1, a2, a3] (.int 4 :: st) h Q := w_iconst dL_law_363 rfl
theorem XL_law_364 : iWp d mL_law 364 [a0, a1, a2, a3] (.int y :: .int x :: st) h Q = iWp d mL_law 365 [a0, a1, a2, a3] (.int (x + y) :: st) h Q := w_iadd dL_law_364
theorem XL_law_365 : iWp d mL_law 365 [a0, a1, a2, a3] (.int x :: .ref p :: st) h Q = iOb (iLdI h p x) (fun v => iWp d mL_law 366 [a0, a1, a2, a3] (.int v :: st) h Q) := w_iaload dL_law_365
theorem XL_law_366 : iWp d mL_law 366 [.ref p, a1, a2, a3] st h Q = iWp d mL_law 367 [.ref p, a1, a2, a3] (.ref p :: st) h Q := w_aload_n dL_law_366 rfl
theorem XL_law_366n : iWp d mL_law 366 [.null, a1, a2, a3] st h Q = iWp d mL_law 367 [.null, a1, a2, a3] (.null :: st) h Q := w_aload_nN dL_law_366 rfl
theorem XL_law_367 : iWp d mL_law 367 [a0, a1, a2, .int x] st h Q = iWp d mL_law 368 [a0, a1, a2, .int x] (.int x :: st) h Q := w_iload_n dL_law_367 rfl
theorem XL_law_368 : iWp d mL_law 368 [a0, a1, a2, a3] st h Q = iWp d mL_law 369 [a0, a1, a2, a3] (.int 5 :: st) h Q := w_iconst dL_law_368 rfl
theorem XL_law_369 : iWp d mL_law 369 [a0, a1, a2, a3] (.int y :: .int x :: st) h Q = iWp d mL_law 370 [a0, a1, a2, a3] (.int (x + y) :: st) h Q := w_iadd dL_law_369
theorem XL_law_370 : iWp d mL_law 370 [a0, a1, a2, a3] (.int x :: .ref p :: st) h Q = iOb (iLdI h p x) (fun v => iWp d mL_law 371 [a0, a1, a2, a3] (.int v :: st) h Q) := w_iaload dL_law_370
theorem XL_law_371 (he : iEv mX9_copy [.ref p, .int x0, .int x1, .int x2, .int x3, .int x4] h (some (.int rv)) h2) (ho : iObj h p 9 = true) : iWp 60 mL_law 371 [a0, a1, a2, a3] [.int x4, .int x3, .int x2, .int x1, .int x0, .ref p, .int r0] h Q = iWp 60 mL_law 374 [a0, a1, a2, a3] [.int rv, .int r0] h2 Q := iWp_cV dL_law_371 fK_10_29 rfl rfl ho (Nat.le_of_ble_eq_true rfl) (Nat.le_of_ble_eq_true rfl) rfl (Nat.le_of_ble_eq_true rfl) he rfl
theorem XL_law_374 : iWp d mL_law 374 [a0, a1, a2, a3] (.int y :: .int x :: st) h Q = if x = y then iWp d mL_law 1465 [a0, a1, a2, a3] st h Q else iWp d mL_law 377 [a0, a1, a2, a3] st h Q := w_icmp_eq dL_law_374 rfl
theorem XL_law_377 : iWp d mL_law 377 [a0, a1, a2, a3] st h Q = iWp d mL_law 378 [a0, a1, a2, a3] (.int 0 :: st) h Q := w_iconst dL_law_377 rfl
theorem XL_law_378 : iWp d mL_law 378 [a0, a1, a2, a3] [.int (iB b)] h Q = Q (some (.int (iB b))) h := w_iretb dL_law_378 rfl
theorem XL_law_378z : iWp d mL_law 378 [a0, a1, a2, a3] [.int 0] h Q = Q (some (.int (iB false))) h := w_iretb (bb := false) dL_law_378 rfl
theorem XL_law_378o : iWp d mL_law 378 [a0, a1, a2, a3] [.int 1] h Q = Q (some (.int (iB true))) h := w_iretb (bb := true) dL_law_378 rfl
theorem XL_law_379 : iWp d mL_law 379 [a0, .ref p, a2, a3] st h Q = iWp d mL_law 380 [a0, .ref p, a2, a3] (.ref p :: st) h Q := w_aload_n dL_law_379 rfl
theorem XL_law_379n : iWp d mL_law 379 [a0, .null, a2, a3] st h Q = iWp d mL_law 380 [a0, .null, a2, a3] (.null :: st) h Q := w_aload_nN dL_law_379 rfl
theorem XL_law_380 : iWp d mL_law 380 [.ref p, a1, a2, a3] st h Q = iWp d mL_law 381 [.ref p, a1, a2, a3] (.ref p :: st) h Q := w_aload_n dL_law_380 rfl
theorem XL_law_380n : iWp d mL_law 380 [.null, a1, a2, a3] st h Q = iWp d mL_law 381 [.null, a1, a2, a3] (.null :: st) h Q := w_aload_nN dL_law_380 rfl
theorem XL_law_381 : iWp d mL_law 381 [a0, a1, a2, .int x] st h Q = iWp d mL_law 382 [a0, a1, a2, .int x] (.int x :: st) h Q := w_iload_n dL_law_381 rfl
theorem XL_law_382 : iWp d mL_law 382 [a0, a1, a2, a3] st h Q = iWp d mL_law 383 [a0, a1, a2, a3] (.int 1 :: st) h Q := w_iconst dL_law_382 rfl
theorem XL_law_383 : iWp d mL_law 383 [a0, a1, a2, a3] (.int y :: .int x :: st) h Q = iWp d mL_law 384 [a0, a1, a2, a3] (.int (x + y) :: st) h Q := w_iadd dL_law_383
theorem XL_law_384 : iWp d mL_law 384 [a0, a1, a2, a3] (.int x :: .ref p :: st) h Q = iOb (iLdI h p x) (fun v => iWp d mL_law 385 [a0, a1, a2, a3] (.int v :: st) h Q) := w_iaload dL_law_384
theorem XL_law_385 : iWp d mL_law 385 [.ref p, a1, a2, a3] st h Q = iWp d mL_law 386 [.ref p, a1, a2, a3] (.ref p :: st) h Q := w_aload_n dL_law_385 rfl
theorem XL_law_385n : iWp d mL_law 385 [.null, a1, a2, a3] st h Q = iWp d mL_law 386 [.null, a1, a2, a3] (.null :: st) h Q := w_aload_nN dL_law_385 rfl
theorem XL_law_386 : iWp d mL_law 386 [a0, a1, a2, .int x] st h Q = iWp d mL_law 387 [a0, a1, a2, .int x] (.int x :: st) h Q := w_iload_n dL_law_386 rfl
theorem XL_law_387 : iWp d mL_law 387 [a0, a1, a2, a3] st h Q = iWp d mL_law 388 [a0, a1, a2, a3] (.int 2 :: st) h Q := w_iconst dL_law_387 rfl
theorem XL_law_388 : iWp d mL_law 388 [a0, a1, a2, a3] (.int y :: .int x :: st) h Q = iWp d mL_law 389 [a0, a1, a2, a3] (.int (x + y) :: st) h Q := w_iadd dL_law_388
theorem XL_law_389 : iWp d mL_law 389 [a0, a1, a2, a3] (.int x :: .ref p :: st) h Q = iOb (iLdI h p x) (fun v => iWp d mL_law 390 [a0, a1, a2, a3] (.int v :: st) h Q) := w_iaload dL_law_389
theorem XL_law_390 (he : iEv mX8_element [.ref p, .int x0, .int x1] h (some (.long rl)) h2) (ho : iObj h p 8 = true) : iWp 60 mL_law 390 [a0, a1, a2, a3] [.int x1, .int x0, .ref p] h Q = iWp 60 mL_law 393 [a0, a1, a2, a3] [.long rl] h2 Q := iWp_cV dL_law_390 fK_10_30 rfl rfl ho (Nat.le_of_ble_eq_true rfl) (Nat.le_of_ble_eq_true rfl) rfl (Nat.le_of_ble_eq_true rfl) he rfl
theorem XL_law_393 : iWp d mL_law 393 [a0, a1, .ref p, a3] st h Q = iWp d mL_law 394 [a0, a1, .ref p, a3] (.ref p :: st) h Q := w_aload_n dL_law_393 rfl
theorem XL_law_393n : iWp d mL_law 393 [a0, a1, .null, a3] st h Q = iWp d mL_law 394 [a0, a1, .null, a3] (.null :: st) h Q := w_aload_nN dL_law_393 rfl
theorem XL_law_394 : iWp d mL_law 394 [.ref p, a1, a2, a3] st h Q = iWp d mL_law 395 [.ref p, a1, a2, a3] (.ref p :: st) h Q := w_aload_n dL_law_394 rfl
theorem XL_law_394n : iWp d mL_law 394 [.null, a1, a2, a3] st h Q = iWp d mL_law 395 [.null, a1, a2, a3] (.null :: st) h Q := w_aload_nN dL_law_394 rfl
theorem XL_law_395 : iWp d mL_law 395 [a0, a1, a2, .int x] st h Q = iWp d mL_law 396 [a0, a1, a2, .int x] (.int x :: st) h Q := w_iload_n dL_law_395 rfl
theorem XL_law_396 : iWp d mL_law 396 [a0, a1, a2, a3] st h Q = iWp d mL_law 397 [a0, a1, a2, a3] (.int 1 :: st) h Q := w_iconst dL_law_396 rfl
theorem XL_law_397 : iWp d mL_law 397 [a0, a1, a2, a3] (.int y :: .int x :: st) h Q = iWp d mL_law 398 [a0, a1, a2, a3] (.int (x + y) :: st) h Q := w_iadd dL_law_397
theorem XL_law_398 : iWp d mL_law 398 [a0, a1, a2, a3] (.int x :: .ref p :: st) h Q = iOb (iLdI h p x) (fun v => iWp d mL_law 399 [a0, a1, a2, a3] (.int v :: st) h Q) := w_iaload dL_law_398
theorem XL_law_399 : iWp d mL_law 399 [.ref p, a1, a2, a3] st h Q = iWp d mL_law 400 [.ref p, a1, a2, a3] (.ref p :: st) h Q := w_aload_n dL_law_399 rfl
theorem XL_law_399n : iWp d mL_law 399 [.null, a1, a2, a3] st h Q = iWp d mL_law 400 [.null, a1, a2, a3] (.null :: st) h Q := w_aload_nN dL_law_399 rfl
theorem XL_law_400 : iWp d mL_law 400 [a0, a1, a2, .int x] st h Q = iWp d mL_law 401 [a0, a1, a2, .int x] (.int x :: st) h Q := w_iload_n dL_law_400 rfl
theorem XL_law_401 : iWp d mL_law 401 [a0, a1, a2, a3] st h Q = iWp d mL_law 402 [a0, a1, a2, a3] (.int 2 :: st) h Q := w_iconst dL_law_401 rfl
theorem XL_law_402 : iWp d mL_law 402 [a0, a1, a2, a3] (.int y :: .int x :: st) h Q = iWp d mL_law 403 [a0, a1, a2, a3] (.int (x + y) :: st) h Q := w_iadd dL_law_402
theorem XL_law_403 : iWp d mL_law 403 [a0, a1, a2, a3] (.int x :: .ref p :: st) h Q = iOb (iLdI h p x) (fun v => iWp d mL_law 404 [a0, a1, a2, a3] (.int v :: st) h Q) := w_iaload dL_law_403
theorem XL_law_404 (he : iEv mX9_element [.ref p, .int x0, .int x1] h (some (.long rl)) h2) (ho : iObj h p 9 = true) : iWp 60 mL_law 404 [a0, a1, a2, a3] [.int x1, .int x0, .ref p, .long s0] h Q = iWp 60 mL_law 407 [a0, a1, a2, a3] [.long rl, .long s0] h2 Q := iWp_cV dL_law_404 fK_10_34 rfl rfl ho (Nat.le_of_ble_eq_true rfl) (Nat.le_of_ble_eq_true rfl) rfl (Nat.le_of_ble_eq_true rfl) he rfl
theorem XL_law_407 : iWp d mL_law 407 [a0, a1, a2, a3] (.long v :: .long u :: st) h Q = iWp d mL_law 408 [a0, a1, a2, a3] (.int (lg_cmp u v) :: st) h Q := w_lcmp dL_law_407
theorem XL_law_408 : iWp d mL_law 408 [a0, a1, a2, a3] (.int x :: st) h Q = if x = 0 then iWp d mL_law 1465 [a0, a1, a2, a3] st h Q else iWp d mL_law 411 [a0, a1, a2, a3] st h Q := w_ifc_eq dL_law_408 rfl
theorem XL_law_411 : iWp d mL_law 411 [a0, a1, a2, a3] st h Q = iWp d mL_law 412 [a0, a1, a2, a3] (.int 0 :: st) h Q := w_iconst dL_law_411 rfl
theorem XL_law_412 : iWp d mL_law 412 [a0, a1, a2, a3] [.int (iB b)] h Q = Q (some (.int (iB b))) h := w_iretb dL_law_412 rfl
theorem XL_law_412z : iWp d mL_law 412 [a0, a1, a2, a3] [.int 0] h Q = Q (some (.int (iB false))) h := w_iretb (bb := false) dL_law_412 rfl
theorem XL_law_412o : iWp d mL_law 412 [a0, a1, a2, a3] [.int 1] h Q = Q (some (.int (iB true))) h := w_iretb (bb := true) dL_law_412 rfl
theorem XL_law_413 : iWp d mL_law 413 [a0, .ref p, a2, a3] st h Q = iWp d mL_law 414 [a0, .ref p, a2, a3] (.ref p :: st) h Q := w_aload_n dL_law_413 rfl
theorem XL_law_413n : iWp d mL_law 413 [a0, .null, a2, a3] st h Q = iWp d mL_law 414 [a0, .null, a2, a3] (.null :: st) h Q := w_aload_nN dL_law_413 rfl
theorem XL_law_414 : iWp d mL_law 414 [.ref p, a1, a2, a3] st h Q = iWp d mL_law 415 [.ref p, a1, a2, a3] (.ref p :: st) h Q := w_aload_n dL_law_414 rfl
theorem XL_law_414n : iWp d mL_law 414 [.null, a1, a2, a3] st h Q = iWp d mL_law 415 [.null, a1, a2, a3] (.null :: st) h Q := w_aload_nN dL_law_414 rfl
theorem XL_law_415 : iWp d mL_law 415 [a0, a1, a2, .int x] st h Q = iWp d mL_law 416 [a0, a1, a2, .int x] (.int x :: st) h Q := w_iload_n dL_law_415 rfl
theorem XL_law_416 : iWp d mL_law 416 [a0, a1, a2, a3] st h Q = iWp d mL_law 417 [a0, a1, a2, a3] (.int 1 :: st) h Q := w_iconst dL_law_416 rfl
theorem XL_law_417 : iWp d mL_law 417 [a0, a1, a2, a3] (.int y :: .int x :: st) h Q = iWp d mL_law 418 [a0, a1, a2, a3] (.int (x + y) :: st) h Q := w_iadd dL_law_417
theorem XL_law_418 : iWp d mL_law 418 [a0, a1, a2, a3] (.int x :: .ref p :: st) h Q = iOb (iLdI h p x) (fun v => iWp d mL_law 419 [a0, a1, a2, a3] (.int v :: st) h Q) := w_iaload dL_law_418
theorem XL_law_419 : iWp d mL_law 419 [.ref p, a1, a2, a3] st h Q = iWp d mL_law 420 [.ref p, a1, a2, a3] (.ref p :: st) h Q := w_aload_n dL_law_419 rfl
theorem XL_law_419n : iWp d mL_law 419 [.null, a1, a2, a3] st h Q = iWp d mL_law 420 [.null, a1, a2, a3] (.null :: st) h Q := w_aload_nN dL_law_419 rfl
theorem XL_law_420 : iWp d mL_law 420 [a0, a1, a2, .int x] st h Q = iWp d mL_law 421 [a0, a1, a2, .int x] (.int x :: st) h Q := w_iload_n dL_law_420 rfl
theorem XL_law_421 : iWp d mL_law 421 [a0, a1, a2, a3] st h Q = iWp d mL_law 422 [a0, a1, a2, a3] (.int 2 :: st) h Q := w_iconst dL_law_421 rfl
theorem XL_law_422 : iWp d mL_law 422 [a0, a1, a2, a3] (.int y :: .int x :: st) h Q = iWp d mL_law 423 [a0, a1, a2, a3] (.int (x + y) :: st) h Q := w_iadd dL_law_422
theorem XL_law_423 : iWp d mL_law 423 [a0, a1, a2, a3] (.int x :: .ref p :: st) h Q = iOb (iLdI h p x) (fun v => iWp d mL_law 424 [a0, a1, a2, a3] (.int v :: st) h Q) := w_iaload dL_law_423
theorem XL_law_424 (he : iEv mX8_show [.ref p, .int x0, .int x1] h (some (.int rv)) h2) (ho : iObj h p 8 = true) : iWp 60 mL_law 424 [a0, a1, a2, a3] [.int x1, .int x0, .ref p] h Q = iWp 60 mL_law 427 [a0, a1, a2, a3] [.int rv] h2 Q := iWp_cV dL_law_424 fK_10_35 rfl rfl ho (Nat.le_of_ble_eq_true rfl) (Nat.le_of_ble_eq_true rfl) rfl (Nat.le_of_ble_eq_true rfl) he rfl
theorem XL_law_427 : iWp d mL_law 427 [a0, a1, .ref p, a3] st h Q = iWp d mL_law 428 [a0, a1, .ref p, a3] (.ref p :: st) h Q := w_aload_n dL_law_427 rfl
theorem XL_law_427n : iWp d mL_law 427 [a0, a1, .null, a3] st h Q = iWp d mL_law 428 [a0, a1, .null, a3] (.null :: st) h Q := w_aload_nN dL_law_427 rfl
theorem XL_law_428 : iWp d mL_law 428 [.ref p, a1, a2, a3] st h Q = iWp d mL_law 429 [.ref p, a1, a2, a3] (.ref p :: st) h Q := w_aload_n dL_law_428 rfl
theorem XL_law_428n : iWp d mL_law 428 [.null, a1, a2, a3] st h Q = iWp d mL_law 429 [.null, a1, a2, a3] (.null :: st) h Q := w_aload_nN dL_law_428 rfl
theorem XL_law_429 : iWp d mL_law 429 [a0, a1, a2, .int x] st h Q = iWp d mL_law 430 [a0, a1, a2, .int x] (.int x :: st) h Q := w_iload_n dL_law_429 rfl
theorem XL_law_430 : iWp d mL_law 430 [a0, a1, a2, a3] st h Q = iWp d mL_law 431 [a0, a1, a2, a3] (.int 1 :: st) h Q := w_iconst dL_law_430 rfl
theorem XL_law_431 : iWp d mL_law 431 [a0, a1, a2, a3] (.int y :: .int x :: st) h Q = iWp d mL_law 432 [a0, a1, a2, a3] (.int (x + y) :: st) h Q := w_iadd dL_law_431
theorem XL_law_432 : iWp d mL_law 432 [a0, a1, a2, a3] (.int x :: .ref p :: st) h Q = iOb (iLdI h p x) (fun v => iWp d mL_law 433 [a0, a1, a2, a3] (.int v :: st) h Q) := w_iaload dL_law_432
theorem XL_law_433 : iWp d mL_law 433 [.ref p, a1, a2, a3] st h Q = iWp d mL_law 434 [.ref p, a1, a2, a3] (.ref p :: st) h Q := w_aload_n dL_law_433 rfl
theorem XL_law_433n : iWp d mL_law 433 [.null, a1, a2, a3] st h Q = iWp d mL_law 434 [.null, a1, a2, a3] (.null :: st) h Q := w_aload_nN dL_law_433 rfl
theorem XL_law_434 : iWp d mL_law 434 [a0, a1, a2, .int x] st h Q = iWp d mL_law 435 [a0, a1, a2, .int x] (.int x :: st) h Q := w_iload_n dL_law_434 rfl
theorem XL_law_435 : iWp d mL_law 435 [a0, a1, a2, a3] st h Q = iWp d mL_law 436 [a0, a1, a2, a3] (.int 2 :: st) h Q := w_iconst dL_law_435 rfl
theorem XL_law_436 : iWp d mL_law 436 [a0, a1, a2, a3] (.int y :: .int x :: st) h Q = iWp d mL_law 437 [a0, a1, a2, a3] (.int (x + y) :: st) h Q := w_iadd dL_law_436
theorem XL_law_437 : iWp d mL_law 437 [a0, a1, a2, a3] (.int x :: .ref p :: st) h Q = iOb (iLdI h p x) (fun v => iWp d mL_law 438 [a0, a1, a2, a3] (.int v :: st) h Q) := w_iaload dL_law_437
theorem XL_law_438 (he : iEv mX9_show [.ref p, .int x0, .int x1] h (some (.int rv)) h2) (ho : iObj h p 9 = true) : iWp 60 mL_law 438 [a0, a1, a2, a3] [.int x1, .int x0, .ref p, .int r0] h Q = iWp 60 mL_law 441 [a0, a1, a2, a3] [.int rv, .int r0] h2 Q := iWp_cV dL_law_438 fK_10_39 rfl rfl ho (Nat.le_of_ble_eq_true rfl) (Nat.le_of_ble_eq_true rfl) rfl (Nat.le_of_ble_eq_true rfl) he rfl
theorem XL_law_441 : iWp d mL_law 441 [a0, a1, a2, a3] (.int y :: .int x :: st) h Q = if x = y then iWp d mL_law 1465 [a0, a1, a2, a3] st h Q else iWp d mL_law 444 [a0, a1, a2, a3] st h Q := w_icmp_eq dL_law_441 rfl
theorem XL_law_444 : iWp d mL_law 444 [a0, a1, a2, a3] st h Q = iWp d mL_law 445 [a0, a1, a2, a3] (.int 0 :: st) h Q := w_iconst dL_law_444 rfl
theorem XL_law_445 : iWp d mL_law 445 [a0, a1, a2, a3] [.int (iB b)] h Q = Q (some (.int (iB b))) h := w_iretb dL_law_445 rfl
theorem XL_law_445z : iWp d mL_law 445 [a0, a1, a2, a3] [.int 0] h Q = Q (some (.int (iB false))) h := w_iretb (bb := false) dL_law_445 rfl
theorem XL_law_445o : iWp d mL_law 445 [a0, a1, a2, a3] [.int 1] h Q = Q (some (.int (iB true))) h := w_iretb (bb := true) dL_law_445 rfl
theorem XL_law_446 : iWp d mL_law 446 [a0, .ref p, a2, a3] st h Q = iWp d mL_law 447 [a0, .ref p, a2, a3] (.ref p :: st) h Q := w_aload_n dL_law_446 rfl
theorem XL_law_446n : iWp d mL_law 446 [a0, .null, a2, a3] st h Q = iWp d mL_law 447 [a0, .null, a2, a3] (.null :: st) h Q := w_aload_nN dL_law_446 rfl
theorem XL_law_447 : iWp d mL_law 447 [.ref p, a1, a2, a3] st h Q = iWp d mL_law 448 [.ref p, a1, a2, a3] (.ref p :: st) h Q := w_aload_n dL_law_447 rfl
theorem XL_law_447n : iWp d mL_law 447 [.null, a1, a2, a3] st h Q = iWp d mL_law 448 [.null, a1, a2, a3] (.null :: st) h Q := w_aload_nN dL_law_447 rfl
theorem XL_law_448 : iWp d mL_law 448 [a0, a1, a2, .int x] st h Q = iWp d mL_law 449 [a0, a1, a2, .int x] (.int x :: st) h Q := w_iload_n dL_law_448 rfl
theorem XL_law_449 : iWp d mL_law 449 [a0, a1, a2, a3] st h Q = iWp d mL_law 450 [a0, a1, a2, a3] (.int 1 :: st) h Q := w_iconst dL_law_449 rfl
theorem XL_law_450 : iWp d mL_law 450 [a0, a1, a2, a3] (.int y :: .int x :: st) h Q = iWp d mL_law 451 [a0, a1, a2, a3] (.int (x + y) :: st) h Q := w_iadd dL_law_450
theorem XL_law_451 : iWp d mL_law 451 [a0, a1, a2, a3] (.int x :: .ref p :: st) h Q = iOb (iLdI h p x) (fun v => iWp d mL_law 452 [a0, a1, a2, a3] (.int v :: st) h Q) := w_iaload dL_law_451
theorem XL_law_452 (he : iEv mX8_holds [.ref p, .int x0] h (some (.int rv)) h2) (ho : iObj h p 8 = true) : iWp 60 mL_law 452 [a0, a1, a2, a3] [.int x0, .ref p] h Q = iWp 60 mL_law 455 [a0, a1, a2, a3] [.int rv] h2 Q := iWp_cV dL_law_452 fK_10_40 rfl rfl ho (Nat.le_of_ble_eq_true rfl) (Nat.le_of_ble_eq_true rfl) rfl (Nat.le_of_ble_eq_true rfl) he rfl
theorem XL_law_455 : iWp d mL_law 455 [a0, a1, .ref p, a3] st h Q = iWp d mL_law 456 [a0, a1, .ref p, a3] (.ref p :: st) h Q := w_aload_n dL_law_455 rfl
theorem XL_law_455n : iWp d mL_law 455 [a0, a1, .null, a3] st h Q = iWp d mL_law 456 [a0, a1, .null, a3] (.null :: st) h Q := w_aload_nN dL_law_455 rfl
theorem XL_law_456 : iWp d mL_law 456 [.ref p, a1, a2, a3] st h Q = iWp d mL_law 457 [.ref p, a1, a2, a3] (.ref p :: st) h Q := w_aload_n dL_law_456 rfl
theorem XL_law_456n : iWp d mL_law 456 [.null, a1, a2, a3] st h Q = iWp d mL_law 457 [.null, a1, a2, a3] (.null :: st) h Q := w_aload_nN dL_law_456 rfl
theorem XL_law_457 : iWp d mL_law 457 [a0, a1, a2, .int x] st h Q = iWp d mL_law 458 [a0, a1, a2, .int x] (.int x :: st) h Q := w_iload_n dL_law_457 rfl
theorem XL_law_458 : iWp d mL_law 458 [a0, a1, a2, a3] st h Q = iWp d mL_law 459 [a0, a1, a2, a3] (.int 1 :: st) h Q := w_iconst dL_law_458 rfl
theorem XL_law_459 : iWp d mL_law 459 [a0, a1, a2, a3] (.int y :: .int x :: st) h Q = iWp d mL_law 460 [a0, a1, a2, a3] (.int (x + y) :: st) h Q := w_iadd dL_law_459
theorem XL_law_460 : iWp d mL_law 460 [a0, a1, a2, a3] (.int x :: .ref p :: st) h Q = iOb (iLdI h p x) (fun v => iWp d mL_law 461 [a0, a1, a2, a3] (.int v :: st) h Q) := w_iaload dL_law_460
theorem XL_law_461 (he : iEv mX9_holds [.ref p, .int x0] h (some (.int rv)) h2) (ho : iObj h p 9 = true) : iWp 60 mL_law 461 [a0, a1, a2, a3] [.int x0, .ref p, .int r0] h Q = iWp 60 mL_law 464 [a0, a1, a2, a3] [.int rv, .int r0] h2 Q := iWp_cV dL_law_461 fK_10_44 rfl rfl ho (Nat.le_of_ble_eq_true rfl) (Nat.le_of_ble_eq_true rfl) rfl (Nat.le_of_ble_eq_true rfl) he rfl
theorem XL_law_464 : iWp d mL_law 464 [a0, a1, a2, a3] (.int y :: .int x :: st) h Q = if x = y then iWp d mL_law 1465 [a0, a1, a2, a3] st h Q else iWp d mL_law 467 [a0, a1, a2, a3] st h Q := w_icmp_eq dL_law_464 rfl
theorem XL_law_467 : iWp d mL_law 467 [a0, a1, a2, a3] st h Q = iWp d mL_law 468 [a0, a1, a2, a3] (.int 0 :: st) h Q := w_iconst dL_law_467 rfl
theorem XL_law_468 : iWp d mL_law 468 [a0, a1, a2, a3] [.int (iB b)] h Q = Q (some (.int (iB b))) h := w_iretb dL_law_468 rfl
theorem XL_law_468z : iWp d mL_law 468 [a0, a1, a2, a3] [.int 0] h Q = Q (some (.int (iB false))) h := w_iretb (bb := false) dL_law_468 rfl
theorem XL_law_468o : iWp d mL_law 468 [a0, a1, a2, a3] [.int 1] h Q = Q (some (.int (iB true))) h := w_iretb (bb := true) dL_law_468 rfl
theorem XL_law_469 : iWp d mL_law 469 [a0, .ref p, a2, a3] st h Q = iWp d mL_law 470 [a0, .ref p, a2, a3] (.ref p :: st) h Q := w_aload_n dL_law_469 rfl
theorem XL_law_469n : iWp d mL_law 469 [a0, .null, a2, a3] st h Q = iWp d mL_law 470 [a0, .null, a2, a3] (.null :: st) h Q := w_aload_nN dL_law_469 rfl
theorem XL_law_470 : iWp d mL_law 470 [.ref p, a1, a2, a3] st h Q = iWp d mL_law 471 [.ref p, a1, a2, a3] (.ref p :: st) h Q := w_aload_n dL_law_470 rfl
theorem XL_law_470n : iWp d mL_law 470 [.null, a1, a2, a3] st h Q = iWp d mL_law 471 [.null, a1, a2, a3] (.null :: st) h Q := w_aload_nN dL_law_470 rfl
theorem XL_law_471 : iWp d mL_law 471 [a0, a1, a2, .int x] st h Q = iWp d mL_law 472 [a0, a1, a2, .int x] (.int x :: st) h Q := w_iload_n dL_law_471 rfl
theorem XL_law_472 : iWp d mL_law 472 [a0, a1, a2, a3] st h Q = iWp d mL_law 473 [a0, a1, a2, a3] (.int 1 :: st) h Q := w_iconst dL_law_472 rfl
theorem XL_law_473 : iWp d mL_law 473 [a0, a1, a2, a3] (.int y :: .int x :: st) h Q = iWp d mL_law 474 [a0, a1, a2, a3] (.int (x + y) :: st) h Q := w_iadd dL_law_473
theorem XL_law_474 : iWp d mL_law 474 [a0, a1, a2, a3] (.int x :: .ref p :: st) h Q = iOb (iLdI h p x) (fun v => iWp d mL_law 475 [a0, a1, a2, a3] (.int v :: st) h Q) := w_iaload dL_law_474
theorem XL_law_475 : iWp d mL_law 475 [.ref p, a1, a2, a3] st h Q = iWp d mL_law 476 [.ref p, a1, a2, a3] (.ref p :: st) h Q := w_aload_n dL_law_475 rfl
theorem XL_law_475n : iWp d mL_law 475 [.null, a1, a2, a3] st h Q = iWp d mL_law 476 [.null, a1, a2, a3] (.null :: st) h Q := w_aload_nN dL_law_475 rfl
theorem XL_law_476 : iWp d mL_law 476 [a0, a1, a2, .int x] st h Q = iWp d mL_law 477 [a0, a1, a2, .int x] (.int x :: st) h Q := w_iload_n dL_law_476 rfl
theorem XL_law_477 : iWp d mL_law 477 [a0, a1, a2, a3] st h Q = iWp d mL_law 478 [a0, a1, a2, a3] (.int 2 :: st) h Q := w_iconst dL_law_477 rfl
theorem XL_law_478 : iWp d mL_law 478 [a0, a1, a2, a3] (.int y :: .int x :: st) h Q = iWp d mL_law 479 [a0, a1, a2, a3] (.int (x + y) :: st) h Q := w_iadd dL_law_478
theorem XL_law_479 : iWp d mL_law 479 [a0, a1, a2, a3] (.int x :: .ref p :: st) h Q = iOb (iLdI h p x) (fun v => iWp d mL_law 480 [a0, a1, a2, a3] (.int v :: st) h Q) := w_iaload dL_law_479
theorem XL_law_480 (he : iEv mX8_says [.ref p, .int x0, .int x1] h (some (.int rv)) h2) (ho : iObj h p 8 = true) : iWp 60 mL_law 480 [a0, a1, a2, a3] [.int x1, .int x0, .ref p] h Q = iWp 60 mL_law 483 [a0, a1, a2, a3] [.int rv] h2 Q := iWp_cV dL_law_480 fK_10_45 rfl rfl ho (Nat.le_of_ble_eq_true rfl) (Nat.le_of_ble_eq_true rfl) rfl (Nat.le_of_ble_eq_true rfl) he rfl
theorem XL_law_483 : iWp d mL_law 483 [a0, a1, .ref p, a3] st h Q = iWp d mL_law 484 [a0, a1, .ref p, a3] (.ref p :: st) h Q := w_aload_n dL_law_483 rfl
theorem XL_law_483n : iWp d mL_law 483 [a0, a1, .null, a3] st h Q = iWp d mL_law 484 [a0, a1, .null, a3] (.null :: st) h Q := w_aload_nN dL_law_483 rfl
theorem XL_law_484 : iWp d mL_law 484 [.ref p, a1, a2, a3] st h Q = iWp d mL_law 485 [.ref p, a1, a2, a3] (.ref p :: st) h Q := w_aload_n dL_law_484 rfl
theorem XL_law_484n : iWp d mL_law 484 [.null, a1, a2, a3] st h Q = iWp d mL_law 485 [.null, a1, a2, a3] (.null :: st) h Q := w_aload_nN dL_law_484 rfl
theorem XL_law_485 : iWp d mL_law 485 [a0, a1, a2, .int x] st h Q = iWp d mL_law 486 [a0, a1, a2, .int x] (.int x :: st) h Q := w_iload_n dL_law_485 rfl
theorem XL_law_486 : iWp d mL_law 486 [a0, a1, a2, a3] st h Q = iWp d mL_law 487 [a0, a1, a2, a3] (.int 1 :: st) h Q := w_iconst dL_law_486 rfl
theorem XL_law_487 : iWp d mL_law 487 [a0, a1, a2, a3] (.int y :: .int x :: st) h Q = iWp d mL_law 488 [a0, a1, a2, a3] (.int (x + y) :: st) h Q := w_iadd dL_law_487
theorem XL_law_488 : iWp d mL_law 488 [a0, a1, a2, a3] (.int x :: .ref p :: st) h Q = iOb (iLdI h p x) (fun v => iWp d mL_law 489 [a0, a1, a2, a3] (.int v :: st) h Q) := w_iaload dL_law_488
theorem XL_law_489 : iWp d mL_law 489 [.ref p, a1, a2, a3] st h Q = iWp d mL_law 490 [.ref p, a1, a2, a3] (.ref p :: st) h Q := w_aload_n dL_law_489 rfl
theorem XL_law_489n : iWp d mL_law 489 [.null, a1, a2, a3] st h Q = iWp d mL_law 490 [.null, a1, a2, a3] (.null :: st) h Q := w_aload_nN dL_law_489 rfl
theorem XL_law_490 : iWp d mL_law 490 [a0, a1, a2, .int x] st h Q = iWp d mL_law 491 [a0, a1, a2, .int x] (.int x :: st) h Q := w_iload_n dL_law_490 rfl
theorem XL_law_491 : iWp d mL_law 491 [a0, a1, a2, a3] st h Q = iWp d mL_law 492 [a0, a1, a2, a3] (.int 2 :: st) h Q := w_iconst dL_law_491 rfl
theorem XL_law_492 : iWp d mL_law 492 [a0, a1, a2, a3] (.int y :: .int x :: st) h Q = iWp d mL_law 493 [a0, a1, a2, a3] (.int (x + y) :: st) h Q := w_iadd dL_law_492
theorem XL_law_493 : iWp d mL_law 493 [a0, a1, a2, a3] (.int x :: .ref p :: st) h Q = iOb (iLdI h p x) (fun v => iWp d mL_law 494 [a0, a1, a2, a3] (.int v :: st) h Q) := w_iaload dL_law_493
theorem XL_law_494 (he : iEv mX9_says [.ref p, .int x0, .int x1] h (some (.int rv)) h2) (ho : iObj h p 9 = true) : iWp 60 mL_law 494 [a0, a1, a2, a3] [.int x1, .int x0, .ref p, .int r0] h Q = iWp 60 mL_law 497 [a0, a1, a2, a3] [.int rv, .int r0] h2 Q := iWp_cV dL_law_494 fK_10_48 rfl rfl ho (Nat.le_of_ble_eq_true rfl) (Nat.le_of_ble_eq_true rfl) rfl (Nat.le_of_ble_eq_true rfl) he rfl
theorem XL_law_497 : iWp d mL_law 497 [a0, a1, a2, a3] (.int y :: .int x :: st) h Q = if x = y then iWp d mL_law 1465 [a0, a1, a2, a3] st h Q else iWp d mL_law 500 [a0, a1, a2, a3] st h Q := w_icmp_eq dL_law_497 rfl
theorem XL_law_500 : iWp d mL_law 500 [a0, a1, a2, a3] st h Q = iWp d mL_law 501 [a0, a1, a2, a3] (.int 0 :: st) h Q := w_iconst dL_law_500 rfl
theorem XL_law_501 : iWp d mL_law 501 [a0, a1, a2, a3] [.int (iB b)] h Q = Q (some (.int (iB b))) h := w_iretb dL_law_501 rfl
theorem XL_law_501z : iWp d mL_law 501 [a0, a1, a2, a3] [.int 0] h Q = Q (some (.int (iB false))) h := w_iretb (bb := false) dL_law_501 rfl
theorem XL_law_501o : iWp d mL_law 501 [a0, a1, a2, a3] [.int 1] h Q = Q (some (.int (iB true))) h := w_iretb (bb := true) dL_law_501 rfl
theorem XL_law_502 : iWp d mL_law 502 [a0, .ref p, a2, a3] st h Q = iWp d mL_law 503 [a0, .ref p, a2, a3] (.ref p :: st) h Q := w_aload_n dL_law_502 rfl
theorem XL_law_502n : iWp d mL_law 502 [a0, .null, a2, a3] st h Q = iWp d mL_law 503 [a0, .null, a2, a3] (.null :: st) h Q := w_aload_nN dL_law_502 rfl
theorem XL_law_503 : iWp d mL_law 503 [.ref p, a1, a2, a3] st h Q = iWp d mL_law 504 [.ref p, a1, a2, a3] (.ref p :: st) h Q := w_aload_n dL_law_503 rfl
theorem XL_law_503n : iWp d mL_law 503 [.null, a1, a2, a3] st h Q = iWp d mL_law 504 [.null, a1, a2, a3] (.null :: st) h Q := w_aload_nN dL_law_503 rfl
theorem XL_law_504 : iWp d mL_law 504 [a0, a1, a2, .int x] st h Q = iWp d mL_law 505 [a0, a1, a2, .int x] (.int x :: st) h Q := w_iload_n dL_law_504 rfl
theorem XL_law_505 : iWp d mL_law 505 [a0, a1, a2, a3] st h Q = iWp d mL_law 506 [a0, a1, a2, a3] (.int 1 :: st) h Q := w_iconst dL_law_505 rfl
theorem XL_law_506 : iWp d mL_law 506 [a0, a1, a2, a3] (.int y :: .int x :: st) h Q = iWp d mL_law 507 [a0, a1, a2, a3] (.int (x + y) :: st) h Q := w_iadd dL_law_506
theorem XL_law_507 : iWp d mL_law 507 [a0, a1, a2, a3] (.int x :: .ref p :: st) h Q = iOb (iLdI h p x) (fun v => iWp d mL_law 508 [a0, a1, a2, a3] (.int v :: st) h Q) := w_iaload dL_law_507
theorem XL_law_508 (he : iEv mX8_tree [.ref p, .int x0] h (some (.int rv)) h2) (ho : iObj h p 8 = true) : iWp 60 mL_law 508 [a0, a1, a2, a3] [.int x0, .ref p] h Q = iWp 60 mL_law 511 [a0, a1, a2, a3] [.int rv] h2 Q := iWp_cV dL_law_508 fK_10_49 rfl rfl ho (Nat.le_of_ble_eq_true rfl) (Nat.le_of_ble_eq_true rfl) rfl (Nat.le_of_ble_eq_true rfl) he rfl
theorem XL_law_511 : iWp d mL_law 511 [a0, a1, .ref p, a3] st h Q = iWp d mL_law 512 [a0, a1, .ref p, a3] (.ref p :: st) h Q := w_aload_n dL_law_511 rfl
theorem XL_law_511n : iWp d mL_law 511 [a0, a1, .null, a3] st h Q = iWp d mL_law 512 [a0, a1, .null, a3] (.null :: st) h Q := w_aload_nN dL_law_511 rfl
theorem XL_law_512 : iWp d mL_law 512 [.ref p, a1, a2, a3] st h Q = iWp d mL_law 513 [.ref p, a1, a2, a3] (.ref p :: st) h Q := w_aload_n dL_law_512 rfl
theorem XL_law_512n : iWp d mL_law 512 [.null, a1, a2, a3] st h Q = iWp d mL_law 513 [.null, a1, a2, a3] (.null :: st) h Q := w_aload_nN dL_law_512 rfl
theorem XL_law_513 : iWp d mL_law 513 [a0, a1, a2, .int x] st h Q = iWp d mL_law 514 [a0, a1, a2, .int x] (.int x :: st) h Q := w_iload_n dL_law_513 rfl
theorem XL_law_514 : iWp d mL_law 514 [a0, a1, a2, a3] st h Q = iWp d mL_law 515 [a0, a1, a2, a3] (.int 1 :: st) h Q := w_iconst dL_law_514 rfl
theorem XL_law_515 : iWp d mL_law 515 [a0, a1, a2, a3] (.int y :: .int x :: st) h Q = iWp d mL_law 516 [a0, a1, a2, a3] (.int (x + y) :: st) h Q := w_iadd dL_law_515
theorem XL_law_516 : iWp d mL_law 516 [a0, a1, a2, a3] (.int x :: .ref p :: st) h Q = iOb (iLdI h p x) (fun v => iWp d mL_law 517 [a0, a1, a2, a3] (.int v :: st) h Q) := w_iaload dL_law_516
theorem XL_law_517 (he : iEv mX9_tree [.ref p, .int x0] h (some (.int rv)) h2) (ho : iObj h p 9 = true) : iWp 60 mL_law 517 [a0, a1, a2, a3] [.int x0, .ref p, .int r0] h Q = iWp 60 mL_law 520 [a0, a1, a2, a3] [.int rv, .int r0] h2 Q := iWp_cV dL_law_517 fK_10_52 rfl rfl ho (Nat.le_of_ble_eq_true rfl) (Nat.le_of_ble_eq_true rfl) rfl (Nat.le_of_ble_eq_true rfl) he rfl
theorem XL_law_520 : iWp d mL_law 520 [a0, a1, a2, a3] (.int y :: .int x :: st) h Q = if x = y then iWp d mL_law 1465 [a0, a1, a2, a3] st h Q else iWp d mL_law 523 [a0, a1, a2, a3] st h Q := w_icmp_eq dL_law_520 rfl
theorem XL_law_523 : iWp d mL_law 523 [a0, a1, a2, a3] st h Q = iWp d mL_law 524 [a0, a1, a2, a3] (.int 0 :: st) h Q := w_iconst dL_law_523 rfl
theorem XL_law_524 : iWp d mL_law 524 [a0, a1, a2, a3] [.int (iB b)] h Q = Q (some (.int (iB b))) h := w_iretb dL_law_524 rfl
theorem XL_law_524z : iWp d mL_law 524 [a0, a1, a2, a3] [.int 0] h Q = Q (some (.int (iB false))) h := w_iretb (bb := false) dL_law_524 rfl
theorem XL_law_524o : iWp d mL_law 524 [a0, a1, a2, a3] [.int 1] h Q = Q (some (.int (iB true))) h := w_iretb (bb := true) dL_law_524 rfl
theorem XL_law_525 : iWp d mL_law 525 [a0, .ref p, a2, a3] st h Q = iWp d mL_law 526 [a0, .ref p, a2, a3] (.ref p :: st) h Q := w_aload_n dL_law_525 rfl
theorem XL_law_525n : iWp d mL_law 525 [a0, .null, a2, a3] st h Q = iWp d mL_law 526 [a0, .null, a2, a3] (.null :: st) h Q := w_aload_nN dL_law_525 rfl
theorem XL_law_526 (he : iEv mX8_fault [.ref p] h (some (.int rv)) h2) (ho : iObj h p 8 = true) : iWp 60 mL_law 526 [a0, a1, a2, a3] [.ref p] h Q = iWp 60 mL_law 529 [a0, a1, a2, a3] [.int rv] h2 Q := iWp_cV dL_law_526 fK_10_53 rfl rfl ho (Nat.le_of_ble_eq_true rfl) (Nat.le_of_ble_eq_true rfl) rfl (Nat.le_of_ble_eq_true rfl) he rfl
theorem XL_law_529 : iWp d mL_law 529 [a0, a1, .ref p, a3] st h Q = iWp d mL_law 530 [a0, a1, .ref p, a3] (.ref p :: st) h Q := w_aload_n dL_law_529 rfl
theorem XL_law_529n : iWp d mL_law 529 [a0, a1, .null, a3] st h Q = iWp d mL_law 530 [a0, a1, .null, a3] (.null :: st) h Q := w_aload_nN dL_law_529 rfl
theorem XL_law_530 (he : iEv mX9_fault [.ref p] h (some (.int rv)) h2) (ho : iObj h p 9 = true) : iWp 60 mL_law 530 [a0, a1, a2, a3] [.ref p, .int r0] h Q = iWp 60 mL_law 533 [a0, a1, a2, a3] [.int rv, .int r0] h2 Q := iWp_cV dL_law_530 fK_10_57 rfl rfl ho (Nat.le_of_ble_eq_true rfl) (Nat.le_of_ble_eq_true rfl) rfl (Nat.le_of_ble_eq_true rfl) he rfl
theorem XL_law_533 : iWp d mL_law 533 [a0, a1, a2, a3] (.int y :: .int x :: st) h Q = if x = y then iWp d mL_law 1465 [a0, a1, a2, a3] st h Q else iWp d mL_law 536 [a0, a1, a2, a3] st h Q := w_icmp_eq dL_law_533 rfl
theorem XL_law_536 : iWp d mL_law 536 [a0, a1, a2, a3] st h Q = iWp d mL_law 537 [a0, a1, a2, a3] (.int 0 :: st) h Q := w_iconst dL_law_536 rfl
theorem XL_law_537 : iWp d mL_law 537 [a0, a1, a2, a3] [.int (iB b)] h Q = Q (some (.int (iB b))) h := w_iretb dL_law_537 rfl
theorem XL_law_537z : iWp d mL_law 537 [a0, a1, a2, a3] [.int 0] h Q = Q (some (.int (iB false))) h := w_iretb (bb := false) dL_law_537 rfl
theorem XL_law_537o : iWp d mL_law 537 [a0, a1, a2, a3] [.int 1] h Q = Q (some (.int (iB true))) h := w_iretb (bb := true) dL_law_537 rfl
theorem XL_law_538 : iWp d mL_law 538 [a0, .ref p, a2, a3] st h Q = iWp d mL_law 539 [a0, .ref p, a2, a3] (.ref p :: st) h Q := w_aload_n dL_law_538 rfl
theorem XL_law_538n : iWp d mL_law 538 [a0, .null, a2, a3] st h Q = iWp d mL_law 539 [a0, .null, a2, a3] (.null :: st) h Q := w_aload_nN dL_law_538 rfl
theorem XL_law_539 : iWp d mL_law 539 [.ref p, a1, a2, a3] st h Q = iWp d mL_law 540 [.ref p, a1, a2, a3] (.ref p :: st) h Q := w_aload_n dL_law_539 rfl
theorem XL_law_539n : iWp d mL_law 539 [.null, a1, a2, a3] st h Q = iWp d mL_law 540 [.null, a1, a2, a3] (.null :: st) h Q := w_aload_nN dL_law_539 rfl
theorem XL_law_540 : iWp d mL_law 540 [a0, a1, a2, .int x] st h Q = iWp d mL_law 541 [a0, a1, a2, .int x] (.int x :: st) h Q := w_iload_n dL_law_540 rfl
theorem XL_law_541 : iWp d mL_law 541 [a0, a1, a2, a3] st h Q = iWp d mL_law 542 [a0, a1, a2, a3] (.int 1 :: st) h Q := w_iconst dL_law_541 rfl
theorem XL_law_542 : iWp d mL_law 542 [a0, a1, a2, a3] (.int y :: .int x :: st) h Q = iWp d mL_law 543 [a0, a1, a2, a3] (.int (x + y) :: st) h Q := w_iadd dL_law_542
theorem XL_law_543 : iWp d mL_law 543 [a0, a1, a2, a3] (.int x :: .ref p :: st) h Q = iOb (iLdI h p x) (fun v => iWp d mL_law 544 [a0, a1, a2, a3] (.int v :: st) h Q) := w_iaload dL_law_543
theorem XL_law_544 (he : iEv mX8_nodes [.ref p, .int x0] h (some (.int rv)) h2) (ho : iObj h p 8 = true) : iWp 60 mL_law 544 [a0, a1, a2, a3] [.int x0, .ref p] h Q = iWp 60 mL_law 547 [a0, a1, a2, a3] [.int rv] h2 Q := iWp_cV dL_law_544 fK_10_58 rfl rfl ho (Nat.le_of_ble_eq_true rfl) (Nat.le_of_ble_eq_true rfl) rfl (Nat.le_of_ble_eq_true rfl) he rfl
theorem XL_law_547 : iWp d mL_law 547 [a0, a1, .ref p, a3] st h Q = iWp d mL_law 548 [a0, a1, .ref p, a3] (.ref p :: st) h Q := w_aload_n dL_law_547 rfl
theorem XL_law_547n : iWp d mL_law 547 [a0, a1, .null, a3] st h Q = iWp d mL_law 548 [a0, a1, .null, a3] (.null :: st) h Q := w_aload_nN dL_law_547 rfl
theorem XL_law_548 : iWp d mL_law 548 [.ref p, a1, a2, a3] st h Q = iWp d mL_law 549 [.ref p, a1, a2, a3] (.ref p :: st) h Q := w_aload_n dL_law_548 rfl
theorem XL_law_548n : iWp d mL_law 548 [.null, a1, a2, a3] st h Q = iWp d mL_law 549 [.null, a1, a2, a3] (.null :: st) h Q := w_aload_nN dL_law_548 rfl
theorem XL_law_549 : iWp d mL_law 549 [a0, a1, a2, .int x] st h Q = iWp d mL_law 550 [a0, a1, a2, .int x] (.int x :: st) h Q := w_iload_n dL_law_549 rfl
theorem XL_law_550 : iWp d mL_law 550 [a0, a1, a2, a3] st h Q = iWp d mL_law 551 [a0, a1, a2, a3] (.int 1 :: st) h Q := w_iconst dL_law_550 rfl
theorem XL_law_551 : iWp d mL_law 551 [a0, a1, a2, a3] (.int y :: .int x :: st) h Q = iWp d mL_law 552 [a0, a1, a2, a3] (.int (x + y) :: st) h Q := w_iadd dL_law_551
theorem XL_law_552 : iWp d mL_law 552 [a0, a1, a2, a3] (.int x :: .ref p :: st) h Q = iOb (iLdI h p x) (fun v => iWp d mL_law 553 [a0, a1, a2, a3] (.int v :: st) h Q) := w_iaload dL_law_552
theorem XL_law_553 (he : iEv mX9_nodes [.ref p, .int x0] h (some (.int rv)) h2) (ho : iObj h p 9 = true) : iWp 60 mL_law 553 [a0, a1, a2, a3] [.int x0, .ref p, .int r0] h Q = iWp 60 mL_law 556 [a0, a1, a2, a3] [.int rv, .int r0] h2 Q := iWp_cV dL_law_553 fK_10_61 rfl rfl ho (Nat.le_of_ble_eq_true rfl) (Nat.le_of_ble_eq_true rfl) rfl (Nat.le_of_ble_eq_true rfl) he rfl
theorem XL_law_556 : iWp d mL_law 556 [a0, a1, a2, a3] (.int y :: .int x :: st) h Q = if x = y then iWp d mL_law 1465 [a0, a1, a2, a3] st h Q else iWp d mL_law 559 [a0, a1, a2, a3] st h Q := w_icmp_eq dL_law_556 rfl
theorem XL_law_559 : iWp d mL_law 559 [a0, a1, a2, a3] st h Q = iWp d mL_law 560 [a0, a1, a2, a3] (.int 0 :: st) h Q := w_iconst dL_law_559 rfl
theorem XL_law_560 : iWp d mL_law 560 [a0, a1, a2, a3] [.int (iB b)] h Q = Q (some (.int (iB b))) h := w_iretb dL_law_560 rfl
theorem XL_law_560z : iWp d mL_law 560 [a0, a1, a2, a3] [.int 0] h Q = Q (some (.int (iB false))) h := w_iretb (bb := false) dL_law_560 rfl
theorem XL_law_560o : iWp d mL_law 560 [a0, a1, a2, a3] [.int 1] h Q = Q (some (.int (iB true))) h := w_iretb (bb := true) dL_law_560 rfl
theorem XL_law_561 : iWp d mL_law 561 [a0, .ref p, a2, a3] st h Q = iWp d mL_law 562 [a0, .ref p, a2, a3] (.ref p :: st) h Q := w_aload_n dL_law_561 rfl
theorem XL_law_561n : iWp d mL_law 561 [a0, .null, a2, a3] st h Q = iWp d mL_law 562 [a0, .null, a2, a3] (.null :: st) h Q := w_aload_nN dL_law_561 rfl
theorem XL_law_562 : iWp d mL_law 562 [.ref p, a1, a2, a3] st h Q = iWp d mL_law 563 [.ref p, a1, a2, a3] (.ref p :: st) h Q := w_aload_n dL_law_562 rfl
theorem XL_law_562n : iWp d mL_law 562 [.null, a1, a2, a3] st h Q = iWp d mL_law 563 [.null, a1, a2, a3] (.null :: st) h Q := w_aload_nN dL_law_562 rfl
theorem XL_law_563 : iWp d mL_law 563 [a0, a1, a2, .int x] st h Q = iWp d mL_law 564 [a0, a1, a2, .int x] (.int x :: st) h Q := w_iload_n dL_law_563 rfl
theorem XL_law_564 : iWp d mL_law 564 [a0, a1, a2, a3] st h Q = iWp d mL_law 565 [a0, a1, a2, a3] (.int 1 :: st) h Q := w_iconst dL_law_564 rfl
theorem XL_law_565 : iWp d mL_law 565 [a0, a1, a2, a3] (.int y :: .int x :: st) h Q = iWp d mL_law 566 [a0, a1, a2, a3] (.int (x + y) :: st) h Q := w_iadd dL_law_565
theorem XL_law_566 : iWp d mL_law 566 [a0, a1, a2, a3] (.int x :: .ref p :: st) h Q = iOb (iLdI h p x) (fun v => iWp d mL_law 567 [a0, a1, a2, a3] (.int v :: st) h Q) := w_iaload dL_law_566
theorem XL_law_567 : iWp d mL_law 567 [.ref p, a1, a2, a3] st h Q = iWp d mL_law 568 [.ref p, a1, a2, a3] (.ref p :: st) h Q := w_aload_n dL_law_567 rfl
theorem XL_law_567n : iWp d mL_law 567 [.null, a1, a2, a3] st h Q = iWp d mL_law 568 [.null, a1, a2, a3] (.null :: st) h Q := w_aload_nN dL_law_567 rfl
theorem XL_law_568 : iWp d mL_law 568 [a0, a1, a2, .int x] st h Q = iWp d mL_law 569 [a0, a1, a2, .int x] (.int x :: st) h Q := w_iload_n dL_law_568 rfl
theorem XL_law_569 : iWp d mL_law 569 [a0, a1, a2, a3] st h Q = iWp d mL_law 570 [a0, a1, a2, a3] (.int 2 :: st) h Q := w_iconst dL_law_569 rfl
theorem XL_law_570 : iWp d mL_law 570 [a0, a1, a2, a3] (.int y :: .int x :: st) h Q = iWp d mL_law 571 [a0, a1, a2, a3] (.int (x + y) :: st) h Q := w_iadd dL_law_570
theorem XL_law_571 : iWp d mL_law 571 [a0, a1, a2, a3] (.int x :: .ref p :: st) h Q = iOb (iLdI h p x) (fun v => iWp d mL_law 572 [a0, a1, a2, a3] (.int v :: st) h Q) := w_iaload dL_law_571
theorem XL_law_572 : iWp d mL_law 572 [.ref p, a1, a2, a3] st h Q = iWp d mL_law 573 [.ref p, a1, a2, a3] (.ref p :: st) h Q := w_aload_n dL_law_572 rfl
theorem XL_law_572n : iWp d mL_law 572 [.null, a1, a2, a3] st h Q = iWp d mL_law 573 [.null, a1, a2, a3] (.null :: st) h Q := w_aload_nN dL_law_572 rfl
theorem XL_law_573 : iWp d mL_law 573 [a0, a1, a2, .int x] st h Q = iWp d mL_law 574 [a0, a1, a2, .int x] (.int x :: st) h Q := w_iload_n dL_law_573 rfl
theorem XL_law_574 : iWp d mL_law 574 [a0, a1, a2, a3] st h Q = iWp d mL_law 575 [a0, a1, a2, a3] (.int 3 :: st) h Q := w_iconst dL_law_574 rfl
theorem XL_law_575 : iWp d mL_law 575 [a0, a1, a2, a3] (.int y :: .int x :: st) h Q = iWp d mL_law 576 [a0, a1, a2, a3] (.int (x + y) :: st) h Q := w_iadd dL_law_575
theorem XL_law_576 : iWp d mL_law 576 [a0, a1, a2, a3] (.int x :: .ref p :: st) h Q = iOb (iLdI h p x) (fun v => iWp d mL_law 577 [a0, a1, a2, a3] (.int v :: st) h Q) := w_iaload dL_law_576
theorem XL_law_577 (he : iEv mX8_node [.ref p, .int x0, .int x1, .int x2] h (some (.int rv)) h2) (ho : iObj h p 8 = true) : iWp 60 mL_law 577 [a0, a1, a2, a3] [.int x2, .int x1, .int x0, .ref p] h Q = iWp 60 mL_law 580 [a0, a1, a2, a3] [.int rv] h2 Q := iWp_cV dL_law_577 fK_10_62 rfl rfl ho (Nat.le_of_ble_eq_true rfl) (Nat.le_of_ble_eq_true rfl) rfl (Nat.le_of_ble_eq_true rfl) he rfl
theorem XL_law_580 : iWp d mL_law 580 [a0, a1, .ref p, a3] st h Q = iWp d mL_law 581 [a0, a1, .ref p, a3] (.ref p :: st) h Q := w_aload_n dL_law_580 rfl
theorem XL_law_580n : iWp d mL_law 580 [a0, a1, .null, a3] st h Q = iWp d mL_law 581 [a0, a1, .null, a3] (.null :: st) h Q := w_aload_nN dL_law_580 rfl
theorem XL_law_581 : iWp d mL_law 581 [.ref p, a1, a2, a3] st h Q = iWp d mL_law 582 [.ref p, a1, a2, a3] (.ref p :: st) h Q := w_aload_n dL_law_581 rfl
theorem XL_law_581n : iWp d mL_law 581 [.null, a1, a2, a3] st h Q = iWp d mL_law 582 [.null, a1, a2, a3] (.null :: st) h Q := w_aload_nN dL_law_581 rfl
theorem XL_law_582 : iWp d mL_law 582 [a0, a1, a2, .int x] st h Q = iWp d mL_law 583 [a0, a1, a2, .int x] (.int x :: st) h Q := w_iload_n dL_law_582 rfl
theorem XL_law_583 : iWp d mL_law 583 [a0, a1, a2, a3] st h Q = iWp d mL_law 584 [a0, a1, a2, a3] (.int 1 :: st) h Q := w_iconst dL_law_583 rfl
theorem XL_law_584 : iWp d mL_law 584 [a0, a1, a2, a3] (.int y :: .int x :: st) h Q = iWp d mL_law 585 [a0, a1, a2, a3] (.int (x + y) :: st) h Q := w_iadd dL_law_584
theorem XL_law_585 : iWp d mL_law 585 [a0, a1, a2, a3] (.int x :: .ref p :: st) h Q = iOb (iLdI h p x) (fun v => iWp d mL_law 586 [a0, a1, a2, a3] (.int v :: st) h Q) := w_iaload dL_law_585
theorem XL_law_586 : iWp d mL_law 586 [.ref p, a1, a2, a3] st h Q = iWp d mL_law 587 [.ref p, a1, a2, a3] (.ref p :: st) h Q := w_aload_n dL_law_586 rfl
theorem XL_law_586n : iWp d mL_law 586 [.null, a1, a2, a3] st h Q = iWp d mL_law 587 [.null, a1, a2, a3] (.null :: st) h Q := w_aload_nN dL_law_586 rfl
theorem XL_law_587 : iWp d mL_law 587 [a0, a1, a2, .int x] st h Q = iWp d mL_law 588 [a0, a1, a2, .int x] (.int x :: st) h Q := w_iload_n dL_law_587 rfl
theorem XL_law_588 : iWp d mL_law 588 [a0, a1, a2, a3] st h Q = iWp d mL_law 589 [a0, a1, a2, a3] (.int 2 :: st) h Q := w_iconst dL_law_588 rfl
theorem XL_law_589 : iWp d mL_law 589 [a0, a1, a2, a3] (.int y :: .int x :: st) h Q = iWp d mL_law 590 [a0, a1, a2, a3] (.int (x + y) :: st) h Q := w_iadd dL_law_589
theorem XL_law_590 : iWp d mL_law 590 [a0, a1, a2, a3] (.int x :: .ref p :: st) h Q = iOb (iLdI h p x) (fun v => iWp d mL_law 591 [a0, a1, a2, a3] (.int v :: st) h Q) := w_iaload dL_law_590
theorem XL_law_591 : iWp d mL_law 591 [.ref p, a1, a2, a3] st h Q = iWp d mL_law 592 [.ref p, a1, a2, a3] (.ref p :: st) h Q := w_aload_n dL_law_591 rfl
theorem XL_law_591n : iWp d mL_law 591 [.null, a1, a2, a3] st h Q = iWp d mL_law 592 [.null, a1, a2, a3] (.null :: st) h Q := w_aload_nN dL_law_591 rfl
theorem XL_law_592 : iWp d mL_law 592 [a0, a1, a2, .int x] st h Q = iWp d mL_law 593 [a0, a1, a2, .int x] (.int x :: st) h Q := w_iload_n dL_law_592 rfl
theorem XL_law_593 : iWp d mL_law 593 [a0, a1, a2, a3] st h Q = iWp d mL_law 594 [a0, a1, a2, a3] (.int 3 :: st) h Q := w_iconst dL_law_593 rfl
theorem XL_law_594 : iWp d mL_law 594 [a0, a1, a2, a3] (.int y :: .int x :: st) h Q = iWp d mL_law 595 [a0, a1, a2, a3] (.int (x + y) :: st) h Q := w_iadd dL_law_594
theorem XL_law_595 : iWp d mL_law 595 [a0, a1, a2, a3] (.int x :: .ref p :: st) h Q = iOb (iLdI h p x) (fun v => iWp d mL_law 596 [a0, a1, a2, a3] (.int v :: st) h Q) := w_iaload dL_law_595
theorem XL_law_596 (he : iEv mX9_node_ [.ref p, .int x0, .int x1, .int x2] h (some (.int rv)) h2) (ho : iObj h p 9 = true) : iWp 60 mL_law 596 [a0, a1, a2, a3] [.int x2, .int x1, .int x0, .ref p, .int r0] h Q = iWp 60 mL_law 599 [a0, a1, a2, a3] [.int rv, .int r0] h2 Q := iWp_cV dL_law_596 fK_10_65 rfl rfl ho (Nat.le_of_ble_eq_true rfl) (Nat.le_of_ble_eq_true rfl) rfl (Nat.le_of_ble_eq_true rfl) he rfl
theorem XL_law_599 : iWp d mL_law 599 [a0, a1, a2, a3] (.int y :: .int x :: st) h Q = if x = y then iWp d mL_law 1465 [a0, a1, a2, a3] st h Q else iWp d mL_law 602 [a0, a1, a2, a3] st h Q := w_icmp_eq dL_law_599 rfl
theorem XL_law_602 : iWp d mL_law 602 [a0, a1, a2, a3] st h Q = iWp d mL_law 603 [a0, a1, a2, a3] (.int 0 :: st) h Q := w_iconst dL_law_602 rfl
theorem XL_law_603 : iWp d mL_law 603 [a0, a1, a2, a3] [.int (iB b)] h Q = Q (some (.int (iB b))) h := w_iretb dL_law_603 rfl
theorem XL_law_603z : iWp d mL_law 603 [a0, a1, a2, a3] [.int 0] h Q = Q (some (.int (iB false))) h := w_iretb (bb := false) dL_law_603 rfl
theorem XL_law_603o : iWp d mL_law 603 [a0, a1, a2, a3] [.int 1] h Q = Q (some (.int (iB true))) h := w_iretb (bb := true) dL_law_603 rfl
theorem XL_law_604 : iWp d mL_law 604 [a0, .ref p, a2, a3] st h Q = iWp d mL_law 605 [a0, .ref p, a2, a3] (.ref p :: st) h Q := w_aload_n dL_law_604 rfl
theorem XL_law_604n : iWp d mL_law 604 [a0, .null, a2, a3] st h Q = iWp d mL_law 605 [a0, .null, a2, a3] (.null :: st) h Q := w_aload_nN dL_law_604 rfl
theorem XL_law_605 : iWp d mL_law 605 [.ref p, a1, a2, a3] st h Q = iWp d mL_law 606 [.ref p, a1, a2, a3] (.ref p :: st) h Q := w_aload_n dL_law_605 rfl
theorem XL_law_605n : iWp d mL_law 605 [.null, a1, a2, a3] st h Q = iWp d mL_law 606 [.null, a1, a2, a3] (.null :: st) h Q := w_aload_nN dL_law_605 rfl
theorem XL_law_606 : iWp d mL_law 606 [a0, a1, a2, .int x] st h Q = iWp d mL_law 607 [a0, a1, a2, .int x] (.int x :: st) h Q := w_iload_n dL_law_606 rfl
theorem XL_law_607 : iWp d mL_law 607 [a0, a1, a2, a3] st h Q = iWp d mL_law 608 [a0, a1, a2, a3] (.int 1 :: st) h Q := w_iconst dL_law_607 rfl
theorem XL_law_608 : iWp d mL_law 608 [a0, a1, a2, a3] (.int y :: .int x :: st) h Q = iWp d mL_law 609 [a0, a1, a2, a3] (.int (x + y) :: st) h Q := w_iadd dL_law_608
theorem XL_law_609 : iWp d mL_law 609 [a0, a1, a2, a3] (.int x :: .ref p :: st) h Q = iOb (iLdI h p x) (fun v => iWp d mL_law 610 [a0, a1, a2, a3] (.int v :: st) h Q) := w_iaload dL_law_609
theorem XL_law_610 : iWp d mL_law 610 [.ref p, a1, a2, a3] st h Q = iWp d mL_law 611 [.ref p, a1, a2, a3] (.ref p :: st) h Q := w_aload_n dL_law_610 rfl
theorem XL_law_610n : iWp d mL_law 610 [.null, a1, a2, a3] st h Q = iWp d mL_law 611 [.null, a1, a2, a3] (.null :: st) h Q := w_aload_nN dL_law_610 rfl
theorem XL_law_611 : iWp d mL_law 611 [a0, a1, a2, .int x] st h Q = iWp d mL_law 612 [a0, a1, a2, .int x] (.int x :: st) h Q := w_iload_n dL_law_611 rfl
theorem XL_law_612 : iWp d mL_law 612 [a0, a1, a2, a3] st h Q = iWp d mL_law 613 [a0, a1, a2, a3] (.int 2 :: st) h Q := w_iconst dL_law_612 rfl
theorem XL_law_613 : iWp d mL_law 613 [a0, a1, a2, a3] (.int y :: .int x :: st) h Q = iWp d mL_law 614 [a0, a1, a2, a3] (.int (x + y) :: st) h Q := w_iadd dL_law_613
theorem XL_law_614 : iWp d mL_law 614 [a0, a1, a2, a3] (.int x :: .ref p :: st) h Q = iOb (iLdI h p x) (fun v => iWp d mL_law 615 [a0, a1, a2, a3] (.int v :: st) h Q) := w_iaload dL_law_614
theorem XL_law_615 (he : iEv mX8_find [.ref p, .int x0, .int x1] h (some (.int rv)) h2) (ho : iObj h p 8 = true) : iWp 60 mL_law 615 [a0, a1, a2, a3] [.int x1, .int x0, .ref p] h Q = iWp 60 mL_law 618 [a0, a1, a2, a3] [.int rv] h2 Q := iWp_cV dL_law_615 fK_10_66 rfl rfl ho (Nat.le_of_ble_eq_true rfl) (Nat.le_of_ble_eq_true rfl) rfl (Nat.le_of_ble_eq_true rfl) he rfl
theorem XL_law_618 : iWp d mL_law 618 [a0, a1, .ref p, a3] st h Q = iWp d mL_law 619 [a0, a1, .ref p, a3] (.ref p :: st) h Q := w_aload_n dL_law_618 rfl
theorem XL_law_618n : iWp d mL_law 618 [a0, a1, .null, a3] st h Q = iWp d mL_law 619 [a0, a1, .null, a3] (.null :: st) h Q := w_aload_nN dL_law_618 rfl
theorem XL_law_619 : iWp d mL_law 619 [.ref p, a1, a2, a3] st h Q = iWp d mL_law 620 [.ref p, a1, a2, a3] (.ref p :: st) h Q := w_aload_n dL_law_619 rfl
theorem XL_law_619n : iWp d mL_law 619 [.null, a1, a2, a3] st h Q = iWp d mL_law 620 [.null, a1, a2, a3] (.null :: st) h Q := w_aload_nN dL_law_619 rfl
theorem XL_law_620 : iWp d mL_law 620 [a0, a1, a2, .int x] st h Q = iWp d mL_law 621 [a0, a1, a2, .int x] (.int x :: st) h Q := w_iload_n dL_law_620 rfl
theorem XL_law_621 : iWp d mL_law 621 [a0, a1, a2, a3] st h Q = iWp d mL_law 622 [a0, a1, a2, a3] (.int 1 :: st) h Q := w_iconst dL_law_621 rfl
theorem XL_law_622 : iWp d mL_law 622 [a0, a1, a2, a3] (.int y :: .int x :: st) h Q = iWp d mL_law 623 [a0, a1, a2, a3] (.int (x + y) :: st) h Q := w_iadd dL_law_622
theorem XL_law_623 : iWp d mL_law 623 [a0, a1, a2, a3] (.int x :: .ref p :: st) h Q = iOb (iLdI h p x) (fun v => iWp d mL_law 624 [a0, a1, a2, a3] (.int v :: st) h Q) := w_iaload dL_law_623
theorem XL_law_624 : iWp d mL_law 624 [.ref p, a1, a2, a3] st h Q = iWp d mL_law 625 [.ref p, a1, a2, a3] (.ref p :: st) h Q := w_aload_n dL_law_624 rfl
theorem XL_law_624n : iWp d mL_law 624 [.null, a1, a2, a3] st h Q = iWp d mL_law 625 [.null, a1, a2, a3] (.null :: st) h Q := w_aload_nN dL_law_624 rfl
theorem XL_law_625 : iWp d mL_law 625 [a0, a1, a2, .int x] st h Q = iWp d mL_law 626 [a0, a1, a2, .int x] (.int x :: st) h Q := w_iload_n dL_law_625 rfl
theorem XL_law_626 : iWp d mL_law 626 [a0, a1, a2, a3] st h Q = iWp d mL_law 627 [a0, a1, a2, a3] (.int 2 :: st) h Q := w_iconst dL_law_626 rfl
theorem XL_law_627 : iWp d mL_law 627 [a0, a1, a2, a3] (.int y :: .int x :: st) h Q = iWp d mL_law 628 [a0, a1, a2, a3] (.int (x + y) :: st) h Q := w_iadd dL_law_627
theorem XL_law_628 : iWp d mL_law 628 [a0, a1, a2, a3] (.int x :: .ref p :: st) h Q = iOb (iLdI h p x) (fun v => iWp d mL_law 629 [a0, a1, a2, a3] (.int v :: st) h Q) := w_iaload dL_law_628
theorem XL_law_629 (he : iEv mX9_find_ [.ref p, .int x0, .int x1] h (some (.int rv)) h2) (ho : iObj h p 9 = true) : iWp 60 mL_law 629 [a0, a1, a2, a3] [.int x1, .int x0, .ref p, .int r0] h Q = iWp 60 mL_law 632 [a0, a1, a2, a3] [.int rv, .int r0] h2 Q := iWp_cV dL_law_629 fK_10_69 rfl rfl ho (Nat.le_of_ble_eq_true rfl) (Nat.le_of_ble_eq_true rfl) rfl (Nat.le_of_ble_eq_true rfl) he rfl
theorem XL_law_632 : iWp d mL_law 632 [a0, a1, a2, a3] (.int y :: .int x :: st) h Q = if x = y then iWp d mL_law 1465 [a0, a1, a2, a3] st h Q else iWp d mL_law 635 [a0, a1, a2, a3] st h Q := w_icmp_eq dL_law_632 rfl
theorem XL_law_635 : iWp d mL_law 635 [a0, a1, a2, a3] st h Q = iWp d mL_law 636 [a0, a1, a2, a3] (.int 0 :: st) h Q := w_iconst dL_law_635 rfl
theorem XL_law_636 : iWp d mL_law 636 [a0, a1, a2, a3] [.int (iB b)] h Q = Q (some (.int (iB b))) h := w_iretb dL_law_636 rfl
theorem XL_law_636z : iWp d mL_law 636 [a0, a1, a2, a3] [.int 0] h Q = Q (some (.int (iB false))) h := w_iretb (bb := false) dL_law_636 rfl
theorem XL_law_636o : iWp d mL_law 636 [a0, a1, a2, a3] [.int 1] h Q = Q (some (.int (iB true))) h := w_iretb (bb := true) dL_law_636 rfl
theorem XL_law_637 : iWp d mL_law 637 [a0, .ref p, a2, a3] st h Q = iWp d mL_law 638 [a0, .ref p, a2, a3] (.ref p :: st) h Q := w_aload_n dL_law_637 rfl
theorem XL_law_637n : iWp d mL_law 637 [a0, .null, a2, a3] st h Q = iWp d mL_law 638 [a0, .null, a2, a3] (.null :: st) h Q := w_aload_nN dL_law_637 rfl
theorem XL_law_638 : iWp d mL_law 638 [.ref p, a1, a2, a3] st h Q = iWp d mL_law 639 [.ref p, a1, a2, a3] (.ref p :: st) h Q := w_aload_n dL_law_638 rfl
theorem XL_law_638n : iWp d mL_law 638 [.null, a1, a2, a3] st h Q = iWp d mL_law 639 [.null, a1, a2, a3] (.null :: st) h Q := w_aload_nN dL_law_638 rfl
theorem XL_law_639 : iWp d mL_law 639 [a0, a1, a2, .int x] st h Q = iWp d mL_law 640 [a0, a1, a2, .int x] (.int x :: st) h Q := w_iload_n dL_law_639 rfl
theorem XL_law_640 : iWp d mL_law 640 [a0, a1, a2, a3] st h Q = iWp d mL_law 641 [a0, a1, a2, a3] (.int 1 :: st) h Q := w_iconst dL_law_640 rfl
theorem XL_law_641 : iWp d mL_law 641 [a0, a1, a2, a3] (.int y :: .int x :: st) h Q = iWp d mL_law 642 [a0, a1, a2, a3] (.int (x + y) :: st) h Q := w_iadd dL_law_641
theorem XL_law_642 : iWp d mL_law 642 [a0, a1, a2, a3] (.int x :: .ref p :: st) h Q = iOb (iLdI h p x) (fun v => iWp d mL_law 643 [a0, a1, a2, a3] (.int v :: st) h Q) := w_iaload dL_law_642
theorem XL_law_643 : iWp d mL_law 643 [.ref p, a1, a2, a3] st h Q = iWp d mL_law 644 [.ref p, a1, a2, a3] (.ref p :: st) h Q := w_aload_n dL_law_643 rfl
theorem XL_law_643n : iWp d mL_law 643 [.null, a1, a2, a3] st h Q = iWp d mL_law 644 [.null, a1, a2, a3] (.null :: st) h Q := w_aload_nN dL_law_643 rfl
theorem XL_law_644 : iWp d mL_law 644 [a0, a1, a2, .int x] st h Q = iWp d mL_law 645 [a0, a1, a2, .int x] (.int x :: st) h Q := w_iload_n dL_law_644 rfl
theorem XL_law_645 : iWp d mL_law 645 [a0, a1, a2, a3] st h Q = iWp d mL_law 646 [a0, a1, a2, a3] (.int 2 :: st) h Q := w_iconst dL_law_645 rfl
theorem XL_law_646 : iWp d mL_law 646 [a0, a1, a2, a3] (.int y :: .int x :: st) h Q = iWp d mL_law 647 [a0, a1, a2, a3] (.int (x + y) :: st) h Q := w_iadd dL_law_646
theorem XL_law_647 : iWp d mL_law 647 [a0, a1, a2, a3] (.int x :: .ref p :: st) h Q = iOb (iLdI h p x) (fun v => iWp d mL_law 648 [a0, a1, a2, a3] (.int v :: st) h Q) := w_iaload dL_law_647
theorem XL_law_648 : iWp d mL_law 648 [.ref p, a1, a2, a3] st h Q = iWp d mL_law 649 [.ref p, a1, a2, a3] (.ref p :: st) h Q := w_aload_n dL_law_648 rfl
theorem XL_law_648n : iWp d mL_law 648 [.null, a1, a2, a3] st h Q = iWp d mL_law 649 [.null, a1, a2, a3] (.null :: st) h Q := w_aload_nN dL_law_648 rfl
theorem XL_law_649 : iWp d mL_law 649 [a0, a1, a2, .int x] st h Q = iWp d mL_law 650 [a0, a1, a2, .int x] (.int x :: st) h Q := w_iload_n dL_law_649 rfl
theorem XL_law_650 : iWp d mL_law 650 [a0, a1, a2, a3] st h Q = iWp d mL_law 651 [a0, a1, a2, a3] (.int 3 :: st) h Q := w_iconst dL_law_650 rfl
theorem XL_law_651 : iWp d mL_law 651 [a0, a1, a2, a3] (.int y :: .int x :: st) h Q = iWp d mL_law 652 [a0, a1, a2, a3] (.int (x + y) :: st) h Q := w_iadd dL_law_651
theorem XL_law_652 : iWp d mL_law 652 [a0, a1, a2, a3] (.int x :: .ref p :: st) h Q = iOb (iLdI h p x) (fun v => iWp d mL_law 653 [a0, a1, a2, a3] (.int v :: st) h Q) := w_iaload dL_law_652
theorem XL_law_653 (he : iEv mX8_child [.ref p, .int x0, .int x1, .int x2] h (some (.int rv)) h2) (ho : iObj h p 8 = true) : iWp 60 mL_law 653 [a0, a1, a2, a3] [.int x2, .int x1, .int x0, .ref p] h Q = iWp 60 mL_law 656 [a0, a1, a2, a3] [.int rv] h2 Q := iWp_cV dL_law_653 fK_10_70 rfl rfl ho (Nat.le_of_ble_eq_true rfl) (Nat.le_of_ble_eq_true rfl) rfl (Nat.le_of_ble_eq_true rfl) he rfl
theorem XL_law_656 : iWp d mL_law 656 [a0, a1, .ref p, a3] st h Q = iWp d mL_law 657 [a0, a1, .ref p, a3] (.ref p :: st) h Q := w_aload_n dL_law_656 rfl
theorem XL_law_656n : iWp d mL_law 656 [a0, a1, .null, a3] st h Q = iWp d mL_law 657 [a0, a1, .null, a3] (.null :: st) h Q := w_aload_nN dL_law_656 rfl
theorem XL_law_657 : iWp d mL_law 657 [.ref p, a1, a2, a3] st h Q = iWp d mL_law 658 [.ref p, a1, a2, a3] (.ref p :: st) h Q := w_aload_n dL_law_657 rfl
theorem XL_law_657n : iWp d mL_law 657 [.null, a1, a2, a3] st h Q = iWp d mL_law 658 [.null, a1, a2, a3] (.null :: st) h Q := w_aload_nN dL_law_657 rfl
theorem XL_law_658 : iWp d mL_law 658 [a0, a1, a2, .int x] st h Q = iWp d mL_law 659 [a0, a1, a2, .int x] (.int x :: st) h Q := w_iload_n dL_law_658 rfl
theorem XL_law_659 : iWp d mL_law 659 [a0, a1, a2, a3] st h Q = iWp d mL_law 660 [a0, a1, a2, a3] (.int 1 :: st) h Q := w_iconst dL_law_659 rfl
theorem XL_law_660 : iWp d mL_law 660 [a0, a1, a2, a3] (.int y :: .int x :: st) h Q = iWp d mL_law 661 [a0, a1, a2, a3] (.int (x + y) :: st) h Q := w_iadd dL_law_660
theorem XL_law_661 : iWp d mL_law 661 [a0, a1, a2, a3] (.int x :: .ref p :: st) h Q = iOb (iLdI h p x) (fun v => iWp d mL_law 662 [a0, a1, a2, a3] (.int v :: st) h Q) := w_iaload dL_law_661
theorem XL_law_662 : iWp d mL_law 662 [.ref p, a1, a2, a3] st h Q = iWp d mL_law 663 [.ref p, a1, a2, a3] (.ref p :: st) h Q := w_aload_n dL_law_662 rfl
theorem XL_law_662n : iWp d mL_law 662 [.null, a1, a2, a3] st h Q = iWp d mL_law 663 [.null, a1, a2, a3] (.null :: st) h Q := w_aload_nN dL_law_662 rfl
theorem XL_law_663 : iWp d mL_law 663 [a0, a1, a2, .int x] st h Q = iWp d mL_law 664 [a0, a1, a2, .int x] (.int x :: st) h Q := w_iload_n dL_law_663 rfl
theorem XL_law_664 : iWp d mL_law 664 [a0, a1, a2, a3] st h Q = iWp d mL_law 665 [a0, a1, a2, a3] (.int 2 :: st) h Q := w_iconst dL_law_664 rfl
theorem XL_law_665 : iWp d mL_law 665 [a0, a1, a2, a3] (.int y :: .int x :: st) h Q = iWp d mL_law 666 [a0, a1, a2, a3] (.int (x + y) :: st) h Q := w_iadd dL_law_665
theorem XL_law_666 : iWp d mL_law 666 [a0, a1, a2, a3] (.int x :: .ref p :: st) h Q = iOb (iLdI h p x) (fun v => iWp d mL_law 667 [a0, a1, a2, a3] (.int v :: st) h Q) := w_iaload dL_law_666
theorem XL_law_667 : iWp d mL_law 667 [.ref p, a1, a2, a3] st h Q = iWp d mL_law 668 [.ref p, a1, a2, a3] (.ref p :: st) h Q := w_aload_n dL_law_667 rfl
theorem XL_law_667n : iWp d mL_law 667 [.null, a1, a2, a3] st h Q = iWp d mL_law 668 [.null, a1, a2, a3] (.null :: st) h Q := w_aload_nN dL_law_667 rfl
theorem XL_law_668 : iWp d mL_law 668 [a0, a1, a2, .int x] st h Q = iWp d mL_law 669 [a0, a1, a2, .int x] (.int x :: st) h Q := w_iload_n dL_law_668 rfl
theorem XL_law_669 : iWp d mL_law 669 [a0, a1, a2, a3] st h Q = iWp d mL_law 670 [a0, a1, a2, a3] (.int 3 :: st) h Q := w_iconst dL_law_669 rfl
theorem XL_law_670 : iWp d mL_law 670 [a0, a1, a2, a3] (.int y :: .int x :: st) h Q = iWp d mL_law 671 [a0, a1, a2, a3] (.int (x + y) :: st) h Q := w_iadd dL_law_670
theorem XL_law_671 : iWp d mL_law 671 [a0, a1, a2, a3] (.int x :: .ref p :: st) h Q = iOb (iLdI h p x) (fun v => iWp d mL_law 672 [a0, a1, a2, a3] (.int v :: st) h Q) := w_iaload dL_law_671
theorem XL_law_672 (he : iEv mX9_child_ [.ref p, .int x0, .int x1, .int x2] h (some (.int rv)) h2) (ho : iObj h p 9 = true) : iWp 60 mL_law 672 [a0, a1, a2, a3] [.int x2, .int x1, .int x0, .ref p, .int r0] h Q = iWp 60 mL_law 675 [a0, a1, a2, a3] [.int rv, .int r0] h2 Q := iWp_cV dL_law_672 fK_10_73 rfl rfl ho (Nat.le_of_ble_eq_true rfl) (Nat.le_of_ble_eq_true rfl) rfl (Nat.le_of_ble_eq_true rfl) he rfl
theorem XL_law_675 : iWp d mL_law 675 [a0, a1, a2, a3] (.int y :: .int x :: st) h Q = if x = y then iWp d mL_law 1465 [a0, a1, a2, a3] st h Q else iWp d mL_law 678 [a0, a1, a2, a3] st h Q := w_icmp_eq dL_law_675 rfl
theorem XL_law_678 : iWp d mL_law 678 [a0, a1, a2, a3] st h Q = iWp d mL_law 679 [a0, a1, a2, a3] (.int 0 :: st) h Q := w_iconst dL_law_678 rfl
theorem XL_law_679 : iWp d mL_law 679 [a0, a1, a2, a3] [.int (iB b)] h Q = Q (some (.int (iB b))) h := w_iretb dL_law_679 rfl
theorem XL_law_679z : iWp d mL_law 679 [a0, a1, a2, a3] [.int 0] h Q = Q (some (.int (iB false))) h := w_iretb (bb := false) dL_law_679 rfl
theorem XL_law_679o : iWp d mL_law 679 [a0, a1, a2, a3] [.int 1] h Q = Q (some (.int (iB true))) h := w_iretb (bb := true) dL_law_679 rfl
theorem XL_law_680 : iWp d mL_law 680 [a0, .ref p, a2, a3] st h Q = iWp d mL_law 681 [a0, .ref p, a2, a3] (.ref p :: st) h Q := w_aload_n dL_law_680 rfl
theorem XL_law_680n : iWp d mL_law 680 [a0, .null, a2, a3] st h Q = iWp d mL_law 681 [a0, .null, a2, a3] (.null :: st) h Q := w_aload_nN dL_law_680 rfl
theorem XL_law_681 : iWp d mL_law 681 [.ref p, a1, a2, a3] st h Q = iWp d mL_law 682 [.ref p, a1, a2, a3] (.ref p :: st) h Q := w_aload_n dL_law_681 rfl
theorem XL_law_681n : iWp d mL_law 681 [.null, a1, a2, a3] st h Q = iWp d mL_law 682 [.null, a1, a2, a3] (.null :: st) h Q := w_aload_nN dL_law_681 rfl
theorem XL_law_682 : iWp d mL_law 682 [a0, a1, a2, .int x] st h Q = iWp d mL_law 683 [a0, a1, a2, .int x] (.int x :: st) h Q := w_iload_n dL_law_682 rfl
theorem XL_law_683 : iWp d mL_law 683 [a0, a1, a2, a3] st h Q = iWp d mL_law 684 [a0, a1, a2, a3] (.int 1 :: st) h Q := w_iconst dL_law_683 rfl
theorem XL_law_684 : iWp d mL_law 684 [a0, a1, a2, a3] (.int y :: .int x :: st) h Q = iWp d mL_law 685 [a0, a1, a2, a3] (.int (x + y) :: st) h Q := w_iadd dL_law_684
theorem XL_law_685 : iWp d mL_law 685 [a0, a1, a2, a3] (.int x :: .ref p :: st) h Q = iOb (iLdI h p x) (fun v => iWp d mL_law 686 [a0, a1, a2, a3] (.int v :: st) h Q) := w_iaload dL_law_685
theorem XL_law_686 : iWp d mL_law 686 [.ref p, a1, a2, a3] st h Q = iWp d mL_law 687 [.ref p, a1, a2, a3] (.ref p :: st) h Q := w_aload_n dL_law_686 rfl
theorem XL_law_686n : iWp d mL_law 686 [.null, a1, a2, a3] st h Q = iWp d mL_law 687 [.null, a1, a2, a3] (.null :: st) h Q := w_aload_nN dL_law_686 rfl
theorem XL_law_687 : iWp d mL_law 687 [a0, a1, a2, .int x] st h Q = iWp d mL_law 688 [a0, a1, a2, .int x] (.int x :: st) h Q := w_iload_n dL_law_687 rfl
theorem XL_law_688 : iWp d mL_law 688 [a0, a1, a2, a3] st h Q = iWp d mL_law 689 [a0, a1, a2, a3] (.int 2 :: st) h Q := w_iconst dL_law_688 rfl
theorem XL_law_689 : iWp d mL_law 689 [a0, a1, a2, a3] (.int y :: .int x :: st) h Q = iWp d mL_law 690 [a0, a1, a2, a3] (.int (x + y) :: st) h Q := w_iadd dL_law_689
theorem XL_law_690 : iWp d mL_law 690 [a0, a1, a2, a3] (.int x :: .ref p :: st) h Q = iOb (iLdI h p x) (fun v => iWp d mL_law 691 [a0, a1, a2, a3] (.int v :: st) h Q) := w_iaload dL_law_690
theorem XL_law_691 : iWp d mL_law 691 [.ref p, a1, a2, a3] st h Q = iWp d mL_law 692 [.ref p, a1, a2, a3] (.ref p :: st) h Q := w_aload_n dL_law_691 rfl
theorem XL_law_691n : iWp d mL_law 691 [.null, a1, a2, a3] st h Q = iWp d mL_law 692 [.null, a1, a2, a3] (.null :: st) h Q := w_aload_nN dL_law_691 rfl
theorem XL_law_692 : iWp d mL_law 692 [a0, a1, a2, .int x] st h Q = iWp d mL_law 693 [a0, a1, a2, .int x] (.int x :: st) h Q := w_iload_n dL_law_692 rfl
theorem XL_law_693 : iWp d mL_law 693 [a0, a1, a2, a3] st h Q = iWp d mL_law 694 [a0, a1, a2, a3] (.int 3 :: st) h Q := w_iconst dL_law_693 rfl
theorem XL_law_694 : iWp d mL_law 694 [a0, a1, a2, a3] (.int y :: .int x :: st) h Q = iWp d mL_law 695 [a0, a1, a2, a3] (.int (x + y) :: st) h Q := w_iadd dL_law_694
theorem XL_law_695 : iWp d mL_law 695 [a0, a1, a2, a3] (.int x :: .ref p :: st) h Q = iOb (iLdI h p x) (fun v => iWp d mL_law 696 [a0, a1, a2, a3] (.int v :: st) h Q) := w_iaload dL_law_695
theorem XL_law_696 (he : iEv mX8_above [.ref p, .int x0, .int x1, .int x2] h (some (.int rv)) h2) (ho : iObj h p 8 = true) : iWp 60 mL_law 696 [a0, a1, a2, a3] [.int x2, .int x1, .int x0, .ref p] h Q = iWp 60 mL_law 699 [a0, a1, a2, a3] [.int rv] h2 Q := iWp_cV dL_law_696 fK_10_74 rfl rfl ho (Nat.le_of_ble_eq_true rfl) (Nat.le_of_ble_eq_true rfl) rfl (Nat.le_of_ble_eq_true rfl) he rfl
theorem XL_law_699 : iWp d mL_law 699 [a0, a1, .ref p, a3] st h Q = iWp d mL_law 700 [a0, a1, .ref p, a3] (.ref p :: st) h Q := w_aload_n dL_law_699 rfl
theorem XL_law_699n : iWp d mL_law 699 [a0, a1, .null, a3] st h Q = iWp d mL_law 700 [a0, a1, .null, a3] (.null :: st) h Q := w_aload_nN dL_law_699 rfl
theorem XL_law_700 : iWp d mL_law 700 [.ref p, a1, a2, a3] st h Q = iWp d mL_law 701 [.ref p, a1, a2, a3] (.ref p :: st) h Q := w_aload_n dL_law_700 rfl
theorem XL_law_700n : iWp d mL_law 700 [.null, a1, a2, a3] st h Q = iWp d mL_law 701 [.null, a1, a2, a3] (.null :: st) h Q := w_aload_nN dL_law_700 rfl
theorem XL_law_701 : iWp d mL_law 701 [a0, a1, a2, .int x] st h Q = iWp d mL_law 702 [a0, a1, a2, .int x] (.int x :: st) h Q := w_iload_n dL_law_701 rfl
theorem XL_law_702 : iWp d mL_law 702 [a0, a1, a2, a3] st h Q = iWp d mL_law 703 [a0, a1, a2, a3] (.int 1 :: st) h Q := w_iconst dL_law_702 rfl
theorem XL_law_703 : iWp d mL_law 703 [a0, a1, a2, a3] (.int y :: .int x :: st) h Q = iWp d mL_law 704 [a0, a1, a2, a3] (.int (x + y) :: st) h Q := w_iadd dL_law_703
theorem XL_law_704 : iWp d mL_law 704 [a0, a1, a2, a3] (.int x :: .ref p :: st) h Q = iOb (iLdI h p x) (fun v => iWp d mL_law 705 [a0, a1, a2, a3] (.int v :: st) h Q) := w_iaload dL_law_704
theorem XL_law_705 : iWp d mL_law 705 [.ref p, a1, a2, a3] st h Q = iWp d mL_law 706 [.ref p, a1, a2, a3] (.ref p :: st) h Q := w_aload_n dL_law_705 rfl
theorem XL_law_705n : iWp d mL_law 705 [.null, a1, a2, a3] st h Q = iWp d mL_law 706 [.null, a1, a2, a3] (.null :: st) h Q := w_aload_nN dL_law_705 rfl
theorem XL_law_706 : iWp d mL_law 706 [a0, a1, a2, .int x] st h Q = iWp d mL_law 707 [a0, a1, a2, .int x] (.int x :: st) h Q := w_iload_n dL_law_706 rfl
theorem XL_law_707 : iWp d mL_law 707 [a0, a1, a2, a3] st h Q = iWp d mL_law 708 [a0, a1, a2, a3] (.int 2 :: st) h Q := w_iconst dL_law_707 rfl
theorem XL_law_708 : iWp d mL_law 708 [a0, a1, a2, a3] (.int y :: .int x :: st) h Q = iWp d mL_law 709 [a0, a1, a2, a3] (.int (x + y) :: st) h Q := w_iadd dL_law_708
theorem XL_law_709 : iWp d mL_law 709 [a0, a1, a2, a3] (.int x :: .ref p :: st) h Q = iOb (iLdI h p x) (fun v => iWp d mL_law 710 [a0, a1, a2, a3] (.int v :: st) h Q) := w_iaload dL_law_709
theorem XL_law_710 : iWp d mL_law 710 [.ref p, a1, a2, a3] st h Q = iWp d mL_law 711 [.ref p, a1, a2, a3] (.ref p :: st) h Q := w_aload_n dL_law_710 rfl
theorem XL_law_710n : iWp d mL_law 710 [.null, a1, a2, a3] st h Q = iWp d mL_law 711 [.null, a1, a2, a3] (.null :: st) h Q := w_aload_nN dL_law_710 rfl
theorem XL_law_711 : iWp d mL_law 711 [a0, a1, a2, .int x] st h Q = iWp d mL_law 712 [a0, a1, a2, .int x] (.int x :: st) h Q := w_iload_n dL_law_711 rfl
theorem XL_law_712 : iWp d mL_law 712 [a0, a1, a2, a3] st h Q = iWp d mL_law 713 [a0, a1, a2, a3] (.int 3 :: st) h Q := w_iconst dL_law_712 rfl
theorem XL_law_713 : iWp d mL_law 713 [a0, a1, a2, a3] (.int y :: .int x :: st) h Q = iWp d mL_law 714 [a0, a1, a2, a3] (.int (x + y) :: st) h Q := w_iadd dL_law_713
theorem XL_law_714 : iWp d mL_law 714 [a0, a1, a2, a3] (.int x :: .ref p :: st) h Q = iOb (iLdI h p x) (fun v => iWp d mL_law 715 [a0, a1, a2, a3] (.int v :: st) h Q) := w_iaload dL_law_714
theorem XL_law_715 (he : iEv mX9_above [.ref p, .int x0, .int x1, .int x2] h (some (.int rv)) h2) (ho : iObj h p 9 = true) : iWp 60 mL_law 715 [a0, a1, a2, a3] [.int x2, .int x1, .int x0, .ref p, .int r0] h Q = iWp 60 mL_law 718 [a0, a1, a2, a3] [.int rv, .int r0] h2 Q := iWp_cV dL_law_715 fK_10_77 rfl rfl ho (Nat.le_of_ble_eq_true rfl) (Nat.le_of_ble_eq_true rfl) rfl (Nat.le_of_ble_eq_true rfl) he rfl
theorem XL_law_718 : iWp d mL_law 718 [a0, a1, a2, a3] (.int y :: .int x :: st) h Q = if x = y then iWp d mL_law 1465 [a0, a1, a2, a3] st h Q else iWp d mL_law 721 [a0, a1, a2, a3] st h Q := w_icmp_eq dL_law_718 rfl
theorem XL_law_721 : iWp d mL_law 721 [a0, a1, a2, a3] st h Q = iWp d mL_law 722 [a0, a1, a2, a3] (.int 0 :: st) h Q := w_iconst dL_law_721 rfl
theorem XL_law_722 : iWp d mL_law 722 [a0, a1, a2, a3] [.int (iB b)] h Q = Q (some (.int (iB b))) h := w_iretb dL_law_722 rfl
theorem XL_law_722z : iWp d mL_law 722 [a0, a1, a2, a3] [.int 0] h Q = Q (some (.int (iB false))) h := w_iretb (bb := false) dL_law_722 rfl
theorem XL_law_722o : iWp d mL_law 722 [a0, a1, a2, a3] [.int 1] h Q = Q (some (.int (iB true))) h := w_iretb (bb := true) dL_law_722 rfl
theorem XL_law_723 : iWp d mL_law 723 [a0, .ref p, a2, a3] st h Q = iWp d mL_law 724 [a0, .ref p, a2, a3] (.ref p :: st) h Q := w_aload_n dL_law_723 rfl
theorem XL_law_723n : iWp d mL_law 723 [a0, .null, a2, a3] st h Q = iWp d mL_law 724 [a0, .null, a2, a3] (.null :: st) h Q := w_aload_nN dL_law_723 rfl
theorem XL_law_724 : iWp d mL_law 724 [.ref p, a1, a2, a3] st h Q = iWp d mL_law 725 [.ref p, a1, a2, a3] (.ref p :: st) h Q := w_aload_n dL_law_724 rfl
theorem XL_law_724n : iWp d mL_law 724 [.null, a1, a2, a3] st h Q = iWp d mL_law 725 [.null, a1, a2, a3] (.null :: st) h Q := w_aload_nN dL_law_724 rfl
theorem XL_law_725 : iWp d mL_law 725 [a0, a1, a2, .int x] st h Q = iWp d mL_law 726 [a0, a1, a2, .int x] (.int x :: st) h Q := w_iload_n dL_law_725 rfl
theorem XL_law_726 : iWp d mL_law 726 [a0, a1, a2, a3] st h Q = iWp d mL_law 727 [a0, a1, a2, a3] (.int 1 :: st) h Q := w_iconst dL_law_726 rfl
theorem XL_law_727 : iWp d mL_law 727 [a0, a1, a2, a3] (.int y :: .int x :: st) h Q = iWp d mL_law 728 [a0, a1, a2, a3] (.int (x + y) :: st) h Q := w_iadd dL_law_727
theorem XL_law_728 : iWp d mL_law 728 [a0, a1, a2, a3] (.int x :: .ref p :: st) h Q = iOb (iLdI h p x) (fun v => iWp d mL_law 729 [a0, a1, a2, a3] (.int v :: st) h Q) := w_iaload dL_law_728
theorem XL_law_729 : iWp d mL_law 729 [.ref p, a1, a2, a3] st h Q = iWp d mL_law 730 [.ref p, a1, a2, a3] (.ref p :: st) h Q := w_aload_n dL_law_729 rfl
theorem XL_law_729n : iWp d mL_law 729 [.null, a1, a2, a3] st h Q = iWp d mL_law 730 [.null, a1, a2, a3] (.null :: st) h Q := w_aload_nN dL_law_729 rfl
theorem XL_law_730 : iWp d mL_law 730 [a0, a1, a2, .int x] st h Q = iWp d mL_law 731 [a0, a1, a2, .int x] (.int x :: st) h Q := w_iload_n dL_law_730 rfl
theorem XL_law_731 : iWp d mL_law 731 [a0, a1, a2, a3] st h Q = iWp d mL_law 732 [a0, a1, a2, a3] (.int 2 :: st) h Q := w_iconst dL_law_731 rfl
theorem XL_law_732 : iWp d mL_law 732 [a0, a1, a2, a3] (.int y :: .int x :: st) h Q = iWp d mL_law 733 [a0, a1, a2, a3] (.int (x + y) :: st) h Q := w_iadd dL_law_732
theorem XL_law_733 : iWp d mL_law 733 [a0, a1, a2, a3] (.int x :: .ref p :: st) h Q = iOb (iLdI h p x) (fun v => iWp d mL_law 734 [a0, a1, a2, a3] (.int v :: st) h Q) := w_iaload dL_law_733
theorem XL_law_734 (he : iEv mX8_same [.ref p, .int x0, .int x1] h (some (.int rv)) h2) (ho : iObj h p 8 = true) : iWp 60 mL_law 734 [a0, a1, a2, a3] [.int x1, .int x0, .ref p] h Q = iWp 60 mL_law 737 [a0, a1, a2, a3] [.int rv] h2 Q := iWp_cV dL_law_734 fK_10_78 rfl rfl ho (Nat.le_of_ble_eq_true rfl) (Nat.le_of_ble_eq_true rfl) rfl (Nat.le_of_ble_eq_true rfl) he rfl
theorem XL_law_737 : iWp d mL_law 737 [a0, a1, .ref p, a3] st h Q = iWp d mL_law 738 [a0, a1, .ref p, a3] (.ref p :: st) h Q := w_aload_n dL_law_737 rfl
theorem XL_law_737n : iWp d mL_law 737 [a0, a1, .null, a3] st h Q = iWp d mL_law 738 [a0, a1, .null, a3] (.null :: st) h Q := w_aload_nN dL_law_737 rfl
theorem XL_law_738 : iWp d mL_law 738 [.ref p, a1, a2, a3] st h Q = iWp d mL_law 739 [.ref p, a1, a2, a3] (.ref p :: st) h Q := w_aload_n dL_law_738 rfl
theorem XL_law_738n : iWp d mL_law 738 [.null, a1, a2, a3] st h Q = iWp d mL_law 739 [.null, a1, a2, a3] (.null :: st) h Q := w_aload_nN dL_law_738 rfl
theorem XL_law_739 : iWp d mL_law 739 [a0, a1, a2, .int x] st h Q = iWp d mL_law 740 [a0, a1, a2, .int x] (.int x :: st) h Q := w_iload_n dL_law_739 rfl
theorem XL_law_740 : iWp d mL_law 740 [a0, a1, a2, a3] st h Q = iWp d mL_law 741 [a0, a1, a2, a3] (.int 1 :: st) h Q := w_iconst dL_law_740 rfl
theorem XL_law_741 : iWp d mL_law 741 [a0, a1, a2, a3] (.int y :: .int x :: st) h Q = iWp d mL_law 742 [a0, a1, a2, a3] (.int (x + y) :: st) h Q := w_iadd dL_law_741
theorem XL_law_742 : iWp d mL_law 742 [a0, a1, a2, a3] (.int x :: .ref p :: st) h Q = iOb (iLdI h p x) (fun v => iWp d mL_law 743 [a0, a1, a2, a3] (.int v :: st) h Q) := w_iaload dL_law_742
theorem XL_law_743 : iWp d mL_law 743 [.ref p, a1, a2, a3] st h Q = iWp d mL_law 744 [.ref p, a1, a2, a3] (.ref p :: st) h Q := w_aload_n dL_law_743 rfl
theorem XL_law_743n : iWp d mL_law 743 [.null, a1, a2, a3] st h Q = iWp d mL_law 744 [.null, a1, a2, a3] (.null :: st) h Q := w_aload_nN dL_law_743 rfl
theorem XL_law_744 : iWp d mL_law 744 [a0, a1, a2, .int x] st h Q = iWp d mL_law 745 [a0, a1, a2, .int x] (.int x :: st) h Q := w_iload_n dL_law_744 rfl
theorem XL_law_745 : iWp d mL_law 745 [a0, a1, a2, a3] st h Q = iWp d mL_law 746 [a0, a1, a2, a3] (.int 2 :: st) h Q := w_iconst dL_law_745 rfl
theorem XL_law_746 : iWp d mL_law 746 [a0, a1, a2, a3] (.int y :: .int x :: st) h Q = iWp d mL_law 747 [a0, a1, a2, a3] (.int (x + y) :: st) h Q := w_iadd dL_law_746
theorem XL_law_747 : iWp d mL_law 747 [a0, a1, a2, a3] (.int x :: .ref p :: st) h Q = iOb (iLdI h p x) (fun v => iWp d mL_law 748 [a0, a1, a2, a3] (.int v :: st) h Q) := w_iaload dL_law_747
theorem XL_law_748 (he : iEv mX9_same [.ref p, .int x0, .int x1] h (some (.int rv)) h2) (ho : iObj h p 9 = true) : iWp 60 mL_law 748 [a0, a1, a2, a3] [.int x1, .int x0, .ref p, .int r0] h Q = iWp 60 mL_law 751 [a0, a1, a2, a3] [.int rv, .int r0] h2 Q := iWp_cV dL_law_748 fK_10_81 rfl rfl ho (Nat.le_of_ble_eq_true rfl) (Nat.le_of_ble_eq_true rfl) rfl (Nat.le_of_ble_eq_true rfl) he rfl
theorem XL_law_751 : iWp d mL_law 751 [a0, a1, a2, a3] (.int y :: .int x :: st) h Q = if x = y then iWp d mL_law 1465 [a0, a1, a2, a3] st h Q else iWp d mL_law 754 [a0, a1, a2, a3] st h Q := w_icmp_eq dL_law_751 rfl
theorem XL_law_754 : iWp d mL_law 754 [a0, a1, a2, a3] st h Q = iWp d mL_law 755 [a0, a1, a2, a3] (.int 0 :: st) h Q := w_iconst dL_law_754 rfl
theorem XL_law_755 : iWp d mL_law 755 [a0, a1, a2, a3] [.int (iB b)] h Q = Q (some (.int (iB b))) h := w_iretb dL_law_755 rfl
theorem XL_law_755z : iWp d mL_law 755 [a0, a1, a2, a3] [.int 0] h Q = Q (some (.int (iB false))) h := w_iretb (bb := false) dL_law_755 rfl
theorem XL_law_755o : iWp d mL_law 755 [a0, a1, a2, a3] [.int 1] h Q = Q (some (.int (iB true))) h := w_iretb (bb := true) dL_law_755 rfl
theorem XL_law_756 : iWp d mL_law 756 [a0, .ref p, a2, a3] st h Q = iWp d mL_law 757 [a0, .ref p, a2, a3] (.ref p :: st) h Q := w_aload_n dL_law_756 rfl
theorem XL_law_756n : iWp d mL_law 756 [a0, .null, a2, a3] st h Q = iWp d mL_law 757 [a0, .null, a2, a3] (.null :: st) h Q := w_aload_nN dL_law_756 rfl
theorem XL_law_757 : iWp d mL_law 757 [.ref p, a1, a2, a3] st h Q = iWp d mL_law 758 [.ref p, a1, a2, a3] (.ref p :: st) h Q := w_aload_n dL_law_757 rfl
theorem XL_law_757n : iWp d mL_law 757 [.null, a1, a2, a3] st h Q = iWp d mL_law 758 [.null, a1, a2, a3] (.null :: st) h Q := w_aload_nN dL_law_757 rfl
theorem XL_law_758 : iWp d mL_law 758 [a0, a1, a2, .int x] st h Q = iWp d mL_law 759 [a0, a1, a2, .int x] (.int x :: st) h Q := w_iload_n dL_law_758 rfl
theorem XL_law_759 : iWp d mL_law 759 [a0, a1, a2, a3] st h Q = iWp d mL_law 760 [a0, a1, a2, a3] (.int 1 :: st) h Q := w_iconst dL_law_759 rfl
theorem XL_law_760 : iWp d mL_law 760 [a0, a1, a2, a3] (.int y :: .int x :: st) h Q = iWp d mL_law 761 [a0, a1, a2, a3] (.int (x + y) :: st) h Q := w_iadd dL_law_760
theorem XL_law_761 : iWp d mL_law 761 [a0, a1, a2, a3] (.int x :: .ref p :: st) h Q = iOb (iLdI h p x) (fun v => iWp d mL_law 762 [a0, a1, a2, a3] (.int v :: st) h Q) := w_iaload dL_law_761
theorem XL_law_762 (he : iEv mX8_drop [.ref p, .int x0] h (some (.int rv)) h2) (ho : iObj h p 8 = true) : iWp 60 mL_law 762 [a0, a1, a2, a3] [.int x0, .ref p] h Q = iWp 60 mL_law 765 [a0, a1, a2, a3] [.int rv] h2 Q := iWp_cV dL_law_762 fK_10_82 rfl rfl ho (Nat.le_of_ble_eq_true rfl) (Nat.le_of_ble_eq_true rfl) rfl (Nat.le_of_ble_eq_true rfl) he rfl
theorem XL_law_765 : iWp d mL_law 765 [a0, a1, .ref p, a3] st h Q = iWp d mL_law 766 [a0, a1, .ref p, a3] (.ref p :: st) h Q := w_aload_n dL_law_765 rfl
theorem XL_law_765n : iWp d mL_law 765 [a0, a1, .null, a3] st h Q = iWp d mL_law 766 [a0, a1, .null, a3] (.null :: st) h Q := w_aload_nN dL_law_765 rfl
theorem XL_law_766 : iWp d mL_law 766 [.ref p, a1, a2, a3] st h Q = iWp d mL_law 767 [.ref p, a1, a2, a3] (.ref p :: st) h Q := w_aload_n dL_law_766 rfl
theorem XL_law_766n : iWp d mL_law 766 [.null, a1, a2, a3] st h Q = iWp d mL_law 767 [.null, a1, a2, a3] (.null :: st) h Q := w_aload_nN dL_law_766 rfl
theorem XL_law_767 : iWp d mL_law 767 [a0, a1, a2, .int x] st h Q = iWp d mL_law 768 [a0, a1, a2, .int x] (.int x :: st) h Q := w_iload_n dL_law_767 rfl
theorem XL_law_768 : iWp d mL_law 768 [a0, a1, a2, a3] st h Q = iWp d mL_law 769 [a0, a1, a2, a3] (.int 1 :: st) h Q := w_iconst dL_law_768 rfl
theorem XL_law_769 : iWp d mL_law 769 [a0, a1, a2, a3] (.int y :: .int x :: st) h Q = iWp d mL_law 770 [a0, a1, a2, a3] (.int (x + y) :: st) h Q := w_iadd dL_law_769
theorem XL_law_770 : iWp d mL_law 770 [a0, a1, a2, a3] (.int x :: .ref p :: st) h Q = iOb (iLdI h p x) (fun v => iWp d mL_law 771 [a0, a1, a2, a3] (.int v :: st) h Q) := w_iaload dL_law_770
theorem XL_law_771 (he : iEv mX9_drop [.ref p, .int x0] h (some (.int rv)) h2) (ho : iObj h p 9 = true) : iWp 60 mL_law 771 [a0, a1, a2, a3] [.int x0, .ref p, .int r0] h Q = iWp 60 mL_law 774 [a0, a1, a2, a3] [.int rv, .int r0] h2 Q := iWp_cV dL_law_771 fK_10_85 rfl rfl ho (Nat.le_of_ble_eq_true rfl) (Nat.le_of_ble_eq_true rfl) rfl (Nat.le_of_ble_eq_true rfl) he rfl
theorem XL_law_774 : iWp d mL_law 774 [a0, a1, a2, a3] (.int y :: .int x :: st) h Q = if x = y then iWp d mL_law 1465 [a0, a1, a2, a3] st h Q else iWp d mL_law 777 [a0, a1, a2, a3] st h Q := w_icmp_eq dL_law_774 rfl
theorem XL_law_777 : iWp d mL_law 777 [a0, a1, a2, a3] st h Q = iWp d mL_law 778 [a0, a1, a2, a3] (.int 0 :: st) h Q := w_iconst dL_law_777 rfl
theorem XL_law_778 : iWp d mL_law 778 [a0, a1, a2, a3] [.int (iB b)] h Q = Q (some (.int (iB b))) h := w_iretb dL_law_778 rfl
theorem XL_law_778z : iWp d mL_law 778 [a0, a1, a2, a3] [.int 0] h Q = Q (some (.int (iB false))) h := w_iretb (bb := false) dL_law_778 rfl
theorem XL_law_778o : iWp d mL_law 778 [a0, a1, a2, a3] [.int 1] h Q = Q (some (.int (iB true))) h := w_iretb (bb := true) dL_law_778 rfl
theorem XL_law_779 : iWp d mL_law 779 [a0, .ref p, a2, a3] st h Q = iWp d mL_law 780 [a0, .ref p, a2, a3] (.ref p :: st) h Q := w_aload_n dL_law_779 rfl
theorem XL_law_779n : iWp d mL_law 779 [a0, .null, a2, a3] st h Q = iWp d mL_law 780 [a0, .null, a2, a3] (.null :: st) h Q := w_aload_nN dL_law_779 rfl
theorem XL_law_780 : iWp d mL_law 780 [.ref p, a1, a2, a3] st h Q = iWp d mL_law 781 [.ref p, a1, a2, a3] (.ref p :: st) h Q := w_aload_n dL_law_780 rfl
theorem XL_law_780n : iWp d mL_law 780 [.null, a1, a2, a3] st h Q = iWp d mL_law 781 [.null, a1, a2, a3] (.null :: st) h Q := w_aload_nN dL_law_780 rfl
theorem XL_law_781 : iWp d mL_law 781 [a0, a1, a2, .int x] st h Q = iWp d mL_law 782 [a0, a1, a2, .int x] (.int x :: st) h Q := w_iload_n dL_law_781 rfl
theorem XL_law_782 : iWp d mL_law 782 [a0, a1, a2, a3] st h Q = iWp d mL_law 783 [a0, a1, a2, a3] (.int 1 :: st) h Q := w_iconst dL_law_782 rfl
theorem XL_law_783 : iWp d mL_law 783 [a0, a1, a2, a3] (.int y :: .int x :: st) h Q = iWp d mL_law 784 [a0, a1, a2, a3] (.int (x + y) :: st) h Q := w_iadd dL_law_783
theorem XL_law_784 : iWp d mL_law 784 [a0, a1, a2, a3] (.int x :: .ref p :: st) h Q = iOb (iLdI h p x) (fun v => iWp d mL_law 785 [a0, a1, a2, a3] (.int v :: st) h Q) := w_iaload dL_law_784
theorem XL_law_785 : iWp d mL_law 785 [.ref p, a1, a2, a3] st h Q = iWp d mL_law 786 [.ref p, a1, a2, a3] (.ref p :: st) h Q := w_aload_n dL_law_785 rfl
theorem XL_law_785n : iWp d mL_law 785 [.null, a1, a2, a3] st h Q = iWp d mL_law 786 [.null, a1, a2, a3] (.null :: st) h Q := w_aload_nN dL_law_785 rfl
theorem XL_law_786 : iWp d mL_law 786 [a0, a1, a2, .int x] st h Q = iWp d mL_law 787 [a0, a1, a2, .int x] (.int x :: st) h Q := w_iload_n dL_law_786 rfl
theorem XL_law_787 : iWp d mL_law 787 [a0, a1, a2, a3] st h Q = iWp d mL_law 788 [a0, a1, a2, a3] (.int 2 :: st) h Q := w_iconst dL_law_787 rfl
theorem XL_law_788 : iWp d mL_law 788 [a0, a1, a2, a3] (.int y :: .int x :: st) h Q = iWp d mL_law 789 [a0, a1, a2, a3] (.int (x + y) :: st) h Q := w_iadd dL_law_788
theorem XL_law_789 : iWp d mL_law 789 [a0, a1, a2, a3] (.int x :: .ref p :: st) h Q = iOb (iLdI h p x) (fun v => iWp d mL_law 790 [a0, a1, a2, a3] (.int v :: st) h Q) := w_iaload dL_law_789
theorem XL_law_790 (he : iEv mX8_difference [.ref p, .int x0, .int x1] h (some (.int rv)) h2) (ho : iObj h p 8 = true) : iWp 60 mL_law 790 [a0, a1, a2, a3] [.int x1, .int x0, .ref p] h Q = iWp 60 mL_law 793 [a0, a1, a2, a3] [.int rv] h2 Q := iWp_cV dL_law_790 fK_10_86 rfl rfl ho (Nat.le_of_ble_eq_true rfl) (Nat.le_of_ble_eq_true rfl) rfl (Nat.le_of_ble_eq_true rfl) he rfl
theorem XL_law_793 : iWp d mL_law 793 [a0, a1, .ref p, a3] st h Q = iWp d mL_law 794 [a0, a1, .ref p, a3] (.ref p :: st) h Q := w_aload_n dL_law_793 rfl
theorem XL_law_793n : iWp d mL_law 793 [a0, a1, .null, a3] st h Q = iWp d mL_law 794 [a0, a1, .null, a3] (.null :: st) h Q := w_aload_nN dL_law_793 rfl
theorem XL_law_794 : iWp d mL_law 794 [.ref p, a1, a2, a3] st h Q = iWp d mL_law 795 [.ref p, a1, a2, a3] (.ref p :: st) h Q := w_aload_n dL_law_794 rfl
theorem XL_law_794n : iWp d mL_law 794 [.null, a1, a2, a3] st h Q = iWp d mL_law 795 [.null, a1, a2, a3] (.null :: st) h Q := w_aload_nN dL_law_794 rfl
theorem XL_law_795 : iWp d mL_law 795 [a0, a1, a2, .int x] st h Q = iWp d mL_law 796 [a0, a1, a2, .int x] (.int x :: st) h Q := w_iload_n dL_law_795 rfl
theorem XL_law_796 : iWp d mL_law 796 [a0, a1, a2, a3] st h Q = iWp d mL_law 797 [a0, a1, a2, a3] (.int 1 :: st) h Q := w_iconst dL_law_796 rfl
theorem XL_law_797 : iWp d mL_law 797 [a0, a1, a2, a3] (.int y :: .int x :: st) h Q = iWp d mL_law 798 [a0, a1, a2, a3] (.int (x + y) :: st) h Q := w_iadd dL_law_797
theorem XL_law_798 : iWp d mL_law 798 [a0, a1, a2, a3] (.int x :: .ref p :: st) h Q = iOb (iLdI h p x) (fun v => iWp d mL_law 799 [a0, a1, a2, a3] (.int v :: st) h Q) := w_iaload dL_law_798
theorem XL_law_799 : iWp d mL_law 799 [.ref p, a1, a2, a3] st h Q = iWp d mL_law 800 [.ref p, a1, a2, a3] (.ref p :: st) h Q := w_aload_n dL_law_799 rfl
theorem XL_law_799n : iWp d mL_law 799 [.null, a1, a2, a3] st h Q = iWp d mL_law 800 [.null, a1, a2, a3] (.null :: st) h Q := w_aload_nN dL_law_799 rfl
theorem XL_law_800 : iWp d mL_law 800 [a0, a1, a2, .int x] st h Q = iWp d mL_law 801 [a0, a1, a2, .int x] (.int x :: st) h Q := w_iload_n dL_law_800 rfl
theorem XL_law_801 : iWp d mL_law 801 [a0, a1, a2, a3] st h Q = iWp d mL_law 802 [a0, a1, a2, a3] (.int 2 :: st) h Q := w_iconst dL_law_801 rfl
theorem XL_law_802 : iWp d mL_law 802 [a0, a1, a2, a3] (.int y :: .int x :: st) h Q = iWp d mL_law 803 [a0, a1, a2, a3] (.int (x + y) :: st) h Q := w_iadd dL_law_802
theorem XL_law_803 : iWp d mL_law 803 [a0, a1, a2, a3] (.int x :: .ref p :: st) h Q = iOb (iLdI h p x) (fun v => iWp d mL_law 804 [a0, a1, a2, a3] (.int v :: st) h Q) := w_iaload dL_law_803
theorem XL_law_804 (he : iEv mX9_difference [.ref p, .int x0, .int x1] h (some (.int rv)) h2) (ho : iObj h p 9 = true) : iWp 60 mL_law 804 [a0, a1, a2, a3] [.int x1, .int x0, .ref p, .int r0] h Q = iWp 60 mL_law 807 [a0, a1, a2, a3] [.int rv, .int r0] h2 Q := iWp_cV dL_law_804 fK_10_89 rfl rfl ho (Nat.le_of_ble_eq_true rfl) (Nat.le_of_ble_eq_true rfl) rfl (Nat.le_of_ble_eq_true rfl) he rfl
theorem XL_law_807 : iWp d mL_law 807 [a0, a1, a2, a3] (.int y :: .int x :: st) h Q = if x = y then iWp d mL_law 1465 [a0, a1, a2, a3] st h Q else iWp d mL_law 810 [a0, a1, a2, a3] st h Q := w_icmp_eq dL_law_807 rfl
theorem XL_law_810 : iWp d mL_law 810 [a0, a1, a2, a3] st h Q = iWp d mL_law 811 [a0, a1, a2, a3] (.int 0 :: st) h Q := w_iconst dL_law_810 rfl
theorem XL_law_811 : iWp d mL_law 811 [a0, a1, a2, a3] [.int (iB b)] h Q = Q (some (.int (iB b))) h := w_iretb dL_law_811 rfl
theorem XL_law_811z : iWp d mL_law 811 [a0, a1, a2, a3] [.int 0] h Q = Q (some (.int (iB false))) h := w_iretb (bb := false) dL_law_811 rfl
theorem XL_law_811o : iWp d mL_law 811 [a0, a1, a2, a3] [.int 1] h Q = Q (some (.int (iB true))) h := w_iretb (bb := true) dL_law_811 rfl
theorem XL_law_812 : iWp d mL_law 812 [a0, .ref p, a2, a3] st h Q = iWp d mL_law 813 [a0, .ref p, a2, a3] (.ref p :: st) h Q := w_aload_n dL_law_812 rfl
theorem XL_law_812n : iWp d mL_law 812 [a0, .null, a2, a3] st h Q = iWp d mL_law 813 [a0, .null, a2, a3] (.null :: st) h Q := w_aload_nN dL_law_812 rfl
theorem XL_law_813 : iWp d mL_law 813 [.ref p, a1, a2, a3] st h Q = iWp d mL_law 814 [.ref p, a1, a2, a3] (.ref p :: st) h Q := w_aload_n dL_law_813 rfl
theorem XL_law_813n : iWp d mL_law 813 [.null, a1, a2, a3] st h Q = iWp d mL_law 814 [.null, a1, a2, a3] (.null :: st) h Q := w_aload_nN dL_law_813 rfl
theorem XL_law_814 : iWp d mL_law 814 [a0, a1, a2, .int x] st h Q = iWp d mL_law 815 [a0, a1, a2, .int x] (.int x :: st) h Q := w_iload_n dL_law_814 rfl
theorem XL_law_815 : iWp d mL_law 815 [a0, a1, a2, a3] st h Q = iWp d mL_law 816 [a0, a1, a2, a3] (.int 1 :: st) h Q := w_iconst dL_law_815 rfl
theorem XL_law_816 : iWp d mL_law 816 [a0, a1, a2, a3] (.int y :: .int x :: st) h Q = iWp d mL_law 817 [a0, a1, a2, a3] (.int (x + y) :: st) h Q := w_iadd dL_law_816
theorem XL_law_817 : iWp d mL_law 817 [a0, a1, a2, a3] (.int x :: .ref p :: st) h Q = iOb (iLdI h p x) (fun v => iWp d mL_law 818 [a0, a1, a2, a3] (.int v :: st) h Q) := w_iaload dL_law_817
theorem XL_law_818 : iWp d mL_law 818 [.ref p, a1, a2, a3] st h Q = iWp d mL_law 819 [.ref p, a1, a2, a3] (.ref p :: st) h Q := w_aload_n dL_law_818 rfl
theorem XL_law_818n : iWp d mL_law 818 [.null, a1, a2, a3] st h Q = iWp d mL_law 819 [.null, a1, a2, a3] (.null :: st) h Q := w_aload_nN dL_law_818 rfl
theorem XL_law_819 : iWp d mL_law 819 [a0, a1, a2, .int x] st h Q = iWp d mL_law 820 [a0, a1, a2, .int x] (.int x :: st) h Q := w_iload_n dL_law_819 rfl
theorem XL_law_820 : iWp d mL_law 820 [a0, a1, a2, a3] st h Q = iWp d mL_law 821 [a0, a1, a2, a3] (.int 2 :: st) h Q := w_iconst dL_law_820 rfl
theorem XL_law_821 : iWp d mL_law 821 [a0, a1, a2, a3] (.int y :: .int x :: st) h Q = iWp d mL_law 822 [a0, a1, a2, a3] (.int (x + y) :: st) h Q := w_iadd dL_law_821
theorem XL_law_822 : iWp d mL_law 822 [a0, a1, a2, a3] (.int x :: .ref p :: st) h Q = iOb (iLdI h p x) (fun v => iWp d mL_law 823 [a0, a1, a2, a3] (.int v :: st) h Q) := w_iaload dL_law_822
theorem XL_law_823 (he : iEv mX8_far [.ref p, .int x0, .int x1] h (some (.int rv)) h2) (ho : iObj h p 8 = true) : iWp 60 mL_law 823 [a0, a1, a2, a3] [.int x1, .int x0, .ref p] h Q = iWp 60 mL_law 826 [a0, a1, a2, a3] [.int rv] h2 Q := iWp_cV dL_law_823 fK_10_90 rfl rfl ho (Nat.le_of_ble_eq_true rfl) (Nat.le_of_ble_eq_true rfl) rfl (Nat.le_of_ble_eq_true rfl) he rfl
theorem XL_law_826 : iWp d mL_law 826 [a0, a1, .ref p, a3] st h Q = iWp d mL_law 827 [a0, a1, .ref p, a3] (.ref p :: st) h Q := w_aload_n dL_law_826 rfl
theorem XL_law_826n : iWp d mL_law 826 [a0, a1, .null, a3] st h Q = iWp d mL_law 827 [a0, a1, .null, a3] (.null :: st) h Q := w_aload_nN dL_law_826 rfl
theorem XL_law_827 : iWp d mL_law 827 [.ref p, a1, a2, a3] st h Q = iWp d mL_law 828 [.ref p, a1, a2, a3] (.ref p :: st) h Q := w_aload_n dL_law_827 rfl
theorem XL_law_827n : iWp d mL_law 827 [.null, a1, a2, a3] st h Q = iWp d mL_law 828 [.null, a1, a2, a3] (.null :: st) h Q := w_aload_nN dL_law_827 rfl
theorem XL_law_828 : iWp d mL_law 828 [a0, a1, a2, .int x] st h Q = iWp d mL_law 829 [a0, a1, a2, .int x] (.int x :: st) h Q := w_iload_n dL_law_828 rfl
theorem XL_law_829 : iWp d mL_law 829 [a0, a1, a2, a3] st h Q = iWp d mL_law 830 [a0, a1, a2, a3] (.int 1 :: st) h Q := w_iconst dL_law_829 rfl
theorem XL_law_830 : iWp d mL_law 830 [a0, a1, a2, a3] (.int y :: .int x :: st) h Q = iWp d mL_law 831 [a0, a1, a2, a3] (.int (x + y) :: st) h Q := w_iadd dL_law_830
theorem XL_law_831 : iWp d mL_law 831 [a0, a1, a2, a3] (.int x :: .ref p :: st) h Q = iOb (iLdI h p x) (fun v => iWp d mL_law 832 [a0, a1, a2, a3] (.int v :: st) h Q) := w_iaload dL_law_831
theorem XL_law_832 : iWp d mL_law 832 [.ref p, a1, a2, a3] st h Q = iWp d mL_law 833 [.ref p, a1, a2, a3] (.ref p :: st) h Q := w_aload_n dL_law_832 rfl
theorem XL_law_832n : iWp d mL_law 832 [.null, a1, a2, a3] st h Q = iWp d mL_law 833 [.null, a1, a2, a3] (.null :: st) h Q := w_aload_nN dL_law_832 rfl
theorem XL_law_833 : iWp d mL_law 833 [a0, a1, a2, .int x] st h Q = iWp d mL_law 834 [a0, a1, a2, .int x] (.int x :: st) h Q := w_iload_n dL_law_833 rfl
theorem XL_law_834 : iWp d mL_law 834 [a0, a1, a2, a3] st h Q = iWp d mL_law 835 [a0, a1, a2, a3] (.int 2 :: st) h Q := w_iconst dL_law_834 rfl
theorem XL_law_835 : iWp d mL_law 835 [a0, a1, a2, a3] (.int y :: .int x :: st) h Q = iWp d mL_law 836 [a0, a1, a2, a3] (.int (x + y) :: st) h Q := w_iadd dL_law_835
theorem XL_law_836 : iWp d mL_law 836 [a0, a1, a2, a3] (.int x :: .ref p :: st) h Q = iOb (iLdI h p x) (fun v => iWp d mL_law 837 [a0, a1, a2, a3] (.int v :: st) h Q) := w_iaload dL_law_836
theorem XL_law_837 (he : iEv mX9_far [.ref p, .int x0, .int x1] h (some (.int rv)) h2) (ho : iObj h p 9 = true) : iWp 60 mL_law 837 [a0, a1, a2, a3] [.int x1, .int x0, .ref p, .int r0] h Q = iWp 60 mL_law 840 [a0, a1, a2, a3] [.int rv, .int r0] h2 Q := iWp_cV dL_law_837 fK_10_93 rfl rfl ho (Nat.le_of_ble_eq_true rfl) (Nat.le_of_ble_eq_true rfl) rfl (Nat.le_of_ble_eq_true rfl) he rfl
theorem XL_law_840 : iWp d mL_law 840 [a0, a1, a2, a3] (.int y :: .int x :: st) h Q = if x = y then iWp d mL_law 1465 [a0, a1, a2, a3] st h Q else iWp d mL_law 843 [a0, a1, a2, a3] st h Q := w_icmp_eq dL_law_840 rfl
theorem XL_law_843 : iWp d mL_law 843 [a0, a1, a2, a3] st h Q = iWp d mL_law 844 [a0, a1, a2, a3] (.int 0 :: st) h Q := w_iconst dL_law_843 rfl
theorem XL_law_844 : iWp d mL_law 844 [a0, a1, a2, a3] [.int (iB b)] h Q = Q (some (.int (iB b))) h := w_iretb dL_law_844 rfl
theorem XL_law_844z : iWp d mL_law 844 [a0, a1, a2, a3] [.int 0] h Q = Q (some (.int (iB false))) h := w_iretb (bb := false) dL_law_844 rfl
theorem XL_law_844o : iWp d mL_law 844 [a0, a1, a2, a3] [.int 1] h Q = Q (some (.int (iB true))) h := w_iretb (bb := true) dL_law_844 rfl
theorem XL_law_845 : iWp d mL_law 845 [a0, .ref p, a2, a3] st h Q = iWp d mL_law 846 [a0, .ref p, a2, a3] (.ref p :: st) h Q := w_aload_n dL_law_845 rfl
theorem XL_law_845n : iWp d mL_law 845 [a0, .null, a2, a3] st h Q = iWp d mL_law 846 [a0, .null, a2, a3] (.null :: st) h Q := w_aload_nN dL_law_845 rfl
theorem XL_law_846 : iWp d mL_law 846 [.ref p, a1, a2, a3] st h Q = iWp d mL_law 847 [.ref p, a1, a2, a3] (.ref p :: st) h Q := w_aload_n dL_law_846 rfl
theorem XL_law_846n : iWp d mL_law 846 [.null, a1, a2, a3] st h Q = iWp d mL_law 847 [.null, a1, a2, a3] (.null :: st) h Q := w_aload_nN dL_law_846 rfl
theorem XL_law_847 : iWp d mL_law 847 [a0, a1, a2, .int x] st h Q = iWp d mL_law 848 [a0, a1, a2, .int x] (.int x :: st) h Q := w_iload_n dL_law_847 rfl
theorem XL_law_848 : iWp d mL_law 848 [a0, a1, a2, a3] st h Q = iWp d mL_law 849 [a0, a1, a2, a3] (.int 1 :: st) h Q := w_iconst dL_law_848 rfl
theorem XL_law_849 : iWp d mL_law 849 [a0, a1, a2, a3] (.int y :: .int x :: st) h Q = iWp d mL_law 850 [a0, a1, a2, a3] (.int (x + y) :: st) h Q := w_iadd dL_law_849
theorem XL_law_850 : iWp d mL_law 850 [a0, a1, a2, a3] (.int x :: .ref p :: st) h Q = iOb (iLdI h p x) (fun v => iWp d mL_law 851 [a0, a1, a2, a3] (.int v :: st) h Q) := w_iaload dL_law_850
theorem XL_law_851 : iWp d mL_law 851 [.ref p, a1, a2, a3] st h Q = iWp d mL_law 852 [.ref p, a1, a2, a3] (.ref p :: st) h Q := w_aload_n dL_law_851 rfl
theorem XL_law_851n : iWp d mL_law 851 [.null, a1, a2, a3] st h Q = iWp d mL_law 852 [.null, a1, a2, a3] (.null :: st) h Q := w_aload_nN dL_law_851 rfl
theorem XL_law_852 : iWp d mL_law 852 [a0, a1, a2, .int x] st h Q = iWp d mL_law 853 [a0, a1, a2, .int x] (.int x :: st) h Q := w_iload_n dL_law_852 rfl
theorem XL_law_853 : iWp d mL_law 853 [a0, a1, a2, a3] st h Q = iWp d mL_law 854 [a0, a1, a2, a3] (.int 2 :: st) h Q := w_iconst dL_law_853 rfl
theorem XL_law_854 : iWp d mL_law 854 [a0, a1, a2, a3] (.int y :: .int x :: st) h Q = iWp d mL_law 855 [a0, a1, a2, a3] (.int (x + y) :: st) h Q := w_iadd dL_law_854
theorem XL_law_855 : iWp d mL_law 855 [a0, a1, a2, a3] (.int x :: .ref p :: st) h Q = iOb (iLdI h p x) (fun v => iWp d mL_law 856 [a0, a1, a2, a3] (.int v :: st) h Q) := w_iaload dL_law_855
theorem XL_law_856 (he : iEv mX8_moves [.ref p, .int x0, .int x1] h (some (.int rv)) h2) (ho : iObj h p 8 = true) : iWp 60 mL_law 856 [a0, a1, a2, a3] [.int x1, .int x0, .ref p] h Q = iWp 60 mL_law 859 [a0, a1, a2, a3] [.int rv] h2 Q := iWp_cV dL_law_856 fK_10_94 rfl rfl ho (Nat.le_of_ble_eq_true rfl) (Nat.le_of_ble_eq_true rfl) rfl (Nat.le_of_ble_eq_true rfl) he rfl
theorem XL_law_859 : iWp d mL_law 859 [a0, a1, .ref p, a3] st h Q = iWp d mL_law 860 [a0, a1, .ref p, a3] (.ref p :: st) h Q := w_aload_n dL_law_859 rfl
theorem XL_law_859n : iWp d mL_law 859 [a0, a1, .null, a3] st h Q = iWp d mL_law 860 [a0, a1, .null, a3] (.null :: st) h Q := w_aload_nN dL_law_859 rfl
theorem XL_law_860 : iWp d mL_law 860 [.ref p, a1, a2, a3] st h Q = iWp d mL_law 861 [.ref p, a1, a2, a3] (.ref p :: st) h Q := w_aload_n dL_law_860 rfl
theorem XL_law_860n : iWp d mL_law 860 [.null, a1, a2, a3] st h Q = iWp d mL_law 861 [.null, a1, a2, a3] (.null :: st) h Q := w_aload_nN dL_law_860 rfl
theorem XL_law_861 : iWp d mL_law 861 [a0, a1, a2, .int x] st h Q = iWp d mL_law 862 [a0, a1, a2, .int x] (.int x :: st) h Q := w_iload_n dL_law_861 rfl
theorem XL_law_862 : iWp d mL_law 862 [a0, a1, a2, a3] st h Q = iWp d mL_law 863 [a0, a1, a2, a3] (.int 1 :: st) h Q := w_iconst dL_law_862 rfl
theorem XL_law_863 : iWp d mL_law 863 [a0, a1, a2, a3] (.int y :: .int x :: st) h Q = iWp d mL_law 864 [a0, a1, a2, a3] (.int (x + y) :: st) h Q := w_iadd dL_law_863
theorem XL_law_864 : iWp d mL_law 864 [a0, a1, a2, a3] (.int x :: .ref p :: st) h Q = iOb (iLdI h p x) (fun v => iWp d mL_law 865 [a0, a1, a2, a3] (.int v :: st) h Q) := w_iaload dL_law_864
theorem XL_law_865 : iWp d mL_law 865 [.ref p, a1, a2, a3] st h Q = iWp d mL_law 866 [.ref p, a1, a2, a3] (.ref p :: st) h Q := w_aload_n dL_law_865 rfl
theorem XL_law_865n : iWp d mL_law 865 [.null, a1, a2, a3] st h Q = iWp d mL_law 866 [.null, a1, a2, a3] (.null :: st) h Q := w_aload_nN dL_law_865 rfl
theorem XL_law_866 : iWp d mL_law 866 [a0, a1, a2, .int x] st h Q = iWp d mL_law 867 [a0, a1, a2, .int x] (.int x :: st) h Q := w_iload_n dL_law_866 rfl
theorem XL_law_867 : iWp d mL_law 867 [a0, a1, a2, a3] st h Q = iWp d mL_law 868 [a0, a1, a2, a3] (.int 2 :: st) h Q := w_iconst dL_law_867 rfl
theorem XL_law_868 : iWp d mL_law 868 [a0, a1, a2, a3] (.int y :: .int x :: st) h Q = iWp d mL_law 869 [a0, a1, a2, a3] (.int (x + y) :: st) h Q := w_iadd dL_law_868
theorem XL_law_869 : iWp d mL_law 869 [a0, a1, a2, a3] (.int x :: .ref p :: st) h Q = iOb (iLdI h p x) (fun v => iWp d mL_law 870 [a0, a1, a2, a3] (.int v :: st) h Q) := w_iaload dL_law_869
theorem XL_law_870 (he : iEv mX9_moves_ [.ref p, .int x0, .int x1] h (some (.int rv)) h2) (ho : iObj h p 9 = true) : iWp 60 mL_law 870 [a0, a1, a2, a3] [.int x1, .int x0, .ref p, .int r0] h Q = iWp 60 mL_law 873 [a0, a1, a2, a3] [.int rv, .int r0] h2 Q := iWp_cV dL_law_870 fK_10_97 rfl rfl ho (Nat.le_of_ble_eq_true rfl) (Nat.le_of_ble_eq_true rfl) rfl (Nat.le_of_ble_eq_true rfl) he rfl
theorem XL_law_873 : iWp d mL_law 873 [a0, a1, a2, a3] (.int y :: .int x :: st) h Q = if x = y then iWp d mL_law 1465 [a0, a1, a2, a3] st h Q else iWp d mL_law 876 [a0, a1, a2, a3] st h Q := w_icmp_eq dL_law_873 rfl
theorem XL_law_876 : iWp d mL_law 876 [a0, a1, a2, a3] st h Q = iWp d mL_law 877 [a0, a1, a2, a3] (.int 0 :: st) h Q := w_iconst dL_law_876 rfl
theorem XL_law_877 : iWp d mL_law 877 [a0, a1, a2, a3] [.int (iB b)] h Q = Q (some (.int (iB b))) h := w_iretb dL_law_877 rfl
theorem XL_law_877z : iWp d mL_law 877 [a0, a1, a2, a3] [.int 0] h Q = Q (some (.int (iB false))) h := w_iretb (bb := false) dL_law_877 rfl
theorem XL_law_877o : iWp d mL_law 877 [a0, a1, a2, a3] [.int 1] h Q = Q (some (.int (iB true))) h := w_iretb (bb := true) dL_law_877 rfl
theorem XL_law_878 : iWp d mL_law 878 [a0, .ref p, a2, a3] st h Q = iWp d mL_law 879 [a0, .ref p, a2, a3] (.ref p :: st) h Q := w_aload_n dL_law_878 rfl
theorem XL_law_878n : iWp d mL_law 878 [a0, .null, a2, a3] st h Q = iWp d mL_law 879 [a0, .null, a2, a3] (.null :: st) h Q := w_aload_nN dL_law_878 rfl
theorem XL_law_879 : iWp d mL_law 879 [.ref p, a1, a2, a3] st h Q = iWp d mL_law 880 [.ref p, a1, a2, a3] (.ref p :: st) h Q := w_aload_n dL_law_879 rfl
theorem XL_law_879n : iWp d mL_law 879 [.null, a1, a2, a3] st h Q = iWp d mL_law 880 [.null, a1, a2, a3] (.null :: st) h Q := w_aload_nN dL_law_879 rfl
theorem XL_law_880 : iWp d mL_law 880 [a0, a1, a2, .int x] st h Q = iWp d mL_law 881 [a0, a1, a2, .int x] (.int x :: st) h Q := w_iload_n dL_law_880 rfl
theorem XL_law_881 : iWp d mL_law 881 [a0, a1, a2, a3] st h Q = iWp d mL_law 882 [a0, a1, a2, a3] (.int 1 :: st) h Q := w_iconst dL_law_881 rfl
theorem XL_law_882 : iWp d mL_law 882 [a0, a1, a2, a3] (.int y :: .int x :: st) h Q = iWp d mL_law 883 [a0, a1, a2, a3] (.int (x + y) :: st) h Q := w_iadd dL_law_882
theorem XL_law_883 : iWp d mL_law 883 [a0, a1, a2, a3] (.int x :: .ref p :: st) h Q = iOb (iLdI h p x) (fun v => iWp d mL_law 884 [a0, a1, a2, a3] (.int v :: st) h Q) := w_iaload dL_law_883
theorem XL_law_884 : iWp d mL_law 884 [.ref p, a1, a2, a3] st h Q = iWp d mL_law 885 [.ref p, a1, a2, a3] (.ref p :: st) h Q := w_aload_n dL_law_884 rfl
theorem XL_law_884n : iWp d mL_law 884 [.null, a1, a2, a3] st h Q = iWp d mL_law 885 [.null, a1, a2, a3] (.null :: st) h Q := w_aload_nN dL_law_884 rfl
theorem XL_law_885 : iWp d mL_law 885 [a0, a1, a2, .int x] st h Q = iWp d mL_law 886 [a0, a1, a2, .int x] (.int x :: st) h Q := w_iload_n dL_law_885 rfl
theorem XL_law_886 : iWp d mL_law 886 [a0, a1, a2, a3] st h Q = iWp d mL_law 887 [a0, a1, a2, a3] (.int 2 :: st) h Q := w_iconst dL_law_886 rfl
theorem XL_law_887 : iWp d mL_law 887 [a0, a1, a2, a3] (.int y :: .int x :: st) h Q = iWp d mL_law 888 [a0, a1, a2, a3] (.int (x + y) :: st) h Q := w_iadd dL_law_887
theorem XL_law_888 : iWp d mL_law 888 [a0, a1, a2, a3] (.int x :: .ref p :: st) h Q = iOb (iLdI h p x) (fun v => iWp d mL_law 889 [a0, a1, a2, a3] (.int v :: st) h Q) := w_iaload dL_law_888
theorem XL_law_889 (he : iEv mX8_patchOf [.ref p, .int x0, .int x1] h (some (.int rv)) h2) (ho : iObj h p 8 = true) : iWp 60 mL_law 889 [a0, a1, a2, a3] [.int x1, .int x0, .ref p] h Q = iWp 60 mL_law 892 [a0, a1, a2, a3] [.int rv] h2 Q := iWp_cV dL_law_889 fK_10_98 rfl rfl ho (Nat.le_of_ble_eq_true rfl) (Nat.le_of_ble_eq_true rfl) rfl (Nat.le_of_ble_eq_true rfl) he rfl
theorem XL_law_892 : iWp d mL_law 892 [a0, a1, .ref p, a3] st h Q = iWp d mL_law 893 [a0, a1, .ref p, a3] (.ref p :: st) h Q := w_aload_n dL_law_892 rfl
theorem XL_law_892n : iWp d mL_law 892 [a0, a1, .null, a3] st h Q = iWp d mL_law 893 [a0, a1, .null, a3] (.null :: st) h Q := w_aload_nN dL_law_892 rfl
theorem XL_law_893 : iWp d mL_law 893 [.ref p, a1, a2, a3] st h Q = iWp d mL_law 894 [.ref p, a1, a2, a3] (.ref p :: st) h Q := w_aload_n dL_law_893 rfl
theorem XL_law_893n : iWp d mL_law 893 [.null, a1, a2, a3] st h Q = iWp d mL_law 894 [.null, a1, a2, a3] (.null :: st) h Q := w_aload_nN dL_law_893 rfl
theorem XL_law_894 : iWp d mL_law 894 [a0, a1, a2, .int x] st h Q = iWp d mL_law 895 [a0, a1, a2, .int x] (.int x :: st) h Q := w_iload_n dL_law_894 rfl
theorem XL_law_895 : iWp d mL_law 895 [a0, a1, a2, a3] st h Q = iWp d mL_law 896 [a0, a1, a2, a3] (.int 1 :: st) h Q := w_iconst dL_law_895 rfl
theorem XL_law_896 : iWp d mL_law 896 [a0, a1, a2, a3] (.int y :: .int x :: st) h Q = iWp d mL_law 897 [a0, a1, a2, a3] (.int (x + y) :: st) h Q := w_iadd dL_law_896
theorem XL_law_897 : iWp d mL_law 897 [a0, a1, a2, a3] (.int x :: .ref p :: st) h Q = iOb (iLdI h p x) (fun v => iWp d mL_law 898 [a0, a1, a2, a3] (.int v :: st) h Q) := w_iaload dL_law_897
theorem XL_law_898 : iWp d mL_law 898 [.ref p, a1, a2, a3] st h Q = iWp d mL_law 899 [.ref p, a1, a2, a3] (.ref p :: st) h Q := w_aload_n dL_law_898 rfl
theorem XL_law_898n : iWp d mL_law 898 [.null, a1, a2, a3] st h Q = iWp d mL_law 899 [.null, a1, a2, a3] (.null :: st) h Q := w_aload_nN dL_law_898 rfl
theorem XL_law_899 : iWp d mL_law 899 [a0, a1, a2, .int x] st h Q = iWp d mL_law 900 [a0, a1, a2, .int x] (.int x :: st) h Q := w_iload_n dL_law_899 rfl
theorem XL_law_900 : iWp d mL_law 900 [a0, a1, a2, a3] st h Q = iWp d mL_law 901 [a0, a1, a2, a3] (.int 2 :: st) h Q := w_iconst dL_law_900 rfl
theorem XL_law_901 : iWp d mL_law 901 [a0, a1, a2, a3] (.int y :: .int x :: st) h Q = iWp d mL_law 902 [a0, a1, a2, a3] (.int (x + y) :: st) h Q := w_iadd dL_law_901
theorem XL_law_902 : iWp d mL_law 902 [a0, a1, a2, a3] (.int x :: .ref p :: st) h Q = iOb (iLdI h p x) (fun v => iWp d mL_law 903 [a0, a1, a2, a3] (.int v :: st) h Q) := w_iaload dL_law_902
theorem XL_law_903 (he : iEv mX9_patchOf [.ref p, .int x0, .int x1] h (some (.int rv)) h2) (ho : iObj h p 9 = true) : iWp 60 mL_law 903 [a0, a1, a2, a3] [.int x1, .int x0, .ref p, .int r0] h Q = iWp 60 mL_law 906 [a0, a1, a2, a3] [.int rv, .int r0] h2 Q := iWp_cV dL_law_903 fK_10_101 rfl rfl ho (Nat.le_of_ble_eq_true rfl) (Nat.le_of_ble_eq_true rfl) rfl (Nat.le_of_ble_eq_true rfl) he rfl
theorem XL_law_906 : iWp d mL_law 906 [a0, a1, a2, a3] (.int y :: .int x :: st) h Q = if x = y then iWp d mL_law 1465 [a0, a1, a2, a3] st h Q else iWp d mL_law 909 [a0, a1, a2, a3] st h Q := w_icmp_eq dL_law_906 rfl
theorem XL_law_909 : iWp d mL_law 909 [a0, a1, a2, a3] st h Q = iWp d mL_law 910 [a0, a1, a2, a3] (.int 0 :: st) h Q := w_iconst dL_law_909 rfl
theorem XL_law_910 : iWp d mL_law 910 [a0, a1, a2, a3] [.int (iB b)] h Q = Q (some (.int (iB b))) h := w_iretb dL_law_910 rfl
theorem XL_law_910z : iWp d mL_law 910 [a0, a1, a2, a3] [.int 0] h Q = Q (some (.int (iB false))) h := w_iretb (bb := false) dL_law_910 rfl
theorem XL_law_910o : iWp d mL_law 910 [a0, a1, a2, a3] [.int 1] h Q = Q (some (.int (iB true))) h := w_iretb (bb := true) dL_law_910 rfl
theorem XL_law_911 : iWp d mL_law 911 [a0, .ref p, a2, a3] st h Q = iWp d mL_law 912 [a0, .ref p, a2, a3] (.ref p :: st) h Q := w_aload_n dL_law_911 rfl
theorem XL_law_911n : iWp d mL_law 911 [a0, .null, a2, a3] st h Q = iWp d mL_law 912 [a0, .null, a2, a3] (.null :: st) h Q := w_aload_nN dL_law_911 rfl
theorem XL_law_912 : iWp d mL_law 912 [.ref p, a1, a2, a3] st h Q = iWp d mL_law 913 [.ref p, a1, a2, a3] (.ref p :: st) h Q := w_aload_n dL_law_912 rfl
theorem XL_law_912n : iWp d mL_law 912 [.null, a1, a2, a3] st h Q = iWp d mL_law 913 [.null, a1, a2, a3] (.null :: st) h Q := w_aload_nN dL_law_912 rfl
theorem XL_law_913 : iWp d mL_law 913 [a0, a1, a2, .int x] st h Q = iWp d mL_law 914 [a0, a1, a2, .int x] (.int x :: st) h Q := w_iload_n dL_law_913 rfl
theorem XL_law_914 : iWp d mL_law 914 [a0, a1, a2, a3] st h Q = iWp d mL_law 915 [a0, a1, a2, a3] (.int 1 :: st) h Q := w_iconst dL_law_914 rfl
theorem XL_law_915 : iWp d mL_law 915 [a0, a1, a2, a3] (.int y :: .int x :: st) h Q = iWp d mL_law 916 [a0, a1, a2, a3] (.int (x + y) :: st) h Q := w_iadd dL_law_915
theorem XL_law_916 : iWp d mL_law 916 [a0, a1, a2, a3] (.int x :: .ref p :: st) h Q = iOb (iLdI h p x) (fun v => iWp d mL_law 917 [a0, a1, a2, a3] (.int v :: st) h Q) := w_iaload dL_law_916
theorem XL_law_917 : iWp d mL_law 917 [.ref p, a1, a2, a3] st h Q = iWp d mL_law 918 [.ref p, a1, a2, a3] (.ref p :: st) h Q := w_aload_n dL_law_917 rfl
theorem XL_law_917n : iWp d mL_law 917 [.null, a1, a2, a3] st h Q = iWp d mL_law 918 [.null, a1, a2, a3] (.null :: st) h Q := w_aload_nN dL_law_917 rfl
theorem XL_law_918 : iWp d mL_law 918 [a0, a1, a2, .int x] st h Q = iWp d mL_law 919 [a0, a1, a2, .int x] (.int x :: st) h Q := w_iload_n dL_law_918 rfl
theorem XL_law_919 : iWp d mL_law 919 [a0, a1, a2, a3] st h Q = iWp d mL_law 920 [a0, a1, a2, a3] (.int 2 :: st) h Q := w_iconst dL_law_919 rfl
theorem XL_law_920 : iWp d mL_law 920 [a0, a1, a2, a3] (.int y :: .int x :: st) h Q = iWp d mL_law 921 [a0, a1, a2, a3] (.int (x + y) :: st) h Q := w_iadd dL_law_920
theorem XL_law_921 : iWp d mL_law 921 [a0, a1, a2, a3] (.int x :: .ref p :: st) h Q = iOb (iLdI h p x) (fun v => iWp d mL_law 922 [a0, a1, a2, a3] (.int v :: st) h Q) := w_iaload dL_law_921
theorem XL_law_922 : iWp d mL_law 922 [.ref p, a1, a2, a3] st h Q = iWp d mL_law 923 [.ref p, a1, a2, a3] (.ref p :: st) h Q := w_aload_n dL_law_922 rfl
theorem XL_law_922n : iWp d mL_law 922 [.null, a1, a2, a3] st h Q = iWp d mL_law 923 [.null, a1, a2, a3] (.null :: st) h Q := w_aload_nN dL_law_922 rfl
theorem XL_law_923 : iWp d mL_law 923 [a0, a1, a2, .int x] st h Q = iWp d mL_law 924 [a0, a1, a2, .int x] (.int x :: st) h Q := w_iload_n dL_law_923 rfl
theorem XL_law_924 : iWp d mL_law 924 [a0, a1, a2, a3] st h Q = iWp d mL_law 925 [a0, a1, a2, a3] (.int 3 :: st) h Q := w_iconst dL_law_924 rfl
theorem XL_law_925 : iWp d mL_law 925 [a0, a1, a2, a3] (.int y :: .int x :: st) h Q = iWp d mL_law 926 [a0, a1, a2, a3] (.int (x + y) :: st) h Q := w_iadd dL_law_925
theorem XL_law_926 : iWp d mL_law 926 [a0, a1, a2, a3] (.int x :: .ref p :: st) h Q = iOb (iLdI h p x) (fun v => iWp d mL_law 927 [a0, a1, a2, a3] (.int v :: st) h Q) := w_iaload dL_law_926
theorem XL_law_927 (he : iEv mX8_edit [.ref p, .int x0, .int x1, .int x2] h (some (.int rv)) h2) (ho : iObj h p 8 = true) : iWp 60 mL_law 927 [a0, a1, a2, a3] [.int x2, .int x1, .int x0, .ref p] h Q = iWp 60 mL_law 930 [a0, a1, a2, a3] [.int rv] h2 Q := iWp_cV dL_law_927 fK_10_102 rfl rfl ho (Nat.le_of_ble_eq_true rfl) (Nat.le_of_ble_eq_true rfl) rfl (Nat.le_of_ble_eq_true rfl) he rfl
theorem XL_law_930 : iWp d mL_law 930 [a0, a1, .ref p, a3] st h Q = iWp d mL_law 931 [a0, a1, .ref p, a3] (.ref p :: st) h Q := w_aload_n dL_law_930 rfl
theorem XL_law_930n : iWp d mL_law 930 [a0, a1, .null, a3] st h Q = iWp d mL_law 931 [a0, a1, .null, a3] (.null :: st) h Q := w_aload_nN dL_law_930 rfl
theorem XL_law_931 : iWp d mL_law 931 [.ref p, a1, a2, a3] st h Q = iWp d mL_law 932 [.ref p, a1, a2, a3] (.ref p :: st) h Q := w_aload_n dL_law_931 rfl
theorem XL_law_931n : iWp d mL_law 931 [.null, a1, a2, a3] st h Q = iWp d mL_law 932 [.null, a1, a2, a3] (.null :: st) h Q := w_aload_nN dL_law_931 rfl
theorem XL_law_932 : iWp d mL_law 932 [a0, a1, a2, .int x] st h Q = iWp d mL_law 933 [a0, a1, a2, .int x] (.int x :: st) h Q := w_iload_n dL_law_932 rfl
theorem XL_law_933 : iWp d mL_law 933 [a0, a1, a2, a3] st h Q = iWp d mL_law 934 [a0, a1, a2, a3] (.int 1 :: st) h Q := w_iconst dL_law_933 rfl
theorem XL_law_934 : iWp d mL_law 934 [a0, a1, a2, a3] (.int y :: .int x :: st) h Q = iWp d mL_law 935 [a0, a1, a2, a3] (.int (x + y) :: st) h Q := w_iadd dL_law_934
theorem XL_law_935 : iWp d mL_law 935 [a0, a1, a2, a3] (.int x :: .ref p :: st) h Q = iOb (iLdI h p x) (fun v => iWp d mL_law 936 [a0, a1, a2, a3] (.int v :: st) h Q) := w_iaload dL_law_935
theorem XL_law_936 : iWp d mL_law 936 [.ref p, a1, a2, a3] st h Q = iWp d mL_law 937 [.ref p, a1, a2, a3] (.ref p :: st) h Q := w_aload_n dL_law_936 rfl
theorem XL_law_936n : iWp d mL_law 936 [.null, a1, a2, a3] st h Q = iWp d mL_law 937 [.null, a1, a2, a3] (.null :: st) h Q := w_aload_nN dL_law_936 rfl
theorem XL_law_937 : iWp d mL_law 937 [a0, a1, a2, .int x] st h Q = iWp d mL_law 938 [a0, a1, a2, .int x] (.int x :: st) h Q := w_iload_n dL_law_937 rfl
theorem XL_law_938 : iWp d mL_law 938 [a0, a1, a2, a3] st h Q = iWp d mL_law 939 [a0, a1, a2, a3] (.int 2 :: st) h Q := w_iconst dL_law_938 rfl
theorem XL_law_939 : iWp d mL_law 939 [a0, a1, a2, a3] (.int y :: .int x :: st) h Q = iWp d mL_law 940 [a0, a1, a2, a3] (.int (x + y) :: st) h Q := w_iadd dL_law_939
theorem XL_law_940 : iWp d mL_law 940 [a0, a1, a2, a3] (.int x :: .ref p :: st) h Q = iOb (iLdI h p x) (fun v => iWp d mL_law 941 [a0, a1, a2, a3] (.int v :: st) h Q) := w_iaload dL_law_940
theorem XL_law_941 : iWp d mL_law 941 [.ref p, a1, a2, a3] st h Q = iWp d mL_law 942 [.ref p, a1, a2, a3] (.ref p :: st) h Q := w_aload_n dL_law_941 rfl
theorem XL_law_941n : iWp d mL_law 941 [.null, a1, a2, a3] st h Q = iWp d mL_law 942 [.null, a1, a2, a3] (.null :: st) h Q := w_aload_nN dL_law_941 rfl
theorem XL_law_942 : iWp d mL_law 942 [a0, a1, a2, .int x] st h Q = iWp d mL_law 943 [a0, a1, a2, .int x] (.int x :: st) h Q := w_iload_n dL_law_942 rfl
theorem XL_law_943 : iWp d mL_law 943 [a0, a1, a2, a3] st h Q = iWp d mL_law 944 [a0, a1, a2, a3] (.int 3 :: st) h Q := w_iconst dL_law_943 rfl
theorem XL_law_944 : iWp d mL_law 944 [a0, a1, a2, a3] (.int y :: .int x :: st) h Q = iWp d mL_law 945 [a0, a1, a2, a3] (.int (x + y) :: st) h Q := w_iadd dL_law_944
theorem XL_law_945 : iWp d mL_law 945 [a0, a1, a2, a3] (.int x :: .ref p :: st) h Q = iOb (iLdI h p x) (fun v => iWp d mL_law 946 [a0, a1, a2, a3] (.int v :: st) h Q) := w_iaload dL_law_945
theorem XL_law_946 (he : iEv mX9_edit_ [.ref p, .int x0, .int x1, .int x2] h (some (.int rv)) h2) (ho : iObj h p 9 = true) : iWp 60 mL_law 946 [a0, a1, a2, a3] [.int x2, .int x1, .int x0, .ref p, .int r0] h Q = iWp 60 mL_law 949 [a0, a1, a2, a3] [.int rv, .int r0] h2 Q := iWp_cV dL_law_946 fK_10_105 rfl rfl ho (Nat.le_of_ble_eq_true rfl) (Nat.le_of_ble_eq_true rfl) rfl (Nat.le_of_ble_eq_true rfl) he rfl
theorem XL_law_949 : iWp d mL_law 949 [a0, a1, a2, a3] (.int y :: .int x :: st) h Q = if x = y then iWp d mL_law 1465 [a0, a1, a2, a3] st h Q else iWp d mL_law 952 [a0, a1, a2, a3] st h Q := w_icmp_eq dL_law_949 rfl
theorem XL_law_952 : iWp d mL_law 952 [a0, a1, a2, a3] st h Q = iWp d mL_law 953 [a0, a1, a2, a3] (.int 0 :: st) h Q := w_iconst dL_law_952 rfl
theorem XL_law_953 : iWp d mL_law 953 [a0, a1, a2, a3] [.int (iB b)] h Q = Q (some (.int (iB b))) h := w_iretb dL_law_953 rfl
theorem XL_law_953z : iWp d mL_law 953 [a0, a1, a2, a3] [.int 0] h Q = Q (some (.int (iB false))) h := w_iretb (bb := false) dL_law_953 rfl
theorem XL_law_953o : iWp d mL_law 953 [a0, a1, a2, a3] [.int 1] h Q = Q (some (.int (iB true))) h := w_iretb (bb := true) dL_law_953 rfl
theorem XL_law_954 : iWp d mL_law 954 [a0, .ref p, a2, a3] st h Q = iWp d mL_law 955 [a0, .ref p, a2, a3] (.ref p :: st) h Q := w_aload_n dL_law_954 rfl
theorem XL_law_954n : iWp d mL_law 954 [a0, .null, a2, a3] st h Q = iWp d mL_law 955 [a0, .null, a2, a3] (.null :: st) h Q := w_aload_nN dL_law_954 rfl
theorem XL_law_955 : iWp d mL_law 955 [.ref p, a1, a2, a3] st h Q = iWp d mL_law 956 [.ref p, a1, a2, a3] (.ref p :: st) h Q := w_aload_n dL_law_955 rfl
theorem XL_law_955n : iWp d mL_law 955 [.null, a1, a2, a3] st h Q = iWp d mL_law 956 [.null, a1, a2, a3] (.null :: st) h Q := w_aload_nN dL_law_955 rfl
theorem XL_law_956 : iWp d mL_law 956 [a0, a1, a2, .int x] st h Q = iWp d mL_law 957 [a0, a1, a2, .int x] (.int x :: st) h Q := w_iload_n dL_law_956 rfl
theorem XL_law_957 : iWp d mL_law 957 [a0, a1, a2, a3] st h Q = iWp d mL_law 958 [a0, a1, a2, a3] (.int 1 :: st) h Q := w_iconst dL_law_957 rfl
theorem XL_law_958 : iWp d mL_law 958 [a0, a1, a2, a3] (.int y :: .int x :: st) h Q = iWp d mL_law 959 [a0, a1, a2, a3] (.int (x + y) :: st) h Q := w_iadd dL_law_958
theorem XL_law_959 : iWp d mL_law 959 [a0, a1, a2, a3] (.int x :: .ref p :: st) h Q = iOb (iLdI h p x) (fun v => iWp d mL_law 960 [a0, a1, a2, a3] (.int v :: st) h Q) := w_iaload dL_law_959
theorem XL_law_960 : iWp d mL_law 960 [.ref p, a1, a2, a3] st h Q = iWp d mL_law 961 [.ref p, a1, a2, a3] (.ref p :: st) h Q := w_aload_n dL_law_960 rfl
theorem XL_law_960n : iWp d mL_law 960 [.null, a1, a2, a3] st h Q = iWp d mL_law 961 [.null, a1, a2, a3] (.null :: st) h Q := w_aload_nN dL_law_960 rfl
theorem XL_law_961 : iWp d mL_law 961 [a0, a1, a2, .int x] st h Q = iWp d mL_law 962 [a0, a1, a2, .int x] (.int x :: st) h Q := w_iload_n dL_law_961 rfl
theorem XL_law_962 : iWp d mL_law 962 [a0, a1, a2, a3] st h Q = iWp d mL_law 963 [a0, a1, a2, a3] (.int 2 :: st) h Q := w_iconst dL_law_962 rfl
theorem XL_law_963 : iWp d mL_law 963 [a0, a1, a2, a3] (.int y :: .int x :: st) h Q = iWp d mL_law 964 [a0, a1, a2, a3] (.int (x + y) :: st) h Q := w_iadd dL_law_963
theorem XL_law_964 : iWp d mL_law 964 [a0, a1, a2, a3] (.int x :: .ref p :: st) h Q = iOb (iLdI h p x) (fun v => iWp d mL_law 965 [a0, a1, a2, a3] (.int v :: st) h Q) := w_iaload dL_law_964
theorem XL_law_965 (he : iEv mX8_touched [.ref p, .int x0, .int x1] h (some (.int rv)) h2) (ho : iObj h p 8 = true) : iWp 60 mL_law 965 [a0, a1, a2, a3] [.int x1, .int x0, .ref p] h Q = iWp 60 mL_law 968 [a0, a1, a2, a3] [.int rv] h2 Q := iWp_cV dL_law_965 fK_10_106 rfl rfl ho (Nat.le_of_ble_eq_true rfl) (Nat.le_of_ble_eq_true rfl) rfl (Nat.le_of_ble_eq_true rfl) he rfl
theorem XL_law_968 : iWp d mL_law 968 [a0, a1, .ref p, a3] st h Q = iWp d mL_law 969 [a0, a1, .ref p, a3] (.ref p :: st) h Q := w_aload_n dL_law_968 rfl
theorem XL_law_968n : iWp d mL_law 968 [a0, a1, .null, a3] st h Q = iWp d mL_law 969 [a0, a1, .null, a3] (.null :: st) h Q := w_aload_nN dL_law_968 rfl
theorem XL_law_969 : iWp d mL_law 969 [.ref p, a1, a2, a3] st h Q = iWp d mL_law 970 [.ref p, a1, a2, a3] (.ref p :: st) h Q := w_aload_n dL_law_969 rfl
theorem XL_law_969n : iWp d mL_law 969 [.null, a1, a2, a3] st h Q = iWp d mL_law 970 [.null, a1, a2, a3] (.null :: st) h Q := w_aload_nN dL_law_969 rfl
theorem XL_law_970 : iWp d mL_law 970 [a0, a1, a2, .int x] st h Q = iWp d mL_law 971 [a0, a1, a2, .int x] (.int x :: st) h Q := w_iload_n dL_law_970 rfl
theorem XL_law_971 : iWp d mL_law 971 [a0, a1, a2, a3] st h Q = iWp d mL_law 972 [a0, a1, a2, a3] (.int 1 :: st) h Q := w_iconst dL_law_971 rfl
theorem XL_law_972 : iWp d mL_law 972 [a0, a1, a2, a3] (.int y :: .int x :: st) h Q = iWp d mL_law 973 [a0, a1, a2, a3] (.int (x + y) :: st) h Q := w_iadd dL_law_972
theorem XL_law_973 : iWp d mL_law 973 [a0, a1, a2, a3] (.int x :: .ref p :: st) h Q = iOb (iLdI h p x) (fun v => iWp d mL_law 974 [a0, a1, a2, a3] (.int v :: st) h Q) := w_iaload dL_law_973
theorem XL_law_974 : iWp d mL_law 974 [.ref p, a1, a2, a3] st h Q = iWp d mL_law 975 [.ref p, a1, a2, a3] (.ref p :: st) h Q := w_aload_n dL_law_974 rfl
theorem XL_law_974n : iWp d mL_law 974 [.null, a1, a2, a3] st h Q = iWp d mL_law 975 [.null, a1, a2, a3] (.null :: st) h Q := w_aload_nN dL_law_974 rfl
theorem XL_law_975 : iWp d mL_law 975 [a0, a1, a2, .int x] st h Q = iWp d mL_law 976 [a0, a1, a2, .int x] (.int x :: st) h Q := w_iload_n dL_law_975 rfl
theorem XL_law_976 : iWp d mL_law 976 [a0, a1, a2, a3] st h Q = iWp d mL_law 977 [a0, a1, a2, a3] (.int 2 :: st) h Q := w_iconst dL_law_976 rfl
theorem XL_law_977 : iWp d mL_law 977 [a0, a1, a2, a3] (.int y :: .int x :: st) h Q = iWp d mL_law 978 [a0, a1, a2, a3] (.int (x + y) :: st) h Q := w_iadd dL_law_977
theorem XL_law_978 : iWp d mL_law 978 [a0, a1, a2, a3] (.int x :: .ref p :: st) h Q = iOb (iLdI h p x) (fun v => iWp d mL_law 979 [a0, a1, a2, a3] (.int v :: st) h Q) := w_iaload dL_law_978
theorem XL_law_979 (he : iEv mX9_touched [.ref p, .int x0, .int x1] h (some (.int rv)) h2) (ho : iObj h p 9 = true) : iWp 60 mL_law 979 [a0, a1, a2, a3] [.int x1, .int x0, .ref p, .int r0] h Q = iWp 60 mL_law 982 [a0, a1, a2, a3] [.int rv, .int r0] h2 Q := iWp_cV dL_law_979 fK_10_109 rfl rfl ho (Nat.le_of_ble_eq_true rfl) (Nat.le_of_ble_eq_true rfl) rfl (Nat.le_of_ble_eq_true rfl) he rfl
theorem XL_law_982 : iWp d mL_law 982 [a0, a1, a2, a3] (.int y :: .int x :: st) h Q = if x = y then iWp d mL_law 1465 [a0, a1, a2, a3] st h Q else iWp d mL_law 985 [a0, a1, a2, a3] st h Q := w_icmp_eq dL_law_982 rfl
theorem XL_law_985 : iWp d mL_law 985 [a0, a1, a2, a3] st h Q = iWp d mL_law 986 [a0, a1, a2, a3] (.int 0 :: st) h Q := w_iconst dL_law_985 rfl
theorem XL_law_986 : iWp d mL_law 986 [a0, a1, a2, a3] [.int (iB b)] h Q = Q (some (.int (iB b))) h := w_iretb dL_law_986 rfl
theorem XL_law_986z : iWp d mL_law 986 [a0, a1, a2, a3] [.int 0] h Q = Q (some (.int (iB false))) h := w_iretb (bb := false) dL_law_986 rfl
theorem XL_law_986o : iWp d mL_law 986 [a0, a1, a2, a3] [.int 1] h Q = Q (some (.int (iB true))) h := w_iretb (bb := true) dL_law_986 rfl
theorem XL_law_987 : iWp d mL_law 987 [a0, .ref p, a2, a3] st h Q = iWp d mL_law 988 [a0, .ref p, a2, a3] (.ref p :: st) h Q := w_aload_n dL_law_987 rfl
theorem XL_law_987n : iWp d mL_law 987 [a0, .null, a2, a3] st h Q = iWp d mL_law 988 [a0, .null, a2, a3] (.null :: st) h Q := w_aload_nN dL_law_987 rfl
theorem XL_law_988 : iWp d mL_law 988 [.ref p, a1, a2, a3] st h Q = iWp d mL_law 989 [.ref p, a1, a2, a3] (.ref p :: st) h Q := w_aload_n dL_law_988 rfl
theorem XL_law_988n : iWp d mL_law 988 [.null, a1, a2, a3] st h Q = iWp d mL_law 989 [.null, a1, a2, a3] (.null :: st) h Q := w_aload_nN dL_law_988 rfl
theorem XL_law_989 : iWp d mL_law 989 [a0, a1, a2, .int x] st h Q = iWp d mL_law 990 [a0, a1, a2, .int x] (.int x :: st) h Q := w_iload_n dL_law_989 rfl
theorem XL_law_990 : iWp d mL_law 990 [a0, a1, a2, a3] st h Q = iWp d mL_law 991 [a0, a1, a2, a3] (.int 1 :: st) h Q := w_iconst dL_law_990 rfl
theorem XL_law_991 : iWp d mL_law 991 [a0, a1, a2, a3] (.int y :: .int x :: st) h Q = iWp d mL_law 992 [a0, a1, a2, a3] (.int (x + y) :: st) h Q := w_iadd dL_law_991
theorem XL_law_992 : iWp d mL_law 992 [a0, a1, a2, a3] (.int x :: .ref p :: st) h Q = iOb (iLdI h p x) (fun v => iWp d mL_law 993 [a0, a1, a2, a3] (.int v :: st) h Q) := w_iaload dL_law_992
theorem XL_law_993 : iWp d mL_law 993 [.ref p, a1, a2, a3] st h Q = iWp d mL_law 994 [.ref p, a1, a2, a3] (.ref p :: st) h Q := w_aload_n dL_law_993 rfl
theorem XL_law_993n : iWp d mL_law 993 [.null, a1, a2, a3] st h Q = iWp d mL_law 994 [.null, a1, a2, a3] (.null :: st) h Q := w_aload_nN dL_law_993 rfl
theorem XL_law_994 : iWp d mL_law 994 [a0, a1, a2, .int x] st h Q = iWp d mL_law 995 [a0, a1, a2, .int x] (.int x :: st) h Q := w_iload_n dL_law_994 rfl
theorem XL_law_995 : iWp d mL_law 995 [a0, a1, a2, a3] st h Q = iWp d mL_law 996 [a0, a1, a2, a3] (.int 2 :: st) h Q := w_iconst dL_law_995 rfl
theorem XL_law_996 : iWp d mL_law 996 [a0, a1, a2, a3] (.int y :: .int x :: st) h Q = iWp d mL_law 997 [a0, a1, a2, a3] (.int (x + y) :: st) h Q := w_iadd dL_law_996
theorem XL_law_997 : iWp d mL_law 997 [a0, a1, a2, a3] (.int x :: .ref p :: st) h Q = iOb (iLdI h p x) (fun v => iWp d mL_law 998 [a0, a1, a2, a3] (.int v :: st) h Q) := w_iaload dL_law_997
theorem XL_law_998 (he : iEv mX8_apply [.ref p, .int x0, .int x1] h (some (.int rv)) h2) (ho : iObj h p 8 = true) : iWp 60 mL_law 998 [a0, a1, a2, a3] [.int x1, .int x0, .ref p] h Q = iWp 60 mL_law 1001 [a0, a1, a2, a3] [.int rv] h2 Q := iWp_cV dL_law_998 fK_10_110 rfl rfl ho (Nat.le_of_ble_eq_true rfl) (Nat.le_of_ble_eq_true rfl) rfl (Nat.le_of_ble_eq_true rfl) he rfl
theorem XL_law_1001 : iWp d mL_law 1001 [a0, a1, .ref p, a3] st h Q = iWp d mL_law 1002 [a0, a1, .ref p, a3] (.ref p :: st) h Q := w_aload_n dL_law_1001 rfl
theorem XL_law_1001n : iWp d mL_law 1001 [a0, a1, .null, a3] st h Q = iWp d mL_law 1002 [a0, a1, .null, a3] (.null :: st) h Q := w_aload_nN dL_law_1001 rfl
theorem XL_law_1002 : iWp d mL_law 1002 [.ref p, a1, a2, a3] st h Q = iWp d mL_law 1003 [.ref p, a1, a2, a3] (.ref p :: st) h Q := w_aload_n dL_law_1002 rfl
theorem XL_law_1002n : iWp d mL_law 1002 [.null, a1, a2, a3] st h Q = iWp d mL_law 1003 [.null, a1, a2, a3] (.null :: st) h Q := w_aload_nN dL_law_1002 rfl
theorem XL_law_1003 : iWp d mL_law 1003 [a0, a1, a2, .int x] st h Q = iWp d mL_law 1004 [a0, a1, a2, .int x] (.int x :: st) h Q := w_iload_n dL_law_1003 rfl
theorem XL_law_1004 : iWp d mL_law 1004 [a0, a1, a2, a3] st h Q = iWp d mL_law 1005 [a0, a1, a2, a3] (.int 1 :: st) h Q := w_iconst dL_law_1004 rfl
theorem XL_law_1005 : iWp d mL_law 1005 [a0, a1, a2, a3] (.int y :: .int x :: st) h Q = iWp d mL_law 1006 [a0, a1, a2, a3] (.int (x + y) :: st) h Q := w_iadd dL_law_1005
theorem XL_law_1006 : iWp d mL_law 1006 [a0, a1, a2, a3] (.int x :: .ref p :: st) h Q = iOb (iLdI h p x) (fun v => iWp d mL_law 1007 [a0, a1, a2, a3] (.int v :: st) h Q) := w_iaload dL_law_1006
theorem XL_law_1007 : iWp d mL_law 1007 [.ref p, a1, a2, a3] st h Q = iWp d mL_law 1008 [.ref p, a1, a2, a3] (.ref p :: st) h Q := w_aload_n dL_law_1007 rfl
theorem XL_law_1007n : iWp d mL_law 1007 [.null, a1, a2, a3] st h Q = iWp d mL_law 1008 [.null, a1, a2, a3] (.null :: st) h Q := w_aload_nN dL_law_1007 rfl
theorem XL_law_1008 : iWp d mL_law 1008 [a0, a1, a2, .int x] st h Q = iWp d mL_law 1009 [a0, a1, a2, .int x] (.int x :: st) h Q := w_iload_n dL_law_1008 rfl
theorem XL_law_1009 : iWp d mL_law 1009 [a0, a1, a2, a3] st h Q = iWp d mL_law 1010 [a0, a1, a2, a3] (.int 2 :: st) h Q := w_iconst dL_law_1009 rfl
theorem XL_law_1010 : iWp d mL_law 1010 [a0, a1, a2, a3] (.int y :: .int x :: st) h Q = iWp d mL_law 1011 [a0, a1, a2, a3] (.int (x + y) :: st) h Q := w_iadd dL_law_1010
theorem XL_law_1011 : iWp d mL_law 1011 [a0, a1, a2, a3] (.int x :: .ref p :: st) h Q = iOb (iLdI h p x) (fun v => iWp d mL_law 1012 [a0, a1, a2, a3] (.int v :: st) h Q) := w_iaload dL_law_1011
theorem XL_law_1012 (he : iEv mX9_apply [.ref p, .int x0, .int x1] h (some (.int rv)) h2) (ho : iObj h p 9 = true) : iWp 60 mL_law 1012 [a0, a1, a2, a3] [.int x1, .int x0, .ref p, .int r0] h Q = iWp 60 mL_law 1015 [a0, a1, a2, a3] [.int rv, .int r0] h2 Q := iWp_cV dL_law_1012 fK_10_113 rfl rfl ho (Nat.le_of_ble_eq_true rfl) (Nat.le_of_ble_eq_true rfl) rfl (Nat.le_of_ble_eq_true rfl) he rfl
theorem XL_law_1015 : iWp d mL_law 1015 [a0, a1, a2, a3] (.int y :: .int x :: st) h Q = if x = y then iWp d mL_law 1465 [a0, a1, a2, a3] st h Q else iWp d mL_law 1018 [a0, a1, a2, a3] st h Q := w_icmp_eq dL_law_1015 rfl
theorem XL_law_1018 : iWp d mL_law 1018 [a0, a1, a2, a3] st h Q = iWp d mL_law 1019 [a0, a1, a2, a3] (.int 0 :: st) h Q := w_iconst dL_law_1018 rfl
theorem XL_law_1019 : iWp d mL_law 1019 [a0, a1, a2, a3] [.int (iB b)] h Q = Q (some (.int (iB b))) h := w_iretb dL_law_1019 rfl
theorem XL_law_1019z : iWp d mL_law 1019 [a0, a1, a2, a3] [.int 0] h Q = Q (some (.int (iB false))) h := w_iretb (bb := false) dL_law_1019 rfl
theorem XL_law_1019o : iWp d mL_law 1019 [a0, a1, a2, a3] [.int 1] h Q = Q (some (.int (iB true))) h := w_iretb (bb := true) dL_law_1019 rfl
theorem XL_law_1020 : iWp d mL_law 1020 [a0, .ref p, a2, a3] st h Q = iWp d mL_law 1021 [a0, .ref p, a2, a3] (.ref p :: st) h Q := w_aload_n dL_law_1020 rfl
theorem XL_law_1020n : iWp d mL_law 1020 [a0, .null, a2, a3] st h Q = iWp d mL_law 1021 [a0, .null, a2, a3] (.null :: st) h Q := w_aload_nN dL_law_1020 rfl
theorem XL_law_1021 : iWp d mL_law 1021 [.ref p, a1, a2, a3] st h Q = iWp d mL_law 1022 [.ref p, a1, a2, a3] (.ref p :: st) h Q := w_aload_n dL_law_1021 rfl
theorem XL_law_1021n : iWp d mL_law 1021 [.null, a1, a2, a3] st h Q = iWp d mL_law 1022 [.null, a1, a2, a3] (.null :: st) h Q := w_aload_nN dL_law_1021 rfl
theorem XL_law_1022 : iWp d mL_law 1022 [a0, a1, a2, .int x] st h Q = iWp d mL_law 1023 [a0, a1, a2, .int x] (.int x :: st) h Q := w_iload_n dL_law_1022 rfl
theorem XL_law_1023 : iWp d mL_law 1023 [a0, a1, a2, a3] st h Q = iWp d mL_law 1024 [a0, a1, a2, a3] (.int 1 :: st) h Q := w_iconst dL_law_1023 rfl
theorem XL_law_1024 : iWp d mL_law 1024 [a0, a1, a2, a3] (.int y :: .int x :: st) h Q = iWp d mL_law 1025 [a0, a1, a2, a3] (.int (x + y) :: st) h Q := w_iadd dL_law_1024
theorem XL_law_1025 : iWp d mL_law 1025 [a0, a1, a2, a3] (.int x :: .ref p :: st) h Q = iOb (iLdI h p x) (fun v => iWp d mL_law 1026 [a0, a1, a2, a3] (.int v :: st) h Q) := w_iaload dL_law_1025
theorem XL_law_1026 : iWp d mL_law 1026 [.ref p, a1, a2, a3] st h Q = iWp d mL_law 1027 [.ref p, a1, a2, a3] (.ref p :: st) h Q := w_aload_n dL_law_1026 rfl
theorem XL_law_1026n : iWp d mL_law 1026 [.null, a1, a2, a3] st h Q = iWp d mL_law 1027 [.null, a1, a2, a3] (.null :: st) h Q := w_aload_nN dL_law_1026 rfl
theorem XL_law_1027 : iWp d mL_law 1027 [a0, a1, a2, .int x] st h Q = iWp d mL_law 1028 [a0, a1, a2, .int x] (.int x :: st) h Q := w_iload_n dL_law_1027 rfl
theorem XL_law_1028 : iWp d mL_law 1028 [a0, a1, a2, a3] st h Q = iWp d mL_law 1029 [a0, a1, a2, a3] (.int 2 :: st) h Q := w_iconst dL_law_1028 rfl
theorem XL_law_1029 : iWp d mL_law 1029 [a0, a1, a2, a3] (.int y :: .int x :: st) h Q = iWp d mL_law 1030 [a0, a1, a2, a3] (.int (x + y) :: st) h Q := w_iadd dL_law_1029
theorem XL_law_1030 : iWp d mL_law 1030 [a0, a1, a2, a3] (.int x :: .ref p :: st) h Q = iOb (iLdI h p x) (fun v => iWp d mL_law 1031 [a0, a1, a2, a3] (.int v :: st) h Q) := w_iaload dL_law_1030
theorem XL_law_1031 (he : iEv mX8_sticks [.ref p, .int x0, .int x1] h (some (.int rv)) h2) (ho : iObj h p 8 = true) : iWp 60 mL_law 1031 [a0, a1, a2, a3] [.int x1, .int x0, .ref p] h Q = iWp 60 mL_law 1034 [a0, a1, a2, a3] [.int rv] h2 Q := iWp_cV dL_law_1031 fK_10_114 rfl rfl ho (Nat.le_of_ble_eq_true rfl) (Nat.le_of_ble_eq_true rfl) rfl (Nat.le_of_ble_eq_true rfl) he rfl
theorem XL_law_1034 : iWp d mL_law 1034 [a0, a1, .ref p, a3] st h Q = iWp d mL_law 1035 [a0, a1, .ref p, a3] (.ref p :: st) h Q := w_aload_n dL_law_1034 rfl
theorem XL_law_1034n : iWp d mL_law 1034 [a0, a1, .null, a3] st h Q = iWp d mL_law 1035 [a0, a1, .null, a3] (.null :: st) h Q := w_aload_nN dL_law_1034 rfl
theorem XL_law_1035 : iWp d mL_law 1035 [.ref p, a1, a2, a3] st h Q = iWp d mL_law 1036 [.ref p, a1, a2, a3] (.ref p :: st) h Q := w_aload_n dL_law_1035 rfl
theorem XL_law_1035n : iWp d mL_law 1035 [.null, a1, a2, a3] st h Q = iWp d mL_law 1036 [.null, a1, a2, a3] (.null :: st) h Q := w_aload_nN dL_law_1035 rfl
theorem XL_law_1036 : iWp d mL_law 1036 [a0, a1, a2, .int x] st h Q = iWp d mL_law 1037 [a0, a1, a2, .int x] (.int x :: st) h Q := w_iload_n dL_law_1036 rfl
theorem XL_law_1037 : iWp d mL_law 1037 [a0, a1, a2, a3] st h Q = iWp d mL_law 1038 [a0, a1, a2, a3] (.int 1 :: st) h Q := w_iconst dL_law_1037 rfl
theorem XL_law_1038 : iWp d mL_law 1038 [a0, a1, a2, a3] (.int y :: .int x :: st) h Q = iWp d mL_law 1039 [a0, a1, a2, a3] (.int (x + y) :: st) h Q := w_iadd dL_law_1038
theorem XL_law_1039 : iWp d mL_law 1039 [a0, a1, a2, a3] (.int x :: .ref p :: st) h Q = iOb (iLdI h p x) (fun v => iWp d mL_law 1040 [a0, a1, a2, a3] (.int v :: st) h Q) := w_iaload dL_law_1039
theorem XL_law_1040 : iWp d mL_law 1040 [.ref p, a1, a2, a3] st h Q = iWp d mL_law 1041 [.ref p, a1, a2, a3] (.ref p :: st) h Q := w_aload_n dL_law_1040 rfl
theorem XL_law_1040n : iWp d mL_law 1040 [.null, a1, a2, a3] st h Q = iWp d mL_law 1041 [.null, a1, a2, a3] (.null :: st) h Q := w_aload_nN dL_law_1040 rfl
theorem XL_law_1041 : iWp d mL_law 1041 [a0, a1, a2, .int x] st h Q = iWp d mL_law 1042 [a0, a1, a2, .int x] (.int x :: st) h Q := w_iload_n dL_law_1041 rfl
theorem XL_law_1042 : iWp d mL_law 1042 [a0, a1, a2, a3] st h Q = iWp d mL_law 1043 [a0, a1, a2, a3] (.int 2 :: st) h Q := w_iconst dL_law_1042 rfl
theorem XL_law_1043 : iWp d mL_law 1043 [a0, a1, a2, a3] (.int y :: .int x :: st) h Q = iWp d mL_law 1044 [a0, a1, a2, a3] (.int (x + y) :: st) h Q := w_iadd dL_law_1043
theorem XL_law_1044 : iWp d mL_law 1044 [a0, a1, a2, a3] (.int x :: .ref p :: st) h Q = iOb (iLdI h p x) (fun v => iWp d mL_law 1045 [a0, a1, a2, a3] (.int v :: st) h Q) := w_iaload dL_law_1044
theorem XL_law_1045 (he : iEv mX9_sticks [.ref p, .int x0, .int x1] h (some (.int rv)) h2) (ho : iObj h p 9 = true) : iWp 60 mL_law 1045 [a0, a1, a2, a3] [.int x1, .int x0, .ref p, .int r0] h Q = iWp 60 mL_law 1048 [a0, a1, a2, a3] [.int rv, .int r0] h2 Q := iWp_cV dL_law_1045 fK_10_117 rfl rfl ho (Nat.le_of_ble_eq_true rfl) (Nat.le_of_ble_eq_true rfl) rfl (Nat.le_of_ble_eq_true rfl) he rfl
theorem XL_law_1048 : iWp d mL_law 1048 [a0, a1, a2, a3] (.int y :: .int x :: st) h Q = if x = y then iWp d mL_law 1465 [a0, a1, a2, a3] st h Q else iWp d mL_law 1051 [a0, a1, a2, a3] st h Q := w_icmp_eq dL_law_1048 rfl
theorem XL_law_1051 : iWp d mL_law 1051 [a0, a1, a2, a3] st h Q = iWp d mL_law 1052 [a0, a1, a2, a3] (.int 0 :: st) h Q := w_iconst dL_law_1051 rfl
theorem XL_law_1052 : iWp d mL_law 1052 [a0, a1, a2, a3] [.int (iB b)] h Q = Q (some (.int (iB b))) h := w_iretb dL_law_1052 rfl
theorem XL_law_1052z : iWp d mL_law 1052 [a0, a1, a2, a3] [.int 0] h Q = Q (some (.int (iB false))) h := w_iretb (bb := false) dL_law_1052 rfl
theorem XL_law_1052o : iWp d mL_law 1052 [a0, a1, a2, a3] [.int 1] h Q = Q (some (.int (iB true))) h := w_iretb (bb := true) dL_law_1052 rfl
theorem XL_law_1053 : iWp d mL_law 1053 [a0, .ref p, a2, a3] st h Q = iWp d mL_law 1054 [a0, .ref p, a2, a3] (.ref p :: st) h Q := w_aload_n dL_law_1053 rfl
theorem XL_law_1053n : iWp d mL_law 1053 [a0, .null, a2, a3] st h Q = iWp d mL_law 1054 [a0, .null, a2, a3] (.null :: st) h Q := w_aload_nN dL_law_1053 rfl
theorem XL_law_1054 : iWp d mL_law 1054 [.ref p, a1, a2, a3] st h Q = iWp d mL_law 1055 [.ref p, a1, a2, a3] (.ref p :: st) h Q := w_aload_n dL_law_1054 rfl
theorem XL_law_1054n : iWp d mL_law 1054 [.null, a1, a2, a3] st h Q = iWp d mL_law 1055 [.null, a1, a2, a3] (.null :: st) h Q := w_aload_nN dL_law_1054 rfl
theorem XL_law_1055 : iWp d mL_law 1055 [a0, a1, a2, .int x] st h Q = iWp d mL_law 1056 [a0, a1, a2, .int x] (.int x :: st) h Q := w_iload_n dL_law_1055 rfl
theorem XL_law_1056 : iWp d mL_law 1056 [a0, a1, a2, a3] st h Q = iWp d mL_law 1057 [a0, a1, a2, a3] (.int 1 :: st) h Q := w_iconst dL_law_1056 rfl
theorem XL_law_1057 : iWp d mL_law 1057 [a0, a1, a2, a3] (.int y :: .int x :: st) h Q = iWp d mL_law 1058 [a0, a1, a2, a3] (.int (x + y) :: st) h Q := w_iadd dL_law_1057
theorem XL_law_1058 : iWp d mL_law 1058 [a0, a1, a2, a3] (.int x :: .ref p :: st) h Q = iOb (iLdI h p x) (fun v => iWp d mL_law 1059 [a0, a1, a2, a3] (.int v :: st) h Q) := w_iaload dL_law_1058
theorem XL_law_1059 (he : iEv mX8_invert [.ref p, .int x0] h (some (.int rv)) h2) (ho : iObj h p 8 = true) : iWp 60 mL_law 1059 [a0, a1, a2, a3] [.int x0, .ref p] h Q = iWp 60 mL_law 1062 [a0, a1, a2, a3] [.int rv] h2 Q := iWp_cV dL_law_1059 fK_10_118 rfl rfl ho (Nat.le_of_ble_eq_true rfl) (Nat.le_of_ble_eq_true rfl) rfl (Nat.le_of_ble_eq_true rfl) he rfl
theorem XL_law_1062 : iWp d mL_law 1062 [a0, a1, .ref p, a3] st h Q = iWp d mL_law 1063 [a0, a1, .ref p, a3] (.ref p :: st) h Q := w_aload_n dL_law_1062 rfl
theorem XL_law_1062n : iWp d mL_law 1062 [a0, a1, .null, a3] st h Q = iWp d mL_law 1063 [a0, a1, .null, a3] (.null :: st) h Q := w_aload_nN dL_law_1062 rfl
theorem XL_law_1063 : iWp d mL_law 1063 [.ref p, a1, a2, a3] st h Q = iWp d mL_law 1064 [.ref p, a1, a2, a3] (.ref p :: st) h Q := w_aload_n dL_law_1063 rfl
theorem XL_law_1063n : iWp d mL_law 1063 [.null, a1, a2, a3] st h Q = iWp d mL_law 1064 [.null, a1, a2, a3] (.null :: st) h Q := w_aload_nN dL_law_1063 rfl
theorem XL_law_1064 : iWp d mL_law 1064 [a0, a1, a2, .int x] st h Q = iWp d mL_law 1065 [a0, a1, a2, .int x] (.int x :: st) h Q := w_iload_n dL_law_1064 rfl
theorem XL_law_1065 : iWp d mL_law 1065 [a0, a1, a2, a3] st h Q = iWp d mL_law 1066 [a0, a1, a2, a3] (.int 1 :: st) h Q := w_iconst dL_law_1065 rfl
theorem XL_law_1066 : iWp d mL_law 1066 [a0, a1, a2, a3] (.int y :: .int x :: st) h Q = iWp d mL_law 1067 [a0, a1, a2, a3] (.int (x + y) :: st) h Q := w_iadd dL_law_1066
theorem XL_law_1067 : iWp d mL_law 1067 [a0, a1, a2, a3] (.int x :: .ref p :: st) h Q = iOb (iLdI h p x) (fun v => iWp d mL_law 1068 [a0, a1, a2, a3] (.int v :: st) h Q) := w_iaload dL_law_1067
theorem XL_law_1068 (he : iEv mX9_invert [.ref p, .int x0] h (some (.int rv)) h2) (ho : iObj h p 9 = true) : iWp 60 mL_law 1068 [a0, a1, a2, a3] [.int x0, .ref p, .int r0] h Q = iWp 60 mL_law 1071 [a0, a1, a2, a3] [.int rv, .int r0] h2 Q := iWp_cV dL_law_1068 fK_10_121 rfl rfl ho (Nat.le_of_ble_eq_true rfl) (Nat.le_of_ble_eq_true rfl) rfl (Nat.le_of_ble_eq_true rfl) he rfl
theorem XL_law_1071 : iWp d mL_law 1071 [a0, a1, a2, a3] (.int y :: .int x :: st) h Q = if x = y then iWp d mL_law 1465 [a0, a1, a2, a3] st h Q else iWp d mL_law 1074 [a0, a1, a2, a3] st h Q := w_icmp_eq dL_law_1071 rfl
theorem XL_law_1074 : iWp d mL_law 1074 [a0, a1, a2, a3] st h Q = iWp d mL_law 1075 [a0, a1, a2, a3] (.int 0 :: st) h Q := w_iconst dL_law_1074 rfl
theorem XL_law_1075 : iWp d mL_law 1075 [a0, a1, a2, a3] [.int (iB b)] h Q = Q (some (.int (iB b))) h := w_iretb dL_law_1075 rfl
theorem XL_law_1075z : iWp d mL_law 1075 [a0, a1, a2, a3] [.int 0] h Q = Q (some (.int (iB false))) h := w_iretb (bb := false) dL_law_1075 rfl
theorem XL_law_1075o : iWp d mL_law 1075 [a0, a1, a2, a3] [.int 1] h Q = Q (some (.int (iB true))) h := w_iretb (bb := true) dL_law_1075 rfl
theorem XL_law_1076 : iWp d mL_law 1076 [a0, .ref p, a2, a3] st h Q = iWp d mL_law 1077 [a0, .ref p, a2, a3] (.ref p :: st) h Q := w_aload_n dL_law_1076 rfl
theorem XL_law_1076n : iWp d mL_law 1076 [a0, .null, a2, a3] st h Q = iWp d mL_law 1077 [a0, .null, a2, a3] (.null :: st) h Q := w_aload_nN dL_law_1076 rfl
theorem XL_law_1077 : iWp d mL_law 1077 [.ref p, a1, a2, a3] st h Q = iWp d mL_law 1078 [.ref p, a1, a2, a3] (.ref p :: st) h Q := w_aload_n dL_law_1077 rfl
theorem XL_law_1077n : iWp d mL_law 1077 [.null, a1, a2, a3] st h Q = iWp d mL_law 1078 [.null, a1, a2, a3] (.null :: st) h Q := w_aload_nN dL_law_1077 rfl
theorem XL_law_1078 : iWp d mL_law 1078 [a0, a1, a2, .int x] st h Q = iWp d mL_law 1079 [a0, a1, a2, .int x] (.int x :: st) h Q := w_iload_n dL_law_1078 rfl
theorem XL_law_1079 : iWp d mL_law 1079 [a0, a1, a2, a3] st h Q = iWp d mL_law 1080 [a0, a1, a2, a3] (.int 1 :: st) h Q := w_iconst dL_law_1079 rfl
theorem XL_law_1080 : iWp d mL_law 1080 [a0, a1, a2, a3] (.int y :: .int x :: st) h Q = iWp d mL_law 1081 [a0, a1, a2, a3] (.int (x + y) :: st) h Q := w_iadd dL_law_1080
theorem XL_law_1081 : iWp d mL_law 1081 [a0, a1, a2, a3] (.int x :: .ref p :: st) h Q = iOb (iLdI h p x) (fun v => iWp d mL_law 1082 [a0, a1, a2, a3] (.int v :: st) h Q) := w_iaload dL_law_1081
theorem XL_law_1082 : iWp d mL_law 1082 [.ref p, a1, a2, a3] st h Q = iWp d mL_law 1083 [.ref p, a1, a2, a3] (.ref p :: st) h Q := w_aload_n dL_law_1082 rfl
theorem XL_law_1082n : iWp d mL_law 1082 [.null, a1, a2, a3] st h Q = iWp d mL_law 1083 [.null, a1, a2, a3] (.null :: st) h Q := w_aload_nN dL_law_1082 rfl
theorem XL_law_1083 : iWp d mL_law 1083 [a0, a1, a2, .int x] st h Q = iWp d mL_law 1084 [a0, a1, a2, .int x] (.int x :: st) h Q := w_iload_n dL_law_1083 rfl
theorem XL_law_1084 : iWp d mL_law 1084 [a0, a1, a2, a3] st h Q = iWp d mL_law 1085 [a0, a1, a2, a3] (.int 2 :: st) h Q := w_iconst dL_law_1084 rfl
theorem XL_law_1085 : iWp d mL_law 1085 [a0, a1, a2, a3] (.int y :: .int x :: st) h Q = iWp d mL_law 1086 [a0, a1, a2, a3] (.int (x + y) :: st) h Q := w_iadd dL_law_1085
theorem XL_law_1086 : iWp d mL_law 1086 [a0, a1, a2, a3] (.int x :: .ref p :: st) h Q = iOb (iLdI h p x) (fun v => iWp d mL_law 1087 [a0, a1, a2, a3] (.int v :: st) h Q) := w_iaload dL_law_1086
theorem XL_law_1087 (he : iEv mX8_behind [.ref p, .int x0, .int x1] h (some (.int rv)) h2) (ho : iObj h p 8 = true) : iWp 60 mL_law 1087 [a0, a1, a2, a3] [.int x1, .int x0, .ref p] h Q = iWp 60 mL_law 1090 [a0, a1, a2, a3] [.int rv] h2 Q := iWp_cV dL_law_1087 fK_10_122 rfl rfl ho (Nat.le_of_ble_eq_true rfl) (Nat.le_of_ble_eq_true rfl) rfl (Nat.le_of_ble_eq_true rfl) he rfl
theorem XL_law_1090 : iWp d mL_law 1090 [a0, a1, .ref p, a3] st h Q = iWp d mL_law 1091 [a0, a1, .ref p, a3] (.ref p :: st) h Q := w_aload_n dL_law_1090 rfl
theorem XL_law_1090n : iWp d mL_law 1090 [a0, a1, .null, a3] st h Q = iWp d mL_law 1091 [a0, a1, .null, a3] (.null :: st) h Q := w_aload_nN dL_law_1090 rfl
theorem XL_law_1091 : iWp d mL_law 1091 [.ref p, a1, a2, a3] st h Q = iWp d mL_law 1092 [.ref p, a1, a2, a3] (.ref p :: st) h Q := w_aload_n dL_law_1091 rfl
theorem XL_law_1091n : iWp d mL_law 1091 [.null, a1, a2, a3] st h Q = iWp d mL_law 1092 [.null, a1, a2, a3] (.null :: st) h Q := w_aload_nN dL_law_1091 rfl
theorem XL_law_1092 : iWp d mL_law 1092 [a0, a1, a2, .int x] st h Q = iWp d mL_law 1093 [a0, a1, a2, .int x] (.int x :: st) h Q := w_iload_n dL_law_1092 rfl
theorem XL_law_1093 : iWp d mL_law 1093 [a0, a1, a2, a3] st h Q = iWp d mL_law 1094 [a0, a1, a2, a3] (.int 1 :: st) h Q := w_iconst dL_law_1093 rfl
theorem XL_law_1094 : iWp d mL_law 1094 [a0, a1, a2, a3] (.int y :: .int x :: st) h Q = iWp d mL_law 1095 [a0, a1, a2, a3] (.int (x + y) :: st) h Q := w_iadd dL_law_1094
theorem XL_law_1095 : iWp d mL_law 1095 [a0, a1, a2, a3] (.int x :: .ref p :: st) h Q = iOb (iLdI h p x) (fun v => iWp d mL_law 1096 [a0, a1, a2, a3] (.int v :: st) h Q) := w_iaload dL_law_1095
theorem XL_law_1096 : iWp d mL_law 1096 [.ref p, a1, a2, a3] st h Q = iWp d mL_law 1097 [.ref p, a1, a2, a3] (.ref p :: st) h Q := w_aload_n dL_law_1096 rfl
theorem XL_law_1096n : iWp d mL_law 1096 [.null, a1, a2, a3] st h Q = iWp d mL_law 1097 [.null, a1, a2, a3] (.null :: st) h Q := w_aload_nN dL_law_1096 rfl
theorem XL_law_1097 : iWp d mL_law 1097 [a0, a1, a2, .int x] st h Q = iWp d mL_law 1098 [a0, a1, a2, .int x] (.int x :: st) h Q := w_iload_n dL_law_1097 rfl
theorem XL_law_1098 : iWp d mL_law 1098 [a0, a1, a2, a3] st h Q = iWp d mL_law 1099 [a0, a1, a2, a3] (.int 2 :: st) h Q := w_iconst dL_law_1098 rfl
theorem XL_law_1099 : iWp d mL_law 1099 [a0, a1, a2, a3] (.int y :: .int x :: st) h Q = iWp d mL_law 1100 [a0, a1, a2, a3] (.int (x + y) :: st) h Q := w_iadd dL_law_1099
theorem XL_law_1100 : iWp d mL_law 1100 [a0, a1, a2, a3] (.int x :: .ref p :: st) h Q = iOb (iLdI h p x) (fun v => iWp d mL_law 1101 [a0, a1, a2, a3] (.int v :: st) h Q) := w_iaload dL_law_1100
theorem XL_law_1101 (he : iEv mX9_behind [.ref p, .int x0, .int x1] h (some (.int rv)) h2) (ho : iObj h p 9 = true) : iWp 60 mL_law 1101 [a0, a1, a2, a3] [.int x1, .int x0, .ref p, .int r0] h Q = iWp 60 mL_law 1104 [a0, a1, a2, a3] [.int rv, .int r0] h2 Q := iWp_cV dL_law_1101 fK_10_125 rfl rfl ho (Nat.le_of_ble_eq_true rfl) (Nat.le_of_ble_eq_true rfl) rfl (Nat.le_of_ble_eq_true rfl) he rfl
theorem XL_law_1104 : iWp d mL_law 1104 [a0, a1, a2, a3] (.int y :: .int x :: st) h Q = if x = y then iWp d mL_law 1465 [a0, a1, a2, a3] st h Q else iWp d mL_law 1107 [a0, a1, a2, a3] st h Q := w_icmp_eq dL_law_1104 rfl
theorem XL_law_1107 : iWp d mL_law 1107 [a0, a1, a2, a3] st h Q = iWp d mL_law 1108 [a0, a1, a2, a3] (.int 0 :: st) h Q := w_iconst dL_law_1107 rfl
theorem XL_law_1108 : iWp d mL_law 1108 [a0, a1, a2, a3] [.int (iB b)] h Q = Q (some (.int (iB b))) h := w_iretb dL_law_1108 rfl
theorem XL_law_1108z : iWp d mL_law 1108 [a0, a1, a2, a3] [.int 0] h Q = Q (some (.int (iB false))) h := w_iretb (bb := false) dL_law_1108 rfl
theorem XL_law_1108o : iWp d mL_law 1108 [a0, a1, a2, a3] [.int 1] h Q = Q (some (.int (iB true))) h := w_iretb (bb := true) dL_law_1108 rfl
theorem XL_law_1109 : iWp d mL_law 1109 [a0, .ref p, a2, a3] st h Q = iWp d mL_law 1110 [a0, .ref p, a2, a3] (.ref p :: st) h Q := w_aload_n dL_law_1109 rfl
theorem XL_law_1109n : iWp d mL_law 1109 [a0, .null, a2, a3] st h Q = iWp d mL_law 1110 [a0, .null, a2, a3] (.null :: st) h Q := w_aload_nN dL_law_1109 rfl
theorem XL_law_1110 : iWp d mL_law 1110 [.ref p, a1, a2, a3] st h Q = iWp d mL_law 1111 [.ref p, a1, a2, a3] (.ref p :: st) h Q := w_aload_n dL_law_1110 rfl
theorem XL_law_1110n : iWp d mL_law 1110 [.null, a1, a2, a3] st h Q = iWp d mL_law 1111 [.null, a1, a2, a3] (.null :: st) h Q := w_aload_nN dL_law_1110 rfl
theorem XL_law_1111 : iWp d mL_law 1111 [a0, a1, a2, .int x] st h Q = iWp d mL_law 1112 [a0, a1, a2, .int x] (.int x :: st) h Q := w_iload_n dL_law_1111 rfl
theorem XL_law_1112 : iWp d mL_law 1112 [a0, a1, a2, a3] st h Q = iWp d mL_law 1113 [a0, a1, a2, a3] (.int 1 :: st) h Q := w_iconst dL_law_1112 rfl
theorem XL_law_1113 : iWp d mL_law 1113 [a0, a1, a2, a3] (.int y :: .int x :: st) h Q = iWp d mL_law 1114 [a0, a1, a2, a3] (.int (x + y) :: st) h Q := w_iadd dL_law_1113
theorem XL_law_1114 : iWp d mL_law 1114 [a0, a1, a2, a3] (.int x :: .ref p :: st) h Q = iOb (iLdI h p x) (fun v => iWp d mL_law 1115 [a0, a1, a2, a3] (.int v :: st) h Q) := w_iaload dL_law_1114
theorem XL_law_1115 (he : iEv mX8_squeeze [.ref p, .int x0] h (some (.int rv)) h2) (ho : iObj h p 8 = true) : iWp 60 mL_law 1115 [a0, a1, a2, a3] [.int x0, .ref p] h Q = iWp 60 mL_law 1118 [a0, a1, a2, a3] [.int rv] h2 Q := iWp_cV dL_law_1115 fK_10_126 rfl rfl ho (Nat.le_of_ble_eq_true rfl) (Nat.le_of_ble_eq_true rfl) rfl (Nat.le_of_ble_eq_true rfl) he rfl
theorem XL_law_1118 : iWp d mL_law 1118 [a0, a1, .ref p, a3] st h Q = iWp d mL_law 1119 [a0, a1, .ref p, a3] (.ref p :: st) h Q := w_aload_n dL_law_1118 rfl
theorem XL_law_1118n : iWp d mL_law 1118 [a0, a1, .null, a3] st h Q = iWp d mL_law 1119 [a0, a1, .null, a3] (.null :: st) h Q := w_aload_nN dL_law_1118 rfl
theorem XL_law_1119 : iWp d mL_law 1119 [.ref p, a1, a2, a3] st h Q = iWp d mL_law 1120 [.ref p, a1, a2, a3] (.ref p :: st) h Q := w_aload_n dL_law_1119 rfl
theorem XL_law_1119n : iWp d mL_law 1119 [.null, a1, a2, a3] st h Q = iWp d mL_law 1120 [.null, a1, a2, a3] (.null :: st) h Q := w_aload_nN dL_law_1119 rfl
theorem XL_law_1120 : iWp d mL_law 1120 [a0, a1, a2, .int x] st h Q = iWp d mL_law 1121 [a0, a1, a2, .int x] (.int x :: st) h Q := w_iload_n dL_law_1120 rfl
theorem XL_law_1121 : iWp d mL_law 1121 [a0, a1, a2, a3] st h Q = iWp d mL_law 1122 [a0, a1, a2, a3] (.int 1 :: st) h Q := w_iconst dL_law_1121 rfl
theorem XL_law_1122 : iWp d mL_law 1122 [a0, a1, a2, a3] (.int y :: .int x :: st) h Q = iWp d mL_law 1123 [a0, a1, a2, a3] (.int (x + y) :: st) h Q := w_iadd dL_law_1122
theorem XL_law_1123 : iWp d mL_law 1123 [a0, a1, a2, a3] (.int x :: .ref p :: st) h Q = iOb (iLdI h p x) (fun v => iWp d mL_law 1124 [a0, a1, a2, a3] (.int v :: st) h Q) := w_iaload dL_law_1123
theorem XL_law_1124 (he : iEv mX9_squeeze [.ref p, .int x0] h (some (.int rv)) h2) (ho : iObj h p 9 = true) : iWp 60 mL_law 1124 [a0, a1, a2, a3] [.int x0, .ref p, .int r0] h Q = iWp 60 mL_law 1127 [a0, a1, a2, a3] [.int rv, .int r0] h2 Q := iWp_cV dL_law_1124 fK_10_129 rfl rfl ho (Nat.le_of_ble_eq_true rfl) (Nat.le_of_ble_eq_true rfl) rfl (Nat.le_of_ble_eq_true rfl) he rfl
theorem XL_law_1127 : iWp d mL_law 1127 [a0, a1, a2, a3] (.int y :: .int x :: st) h Q = if x = y then iWp d mL_law 1465 [a0, a1, a2, a3] st h Q else iWp d mL_law 1130 [a0, a1, a2, a3] st h Q := w_icmp_eq dL_law_1127 rfl
theorem XL_law_1130 : iWp d mL_law 1130 [a0, a1, a2, a3] st h Q = iWp d mL_law 1131 [a0, a1, a2, a3] (.int 0 :: st) h Q := w_iconst dL_law_1130 rfl
theorem XL_law_1131 : iWp d mL_law 1131 [a0, a1, a2, a3] [.int (iB b)] h Q = Q (some (.int (iB b))) h := w_iretb dL_law_1131 rfl
theorem XL_law_1131z : iWp d mL_law 1131 [a0, a1, a2, a3] [.int 0] h Q = Q (some (.int (iB false))) h := w_iretb (bb := false) dL_law_1131 rfl
theorem XL_law_1131o : iWp d mL_law 1131 [a0, a1, a2, a3] [.int 1] h Q = Q (some (.int (iB true))) h := w_iretb (bb := true) dL_law_1131 rfl
theorem XL_law_1132 : iWp d mL_law 1132 [a0, .ref p, a2, a3] st h Q = iWp d mL_law 1133 [a0, .ref p, a2, a3] (.ref p :: st) h Q := w_aload_n dL_law_1132 rfl
theorem XL_law_1132n : iWp d mL_law 1132 [a0, .null, a2, a3] st h Q = iWp d mL_law 1133 [a0, .null, a2, a3] (.null :: st) h Q := w_aload_nN dL_law_1132 rfl
theorem XL_law_1133 : iWp d mL_law 1133 [.ref p, a1, a2, a3] st h Q = iWp d mL_law 1134 [.ref p, a1, a2, a3] (.ref p :: st) h Q := w_aload_n dL_law_1133 rfl
theorem XL_law_1133n : iWp d mL_law 1133 [.null, a1, a2, a3] st h Q = iWp d mL_law 1134 [.null, a1, a2, a3] (.null :: st) h Q := w_aload_nN dL_law_1133 rfl
theorem XL_law_1134 : iWp d mL_law 1134 [a0, a1, a2, .int x] st h Q = iWp d mL_law 1135 [a0, a1, a2, .int x] (.int x :: st) h Q := w_iload_n dL_law_1134 rfl
theorem XL_law_1135 : iWp d mL_law 1135 [a0, a1, a2, a3] st h Q = iWp d mL_law 1136 [a0, a1, a2, a3] (.int 1 :: st) h Q := w_iconst dL_law_1135 rfl
theorem XL_law_1136 : iWp d mL_law 1136 [a0, a1, a2, a3] (.int y :: .int x :: st) h Q = iWp d mL_law 1137 [a0, a1, a2, a3] (.int (x + y) :: st) h Q := w_iadd dL_law_1136
theorem XL_law_1137 : iWp d mL_law 1137 [a0, a1, a2, a3] (.int x :: .ref p :: st) h Q = iOb (iLdI h p x) (fun v => iWp d mL_law 1138 [a0, a1, a2, a3] (.int v :: st) h Q) := w_iaload dL_law_1137
theorem XL_law_1138 : iWp d mL_law 1138 [.ref p, a1, a2, a3] st h Q = iWp d mL_law 1139 [.ref p, a1, a2, a3] (.ref p :: st) h Q := w_aload_n dL_law_1138 rfl
theorem XL_law_1138n : iWp d mL_law 1138 [.null, a1, a2, a3] st h Q = iWp d mL_law 1139 [.null, a1, a2, a3] (.null :: st) h Q := w_aload_nN dL_law_1138 rfl
theorem XL_law_1139 : iWp d mL_law 1139 [a0, a1, a2, .int x] st h Q = iWp d mL_law 1140 [a0, a1, a2, .int x] (.int x :: st) h Q := w_iload_n dL_law_1139 rfl
theorem XL_law_1140 : iWp d mL_law 1140 [a0, a1, a2, a3] st h Q = iWp d mL_law 1141 [a0, a1, a2, a3] (.int 2 :: st) h Q := w_iconst dL_law_1140 rfl
theorem XL_law_1141 : iWp d mL_law 1141 [a0, a1, a2, a3] (.int y :: .int x :: st) h Q = iWp d mL_law 1142 [a0, a1, a2, a3] (.int (x + y) :: st) h Q := w_iadd dL_law_1141
theorem XL_law_1142 : iWp d mL_law 1142 [a0, a1, a2, a3] (.int x :: .ref p :: st) h Q = iOb (iLdI h p x) (fun v => iWp d mL_law 1143 [a0, a1, a2, a3] (.int v :: st) h Q) := w_iaload dL_law_1142
theorem XL_law_1143 (he : iEv mX8_rebase [.ref p, .int x0, .int x1] h (some (.int rv)) h2) (ho : iObj h p 8 = true) : iWp 60 mL_law 1143 [a0, a1, a2, a3] [.int x1, .int x0, .ref p] h Q = iWp 60 mL_law 1146 [a0, a1, a2, a3] [.int rv] h2 Q := iWp_cV dL_law_1143 fK_10_130 rfl rfl ho (Nat.le_of_ble_eq_true rfl) (Nat.le_of_ble_eq_true rfl) rfl (Nat.le_of_ble_eq_true rfl) he rfl
theorem XL_law_1146 : iWp d mL_law 1146 [a0, a1, .ref p, a3] st h Q = iWp d mL_law 1147 [a0, a1, .ref p, a3] (.ref p :: st) h Q := w_aload_n dL_law_1146 rfl
theorem XL_law_1146n : iWp d mL_law 1146 [a0, a1, .null, a3] st h Q = iWp d mL_law 1147 [a0, a1, .null, a3] (.null :: st) h Q := w_aload_nN dL_law_1146 rfl
theorem XL_law_1147 : iWp d mL_law 1147 [.ref p, a1, a2, a3] st h Q = iWp d mL_law 1148 [.ref p, a1, a2, a3] (.ref p :: st) h Q := w_aload_n dL_law_1147 rfl
theorem XL_law_1147n : iWp d mL_law 1147 [.null, a1, a2, a3] st h Q = iWp d mL_law 1148 [.null, a1, a2, a3] (.null :: st) h Q := w_aload_nN dL_law_1147 rfl
theorem XL_law_1148 : iWp d mL_law 1148 [a0, a1, a2, .int x] st h Q = iWp d mL_law 1149 [a0, a1, a2, .int x] (.int x :: st) h Q := w_iload_n dL_law_1148 rfl
theorem XL_law_1149 : iWp d mL_law 1149 [a0, a1, a2, a3] st h Q = iWp d mL_law 1150 [a0, a1, a2, a3] (.int 1 :: st) h Q := w_iconst dL_law_1149 rfl
theorem XL_law_1150 : iWp d mL_law 1150 [a0, a1, a2, a3] (.int y :: .int x :: st) h Q = iWp d mL_law 1151 [a0, a1, a2, a3] (.int (x + y) :: st) h Q := w_iadd dL_law_1150
theorem XL_law_1151 : iWp d mL_law 1151 [a0, a1, a2, a3] (.int x :: .ref p :: st) h Q = iOb (iLdI h p x) (fun v => iWp d mL_law 1152 [a0, a1, a2, a3] (.int v :: st) h Q) := w_iaload dL_law_1151
theorem XL_law_1152 : iWp d mL_law 1152 [.ref p, a1, a2, a3] st h Q = iWp d mL_law 1153 [.ref p, a1, a2, a3] (.ref p :: st) h Q := w_aload_n dL_law_1152 rfl
theorem XL_law_1152n : iWp d mL_law 1152 [.null, a1, a2, a3] st h Q = iWp d mL_law 1153 [.null, a1, a2, a3] (.null :: st) h Q := w_aload_nN dL_law_1152 rfl
theorem XL_law_1153 : iWp d mL_law 1153 [a0, a1, a2, .int x] st h Q = iWp d mL_law 1154 [a0, a1, a2, .int x] (.int x :: st) h Q := w_iload_n dL_law_1153 rfl
theorem XL_law_1154 : iWp d mL_law 1154 [a0, a1, a2, a3] st h Q = iWp d mL_law 1155 [a0, a1, a2, a3] (.int 2 :: st) h Q := w_iconst dL_law_1154 rfl
theorem XL_law_1155 : iWp d mL_law 1155 [a0, a1, a2, a3] (.int y :: .int x :: st) h Q = iWp d mL_law 1156 [a0, a1, a2, a3] (.int (x + y) :: st) h Q := w_iadd dL_law_1155
theorem XL_law_1156 : iWp d mL_law 1156 [a0, a1, a2, a3] (.int x :: .ref p :: st) h Q = iOb (iLdI h p x) (fun v => iWp d mL_law 1157 [a0, a1, a2, a3] (.int v :: st) h Q) := w_iaload dL_law_1156
theorem XL_law_1157 (he : iEv mX9_rebase [.ref p, .int x0, .int x1] h (some (.int rv)) h2) (ho : iObj h p 9 = true) : iWp 60 mL_law 1157 [a0, a1, a2, a3] [.int x1, .int x0, .ref p, .int r0] h Q = iWp 60 mL_law 1160 [a0, a1, a2, a3] [.int rv, .int r0] h2 Q := iWp_cV dL_law_1157 fK_10_133 rfl rfl ho (Nat.le_of_ble_eq_true rfl) (Nat.le_of_ble_eq_true rfl) rfl (Nat.le_of_ble_eq_true rfl) he rfl
theorem XL_law_1160 : iWp d mL_law 1160 [a0, a1, a2, a3] (.int y :: .int x :: st) h Q = if x = y then iWp d mL_law 1465 [a0, a1, a2, a3] st h Q else iWp d mL_law 1163 [a0, a1, a2, a3] st h Q := w_icmp_eq dL_law_1160 rfl
theorem XL_law_1163 : iWp d mL_law 1163 [a0, a1, a2, a3] st h Q = iWp d mL_law 1164 [a0, a1, a2, a3] (.int 0 :: st) h Q := w_iconst dL_law_1163 rfl
theorem XL_law_1164 : iWp d mL_law 1164 [a0, a1, a2, a3] [.int (iB b)] h Q = Q (some (.int (iB b))) h := w_iretb dL_law_1164 rfl
theorem XL_law_1164z : iWp d mL_law 1164 [a0, a1, a2, a3] [.int 0] h Q = Q (some (.int (iB false))) h := w_iretb (bb := false) dL_law_1164 rfl
theorem XL_law_1164o : iWp d mL_law 1164 [a0, a1, a2, a3] [.int 1] h Q = Q (some (.int (iB true))) h := w_iretb (bb := true) dL_law_1164 rfl
theorem XL_law_1165 : iWp d mL_law 1165 [a0, .ref p, a2, a3] st h Q = iWp d mL_law 1166 [a0, .ref p, a2, a3] (.ref p :: st) h Q := w_aload_n dL_law_1165 rfl
theorem XL_law_1165n : iWp d mL_law 1165 [a0, .null, a2, a3] st h Q = iWp d mL_law 1166 [a0, .null, a2, a3] (.null :: st) h Q := w_aload_nN dL_law_1165 rfl
theorem XL_law_1166 : iWp d mL_law 1166 [.ref p, a1, a2, a3] st h Q = iWp d mL_law 1167 [.ref p, a1, a2, a3] (.ref p :: st) h Q := w_aload_n dL_law_1166 rfl
theorem XL_law_1166n : iWp d mL_law 1166 [.null, a1, a2, a3] st h Q = iWp d mL_law 1167 [.null, a1, a2, a3] (.null :: st) h Q := w_aload_nN dL_law_1166 rfl
theorem XL_law_1167 : iWp d mL_law 1167 [a0, a1, a2, .int x] st h Q = iWp d mL_law 1168 [a0, a1, a2, .int x] (.int x :: st) h Q := w_iload_n dL_law_1167 rfl
theorem XL_law_1168 : iWp d mL_law 1168 [a0, a1, a2, a3] st h Q = iWp d mL_law 1169 [a0, a1, a2, a3] (.int 1 :: st) h Q := w_iconst dL_law_1168 rfl
theorem XL_law_1169 : iWp d mL_law 1169 [a0, a1, a2, a3] (.int y :: .int x :: st) h Q = iWp d mL_law 1170 [a0, a1, a2, a3] (.int (x + y) :: st) h Q := w_iadd dL_law_1169
theorem XL_law_1170 : iWp d mL_law 1170 [a0, a1, a2, a3] (.int x :: .ref p :: st) h Q = iOb (iLdI h p x) (fun v => iWp d mL_law 1171 [a0, a1, a2, a3] (.int v :: st) h Q) := w_iaload dL_law_1170
theorem XL_law_1171 : iWp d mL_law 1171 [.ref p, a1, a2, a3] st h Q = iWp d mL_law 1172 [.ref p, a1, a2, a3] (.ref p :: st) h Q := w_aload_n dL_law_1171 rfl
theorem XL_law_1171n : iWp d mL_law 1171 [.null, a1, a2, a3] st h Q = iWp d mL_law 1172 [.null, a1, a2, a3] (.null :: st) h Q := w_aload_nN dL_law_1171 rfl
theorem XL_law_1172 : iWp d mL_law 1172 [a0, a1, a2, .int x] st h Q = iWp d mL_law 1173 [a0, a1, a2, .int x] (.int x :: st) h Q := w_iload_n dL_law_1172 rfl
theorem XL_law_1173 : iWp d mL_law 1173 [a0, a1, a2, a3] st h Q = iWp d mL_law 1174 [a0, a1, a2, a3] (.int 2 :: st) h Q := w_iconst dL_law_1173 rfl
theorem XL_law_1174 : iWp d mL_law 1174 [a0, a1, a2, a3] (.int y :: .int x :: st) h Q = iWp d mL_law 1175 [a0, a1, a2, a3] (.int (x + y) :: st) h Q := w_iadd dL_law_1174
theorem XL_law_1175 : iWp d mL_law 1175 [a0, a1, a2, a3] (.int x :: .ref p :: st) h Q = iOb (iLdI h p x) (fun v => iWp d mL_law 1176 [a0, a1, a2, a3] (.int v :: st) h Q) := w_iaload dL_law_1175
theorem XL_law_1176 : iWp d mL_law 1176 [.ref p, a1, a2, a3] st h Q = iWp d mL_law 1177 [.ref p, a1, a2, a3] (.ref p :: st) h Q := w_aload_n dL_law_1176 rfl
theorem XL_law_1176n : iWp d mL_law 1176 [.null, a1, a2, a3] st h Q = iWp d mL_law 1177 [.null, a1, a2, a3] (.null :: st) h Q := w_aload_nN dL_law_1176 rfl
theorem XL_law_1177 : iWp d mL_law 1177 [a0, a1, a2, .int x] st h Q = iWp d mL_law 1178 [a0, a1, a2, .int x] (.int x :: st) h Q := w_iload_n dL_law_1177 rfl
theorem XL_law_1178 : iWp d mL_law 1178 [a0, a1, a2, a3] st h Q = iWp d mL_law 1179 [a0, a1, a2, a3] (.int 3 :: st) h Q := w_iconst dL_law_1178 rfl
theorem XL_law_1179 : iWp d mL_law 1179 [a0, a1, a2, a3] (.int y :: .int x :: st) h Q = iWp d mL_law 1180 [a0, a1, a2, a3] (.int (x + y) :: st) h Q := w_iadd dL_law_1179
theorem XL_law_1180 : iWp d mL_law 1180 [a0, a1, a2, a3] (.int x :: .ref p :: st) h Q = iOb (iLdI h p x) (fun v => iWp d mL_law 1181 [a0, a1, a2, a3] (.int v :: st) h Q) := w_iaload dL_law_1180
theorem XL_law_1181 (he : iEv mX8_conflict [.ref p, .int x0, .int x1, .int x2] h (some (.int rv)) h2) (ho : iObj h p 8 = true) : iWp 60 mL_law 1181 [a0, a1, a2, a3] [.int x2, .int x1, .int x0, .ref p] h Q = iWp 60 mL_law 1184 [a0, a1, a2, a3] [.int rv] h2 Q := iWp_cV dL_law_1181 fK_10_134 rfl rfl ho (Nat.le_of_ble_eq_true rfl) (Nat.le_of_ble_eq_true rfl) rfl (Nat.le_of_ble_eq_true rfl) he rfl
theorem XL_law_1184 : iWp d mL_law 1184 [a0, a1, .ref p, a3] st h Q = iWp d mL_law 1185 [a0, a1, .ref p, a3] (.ref p :: st) h Q := w_aload_n dL_law_1184 rfl
theorem XL_law_1184n : iWp d mL_law 1184 [a0, a1, .null, a3] st h Q = iWp d mL_law 1185 [a0, a1, .null, a3] (.null :: st) h Q := w_aload_nN dL_law_1184 rfl
theorem XL_law_1185 : iWp d mL_law 1185 [.ref p, a1, a2, a3] st h Q = iWp d mL_law 1186 [.ref p, a1, a2, a3] (.ref p :: st) h Q := w_aload_n dL_law_1185 rfl
theorem XL_law_1185n : iWp d mL_law 1185 [.null, a1, a2, a3] st h Q = iWp d mL_law 1186 [.null, a1, a2, a3] (.null :: st) h Q := w_aload_nN dL_law_1185 rfl
theorem XL_law_1186 : iWp d mL_law 1186 [a0, a1, a2, .int x] st h Q = iWp d mL_law 1187 [a0, a1, a2, .int x] (.int x :: st) h Q := w_iload_n dL_law_1186 rfl
theorem XL_law_1187 : iWp d mL_law 1187 [a0, a1, a2, a3] st h Q = iWp d mL_law 1188 [a0, a1, a2, a3] (.int 1 :: st) h Q := w_iconst dL_law_1187 rfl
theorem XL_law_1188 : iWp d mL_law 1188 [a0, a1, a2, a3] (.int y :: .int x :: st) h Q = iWp d mL_law 1189 [a0, a1, a2, a3] (.int (x + y) :: st) h Q := w_iadd dL_law_1188
theorem XL_law_1189 : iWp d mL_law 1189 [a0, a1, a2, a3] (.int x :: .ref p :: st) h Q = iOb (iLdI h p x) (fun v => iWp d mL_law 1190 [a0, a1, a2, a3] (.int v :: st) h Q) := w_iaload dL_law_1189
theorem XL_law_1190 : iWp d mL_law 1190 [.ref p, a1, a2, a3] st h Q = iWp d mL_law 1191 [.ref p, a1, a2, a3] (.ref p :: st) h Q := w_aload_n dL_law_1190 rfl
theorem XL_law_1190n : iWp d mL_law 1190 [.null, a1, a2, a3] st h Q = iWp d mL_law 1191 [.null, a1, a2, a3] (.null :: st) h Q := w_aload_nN dL_law_1190 rfl
theorem XL_law_1191 : iWp d mL_law 1191 [a0, a1, a2, .int x] st h Q = iWp d mL_law 1192 [a0, a1, a2, .int x] (.int x :: st) h Q := w_iload_n dL_law_1191 rfl
theorem XL_law_1192 : iWp d mL_law 1192 [a0, a1, a2, a3] st h Q = iWp d mL_law 1193 [a0, a1, a2, a3] (.int 2 :: st) h Q := w_iconst dL_law_1192 rfl
theorem XL_law_1193 : iWp d mL_law 1193 [a0, a1, a2, a3] (.int y :: .int x :: st) h Q = iWp d mL_law 1194 [a0, a1, a2, a3] (.int (x + y) :: st) h Q := w_iadd dL_law_1193
theorem XL_law_1194 : iWp d mL_law 1194 [a0, a1, a2, a3] (.int x :: .ref p :: st) h Q = iOb (iLdI h p x) (fun v => iWp d mL_law 1195 [a0, a1, a2, a3] (.int v :: st) h Q) := w_iaload dL_law_1194
theorem XL_law_1195 : iWp d mL_law 1195 [.ref p, a1, a2, a3] st h Q = iWp d mL_law 1196 [.ref p, a1, a2, a3] (.ref p :: st) h Q := w_aload_n dL_law_1195 rfl
theorem XL_law_1195n : iWp d mL_law 1195 [.null, a1, a2, a3] st h Q = iWp d mL_law 1196 [.null, a1, a2, a3] (.null :: st) h Q := w_aload_nN dL_law_1195 rfl
theorem XL_law_1196 : iWp d mL_law 1196 [a0, a1, a2, .int x] st h Q = iWp d mL_law 1197 [a0, a1, a2, .int x] (.int x :: st) h Q := w_iload_n dL_law_1196 rfl
theorem XL_law_1197 : iWp d mL_law 1197 [a0, a1, a2, a3] st h Q = iWp d mL_law 1198 [a0, a1, a2, a3] (.int 3 :: st) h Q := w_iconst dL_law_1197 rfl
theorem XL_law_1198 : iWp d mL_law 1198 [a0, a1, a2, a3] (.int y :: .int x :: st) h Q = iWp d mL_law 1199 [a0, a1, a2, a3] (.int (x + y) :: st) h Q := w_iadd dL_law_1198
theorem XL_law_1199 : iWp d mL_law 1199 [a0, a1, a2, a3] (.int x :: .ref p :: st) h Q = iOb (iLdI h p x) (fun v => iWp d mL_law 1200 [a0, a1, a2, a3] (.int v :: st) h Q) := w_iaload dL_law_1199
theorem XL_law_1200 (he : iEv mX9_conflict [.ref p, .int x0, .int x1, .int x2] h (some (.int rv)) h2) (ho : iObj h p 9 = true) : iWp 60 mL_law 1200 [a0, a1, a2, a3] [.int x2, .int x1, .int x0, .ref p, .int r0] h Q = iWp 60 mL_law 1203 [a0, a1, a2, a3] [.int rv, .int r0] h2 Q := iWp_cV dL_law_1200 fK_10_137 rfl rfl ho (Nat.le_of_ble_eq_true rfl) (Nat.le_of_ble_eq_true rfl) rfl (Nat.le_of_ble_eq_true rfl) he rfl
theorem XL_law_1203 : iWp d mL_law 1203 [a0, a1, a2, a3] (.int y :: .int x :: st) h Q = if x = y then iWp d mL_law 1465 [a0, a1, a2, a3] st h Q else iWp d mL_law 1206 [a0, a1, a2, a3] st h Q := w_icmp_eq dL_law_1203 rfl
theorem XL_law_1206 : iWp d mL_law 1206 [a0, a1, a2, a3] st h Q = iWp d mL_law 1207 [a0, a1, a2, a3] (.int 0 :: st) h Q := w_iconst dL_law_1206 rfl
theorem XL_law_1207 : iWp d mL_law 1207 [a0, a1, a2, a3] [.int (iB b)] h Q = Q (some (.int (iB b))) h := w_iretb dL_law_1207 rfl
theorem XL_law_1207z : iWp d mL_law 1207 [a0, a1, a2, a3] [.int 0] h Q = Q (some (.int (iB false))) h := w_iretb (bb := false) dL_law_1207 rfl
theorem XL_law_1207o : iWp d mL_law 1207 [a0, a1, a2, a3] [.int 1] h Q = Q (some (.int (iB true))) h := w_iretb (bb := true) dL_law_1207 rfl
theorem XL_law_1208 : iWp d mL_law 1208 [a0, .ref p, a2, a3] st h Q = iWp d mL_law 1209 [a0, .ref p, a2, a3] (.ref p :: st) h Q := w_aload_n dL_law_1208 rfl
theorem XL_law_1208n : iWp d mL_law 1208 [a0, .null, a2, a3] st h Q = iWp d mL_law 1209 [a0, .null, a2, a3] (.null :: st) h Q := w_aload_nN dL_law_1208 rfl
theorem XL_law_1209 : iWp d mL_law 1209 [.ref p, a1, a2, a3] st h Q = iWp d mL_law 1210 [.ref p, a1, a2, a3] (.ref p :: st) h Q := w_aload_n dL_law_1209 rfl
theorem XL_law_1209n : iWp d mL_law 1209 [.null, a1, a2, a3] st h Q = iWp d mL_law 1210 [.null, a1, a2, a3] (.null :: st) h Q := w_aload_nN dL_law_1209 rfl
theorem XL_law_1210 : iWp d mL_law 1210 [a0, a1, a2, .int x] st h Q = iWp d mL_law 1211 [a0, a1, a2, .int x] (.int x :: st) h Q := w_iload_n dL_law_1210 rfl
theorem XL_law_1211 : iWp d mL_law 1211 [a0, a1, a2, a3] st h Q = iWp d mL_law 1212 [a0, a1, a2, a3] (.int 1 :: st) h Q := w_iconst dL_law_1211 rfl
theorem XL_law_1212 : iWp d mL_law 1212 [a0, a1, a2, a3] (.int y :: .int x :: st) h Q = iWp d mL_law 1213 [a0, a1, a2, a3] (.int (x + y) :: st) h Q := w_iadd dL_law_1212
theorem XL_law_1213 : iWp d mL_law 1213 [a0, a1, a2, a3] (.int x :: .ref p :: st) h Q = iOb (iLdI h p x) (fun v => iWp d mL_law 1214 [a0, a1, a2, a3] (.int v :: st) h Q) := w_iaload dL_law_1213
theorem XL_law_1214 : iWp d mL_law 1214 [.ref p, a1, a2, a3] st h Q = iWp d mL_law 1215 [.ref p, a1, a2, a3] (.ref p :: st) h Q := w_aload_n dL_law_1214 rfl
theorem XL_law_1214n : iWp d mL_law 1214 [.null, a1, a2, a3] st h Q = iWp d mL_law 1215 [.null, a1, a2, a3] (.null :: st) h Q := w_aload_nN dL_law_1214 rfl
theorem XL_law_1215 : iWp d mL_law 1215 [a0, a1, a2, .int x] st h Q = iWp d mL_law 1216 [a0, a1, a2, .int x] (.int x :: st) h Q := w_iload_n dL_law_1215 rfl
theorem XL_law_1216 : iWp d mL_law 1216 [a0, a1, a2, a3] st h Q = iWp d mL_law 1217 [a0, a1, a2, a3] (.int 2 :: st) h Q := w_iconst dL_law_1216 rfl
theorem XL_law_1217 : iWp d mL_law 1217 [a0, a1, a2, a3] (.int y :: .int x :: st) h Q = iWp d mL_law 1218 [a0, a1, a2, a3] (.int (x + y) :: st) h Q := w_iadd dL_law_1217
theorem XL_law_1218 : iWp d mL_law 1218 [a0, a1, a2, a3] (.int x :: .ref p :: st) h Q = iOb (iLdI h p x) (fun v => iWp d mL_law 1219 [a0, a1, a2, a3] (.int v :: st) h Q) := w_iaload dL_law_1218
theorem XL_law_1219 : iWp d mL_law 1219 [.ref p, a1, a2, a3] st h Q = iWp d mL_law 1220 [.ref p, a1, a2, a3] (.ref p :: st) h Q := w_aload_n dL_law_1219 rfl
theorem XL_law_1219n : iWp d mL_law 1219 [.null, a1, a2, a3] st h Q = iWp d mL_law 1220 [.null, a1, a2, a3] (.null :: st) h Q := w_aload_nN dL_law_1219 rfl
theorem XL_law_1220 : iWp d mL_law 1220 [a0, a1, a2, .int x] st h Q = iWp d mL_law 1221 [a0, a1, a2, .int x] (.int x :: st) h Q := w_iload_n dL_law_1220 rfl
theorem XL_law_1221 : iWp d mL_law 1221 [a0, a1, a2, a3] st h Q = iWp d mL_law 1222 [a0, a1, a2, a3] (.int 3 :: st) h Q := w_iconst dL_law_1221 rfl
theorem XL_law_1222 : iWp d mL_law 1222 [a0, a1, a2, a3] (.int y :: .int x :: st) h Q = iWp d mL_law 1223 [a0, a1, a2, a3] (.int (x + y) :: st) h Q := w_iadd dL_law_1222
theorem XL_law_1223 : iWp d mL_law 1223 [a0, a1, a2, a3] (.int x :: .ref p :: st) h Q = iOb (iLdI h p x) (fun v => iWp d mL_law 1224 [a0, a1, a2, a3] (.int v :: st) h Q) := w_iaload dL_law_1223
theorem XL_law_1224 (he : iEv mX8_hand [.ref p, .int x0, .int x1, .int x2] h (some (.int rv)) h2) (ho : iObj h p 8 = true) : iWp 60 mL_law 1224 [a0, a1, a2, a3] [.int x2, .int x1, .int x0, .ref p] h Q = iWp 60 mL_law 1227 [a0, a1, a2, a3] [.int rv] h2 Q := iWp_cV dL_law_1224 fK_10_138 rfl rfl ho (Nat.le_of_ble_eq_true rfl) (Nat.le_of_ble_eq_true rfl) rfl (Nat.le_of_ble_eq_true rfl) he rfl
theorem XL_law_1227 : iWp d mL_law 1227 [a0, a1, .ref p, a3] st h Q = iWp d mL_law 1228 [a0, a1, .ref p, a3] (.ref p :: st) h Q := w_aload_n dL_law_1227 rfl
theorem XL_law_1227n : iWp d mL_law 1227 [a0, a1, .null, a3] st h Q = iWp d mL_law 1228 [a0, a1, .null, a3] (.null :: st) h Q := w_aload_nN dL_law_1227 rfl
theorem XL_law_1228 : iWp d mL_law 1228 [.ref p, a1, a2, a3] st h Q = iWp d mL_law 1229 [.ref p, a1, a2, a3] (.ref p :: st) h Q := w_aload_n dL_law_1228 rfl
theorem XL_law_1228n : iWp d mL_law 1228 [.null, a1, a2, a3] st h Q = iWp d mL_law 1229 [.null, a1, a2, a3] (.null :: st) h Q := w_aload_nN dL_law_1228 rfl
theorem XL_law_1229 : iWp d mL_law 1229 [a0, a1, a2, .int x] st h Q = iWp d mL_law 1230 [a0, a1, a2, .int x] (.int x :: st) h Q := w_iload_n dL_law_1229 rfl
theorem XL_law_1230 : iWp d mL_law 1230 [a0, a1, a2, a3] st h Q = iWp d mL_law 1231 [a0, a1, a2, a3] (.int 1 :: st) h Q := w_iconst dL_law_1230 rfl
theorem XL_law_1231 : iWp d mL_law 1231 [a0, a1, a2, a3] (.int y :: .int x :: st) h Q = iWp d mL_law 1232 [a0, a1, a2, a3] (.int (x + y) :: st) h Q := w_iadd dL_law_1231
theorem XL_law_1232 : iWp d mL_law 1232 [a0, a1, a2, a3] (.int x :: .ref p :: st) h Q = iOb (iLdI h p x) (fun v => iWp d mL_law 1233 [a0, a1, a2, a3] (.int v :: st) h Q) := w_iaload dL_law_1232
theorem XL_law_1233 : iWp d mL_law 1233 [.ref p, a1, a2, a3] st h Q = iWp d mL_law 1234 [.ref p, a1, a2, a3] (.ref p :: st) h Q := w_aload_n dL_law_1233 rfl
theorem XL_law_1233n : iWp d mL_law 1233 [.null, a1, a2, a3] st h Q = iWp d mL_law 1234 [.null, a1, a2, a3] (.null :: st) h Q := w_aload_nN dL_law_1233 rfl
theorem XL_law_1234 : iWp d mL_law 1234 [a0, a1, a2, .int x] st h Q = iWp d mL_law 1235 [a0, a1, a2, .int x] (.int x :: st) h Q := w_iload_n dL_law_1234 rfl
theorem XL_law_1235 : iWp d mL_law 1235 [a0, a1, a2, a3] st h Q = iWp d mL_law 1236 [a0, a1, a2, a3] (.int 2 :: st) h Q := w_iconst dL_law_1235 rfl
theorem XL_law_1236 : iWp d mL_law 1236 [a0, a1, a2, a3] (.int y :: .int x :: st) h Q = iWp d mL_law 1237 [a0, a1, a2, a3] (.int (x + y) :: st) h Q := w_iadd dL_law_1236
theorem XL_law_1237 : iWp d mL_law 1237 [a0, a1, a2, a3] (.int x :: .ref p :: st) h Q = iOb (iLdI h p x) (fun v => iWp d mL_law 1238 [a0, a1, a2, a3] (.int v :: st) h Q) := w_iaload dL_law_1237
theorem XL_law_1238 : iWp d mL_law 1238 [.ref p, a1, a2, a3] st h Q = iWp d mL_law 1239 [.ref p, a1, a2, a3] (.ref p :: st) h Q := w_aload_n dL_law_1238 rfl
theorem XL_law_1238n : iWp d mL_law 1238 [.null, a1, a2, a3] st h Q = iWp d mL_law 1239 [.null, a1, a2, a3] (.null :: st) h Q := w_aload_nN dL_law_1238 rfl
theorem XL_law_1239 : iWp d mL_law 1239 [a0, a1, a2, .int x] st h Q = iWp d mL_law 1240 [a0, a1, a2, .int x] (.int x :: st) h Q := w_iload_n dL_law_1239 rfl
theorem XL_law_1240 : iWp d mL_law 1240 [a0, a1, a2, a3] st h Q = iWp d mL_law 1241 [a0, a1, a2, a3] (.int 3 :: st) h Q := w_iconst dL_law_1240 rfl
theorem XL_law_1241 : iWp d mL_law 1241 [a0, a1, a2, a3] (.int y :: .int x :: st) h Q = iWp d mL_law 1242 [a0, a1, a2, a3] (.int (x + y) :: st) h Q := w_iadd dL_law_1241
theorem XL_law_1242 : iWp d mL_law 1242 [a0, a1, a2, a3] (.int x :: .ref p :: st) h Q = iOb (iLdI h p x) (fun v => iWp d mL_law 1243 [a0, a1, a2, a3] (.int v :: st) h Q) := w_iaload dL_law_1242
theorem XL_law_1243 (he : iEv mX9_hand [.ref p, .int x0, .int x1, .int x2] h (some (.int rv)) h2) (ho : iObj h p 9 = true) : iWp 60 mL_law 1243 [a0, a1, a2, a3] [.int x2, .int x1, .int x0, .ref p, .int r0] h Q = iWp 60 mL_law 1246 [a0, a1, a2, a3] [.int rv, .int r0] h2 Q := iWp_cV dL_law_1243 fK_10_141 rfl rfl ho (Nat.le_of_ble_eq_true rfl) (Nat.le_of_ble_eq_true rfl) rfl (Nat.le_of_ble_eq_true rfl) he rfl
theorem XL_law_1246 : iWp d mL_law 1246 [a0, a1, a2, a3] (.int y :: .int x :: st) h Q = if x = y then iWp d mL_law 1465 [a0, a1, a2, a3] st h Q else iWp d mL_law 1249 [a0, a1, a2, a3] st h Q := w_icmp_eq dL_law_1246 rfl
theorem XL_law_1249 : iWp d mL_law 1249 [a0, a1, a2, a3] st h Q = iWp d mL_law 1250 [a0, a1, a2, a3] (.int 0 :: st) h Q := w_iconst dL_law_1249 rfl
theorem XL_law_1250 : iWp d mL_law 1250 [a0, a1, a2, a3] [.int (iB b)] h Q = Q (some (.int (iB b))) h := w_iretb dL_law_1250 rfl
theorem XL_law_1250z : iWp d mL_law 1250 [a0, a1, a2, a3] [.int 0] h Q = Q (some (.int (iB false))) h := w_iretb (bb := false) dL_law_1250 rfl
theorem XL_law_1250o : iWp d mL_law 1250 [a0, a1, a2, a3] [.int 1] h Q = Q (some (.int (iB true))) h := w_iretb (bb := true) dL_law_1250 rfl
theorem XL_law_1251 : iWp d mL_law 1251 [a0, .ref p, a2, a3] st h Q = iWp d mL_law 1252 [a0, .ref p, a2, a3] (.ref p :: st) h Q := w_aload_n dL_law_1251 rfl
theorem XL_law_1251n : iWp d mL_law 1251 [a0, .null, a2, a3] st h Q = iWp d mL_law 1252 [a0, .null, a2, a3] (.null :: st) h Q := w_aload_nN dL_law_1251 rfl
theorem XL_law_1252 : iWp d mL_law 1252 [.ref p, a1, a2, a3] st h Q = iWp d mL_law 1253 [.ref p, a1, a2, a3] (.ref p :: st) h Q := w_aload_n dL_law_1252 rfl
theorem XL_law_1252n : iWp d mL_law 1252 [.null, a1, a2, a3] st h Q = iWp d mL_law 1253 [.null, a1, a2, a3] (.null :: st) h Q := w_aload_nN dL_law_1252 rfl
theorem XL_law_1253 : iWp d mL_law 1253 [a0, a1, a2, .int x] st h Q = iWp d mL_law 1254 [a0, a1, a2, .int x] (.int x :: st) h Q := w_iload_n dL_law_1253 rfl
theorem XL_law_1254 : iWp d mL_law 1254 [a0, a1, a2, a3] st h Q = iWp d mL_law 1255 [a0, a1, a2, a3] (.int 1 :: st) h Q := w_iconst dL_law_1254 rfl
theorem XL_law_1255 : iWp d mL_law 1255 [a0, a1, a2, a3] (.int y :: .int x :: st) h Q = iWp d mL_law 1256 [a0, a1, a2, a3] (.int (x + y) :: st) h Q := w_iadd dL_law_1255
theorem XL_law_1256 : iWp d mL_law 1256 [a0, a1, a2, a3] (.int x :: .ref p :: st) h Q = iOb (iLdI h p x) (fun v => iWp d mL_law 1257 [a0, a1, a2, a3] (.int v :: st) h Q) := w_iaload dL_law_1256
theorem XL_law_1257 : iWp d mL_law 1257 [.ref p, a1, a2, a3] st h Q = iWp d mL_law 1258 [.ref p, a1, a2, a3] (.ref p :: st) h Q := w_aload_n dL_law_1257 rfl
theorem XL_law_1257n : iWp d mL_law 1257 [.null, a1, a2, a3] st h Q = iWp d mL_law 1258 [.null, a1, a2, a3] (.null :: st) h Q := w_aload_nN dL_law_1257 rfl
theorem XL_law_1258 : iWp d mL_law 1258 [a0, a1, a2, .int x] st h Q = iWp d mL_law 1259 [a0, a1, a2, .int x] (.int x :: st) h Q := w_iload_n dL_law_1258 rfl
theorem XL_law_1259 : iWp d mL_law 1259 [a0, a1, a2, a3] st h Q = iWp d mL_law 1260 [a0, a1, a2, a3] (.int 2 :: st) h Q := w_iconst dL_law_1259 rfl
theorem XL_law_1260 : iWp d mL_law 1260 [a0, a1, a2, a3] (.int y :: .int x :: st) h Q = iWp d mL_law 1261 [a0, a1, a2, a3] (.int (x + y) :: st) h Q := w_iadd dL_law_1260
theorem XL_law_1261 : iWp d mL_law 1261 [a0, a1, a2, a3] (.int x :: .ref p :: st) h Q = iOb (iLdI h p x) (fun v => iWp d mL_law 1262 [a0, a1, a2, a3] (.int v :: st) h Q) := w_iaload dL_law_1261
theorem XL_law_1262 : iWp d mL_law 1262 [.ref p, a1, a2, a3] st h Q = iWp d mL_law 1263 [.ref p, a1, a2, a3] (.ref p :: st) h Q := w_aload_n dL_law_1262 rfl
theorem XL_law_1262n : iWp d mL_law 1262 [.null, a1, a2, a3] st h Q = iWp d mL_law 1263 [.null, a1, a2, a3] (.null :: st) h Q := w_aload_nN dL_law_1262 rfl
theorem XL_law_1263 : iWp d mL_law 1263 [a0, a1, a2, .int x] st h Q = iWp d mL_law 1264 [a0, a1, a2, .int x] (.int x :: st) h Q := w_iload_n dL_law_1263 rfl
theorem XL_law_1264 : iWp d mL_law 1264 [a0, a1, a2, a3] st h Q = iWp d mL_law 1265 [a0, a1, a2, a3] (.int 3 :: st) h Q := w_iconst dL_law_1264 rfl
theorem XL_law_1265 : iWp d mL_law 1265 [a0, a1, a2, a3] (.int y :: .int x :: st) h Q = iWp d mL_law 1266 [a0, a1, a2, a3] (.int (x + y) :: st) h Q := w_iadd dL_law_1265
theorem XL_law_1266 : iWp d mL_law 1266 [a0, a1, a2, a3] (.int x :: .ref p :: st) h Q = iOb (iLdI h p x) (fun v => iWp d mL_law 1267 [a0, a1, a2, a3] (.int v :: st) h Q) := w_iaload dL_law_1266
theorem XL_law_1267 : iWp d mL_law 1267 [.ref p, a1, a2, a3] st h Q = iWp d mL_law 1268 [.ref p, a1, a2, a3] (.ref p :: st) h Q := w_aload_n dL_law_1267 rfl
theorem XL_law_1267n : iWp d mL_law 1267 [.null, a1, a2, a3] st h Q = iWp d mL_law 1268 [.null, a1, a2, a3] (.null :: st) h Q := w_aload_nN dL_law_1267 rfl
theorem XL_law_1268 : iWp d mL_law 1268 [a0, a1, a2, .int x] st h Q = iWp d mL_law 1269 [a0, a1, a2, .int x] (.int x :: st) h Q := w_iload_n dL_law_1268 rfl
theorem XL_law_1269 : iWp d mL_law 1269 [a0, a1, a2, a3] st h Q = iWp d mL_law 1270 [a0, a1, a2, a3] (.int 4 :: st) h Q := w_iconst dL_law_1269 rfl
theorem XL_law_1270 : iWp d mL_law 1270 [a0, a1, a2, a3] (.int y :: .int x :: st) h Q = iWp d mL_law 1271 [a0, a1, a2, a3] (.int (x + y) :: st) h Q := w_iadd dL_law_1270
theorem XL_law_1271 : iWp d mL_law 1271 [a0, a1, a2, a3] (.int x :: .ref p :: st) h Q = iOb (iLdI h p x) (fun v => iWp d mL_law 1272 [a0, a1, a2, a3] (.int v :: st) h Q) := w_iaload dL_law_1271
theorem XL_law_1272 (he : iEv mX8_put [.ref p, .int x0, .int x1, .int x2, .int x3] h (some (.int rv)) h2) (ho : iObj h p 8 = true) : iWp 60 mL_law 1272 [a0, a1, a2, a3] [.int x3, .int x2, .int x1, .int x0, .ref p] h Q = iWp 60 mL_law 1275 [a0, a1, a2, a3] [.int rv] h2 Q := iWp_cV dL_law_1272 fK_10_142 rfl rfl ho (Nat.le_of_ble_eq_true rfl) (Nat.le_of_ble_eq_true rfl) rfl (Nat.le_of_ble_eq_true rfl) he rfl
theorem XL_law_1275 : iWp d mL_law 1275 [a0, a1, .ref p, a3] st h Q = iWp d mL_law 1276 [a0, a1, .ref p, a3] (.ref p :: st) h Q := w_aload_n dL_law_1275 rfl
theorem XL_law_1275n : iWp d mL_law 1275 [a0, a1, .null, a3] st h Q = iWp d mL_law 1276 [a0, a1, .null, a3] (.null :: st) h Q := w_aload_nN dL_law_1275 rfl
theorem XL_law_1276 : iWp d mL_law 1276 [.ref p, a1, a2, a3] st h Q = iWp d mL_law 1277 [.ref p, a1, a2, a3] (.ref p :: st) h Q := w_aload_n dL_law_1276 rfl
theorem XL_law_1276n : iWp d mL_law 1276 [.null, a1, a2, a3] st h Q = iWp d mL_law 1277 [.null, a1, a2, a3] (.null :: st) h Q := w_aload_nN dL_law_1276 rfl
theorem XL_law_1277 : iWp d mL_law 1277 [a0, a1, a2, .int x] st h Q = iWp d mL_law 1278 [a0, a1, a2, .int x] (.int x :: st) h Q := w_iload_n dL_law_1277 rfl
theorem XL_law_1278 : iWp d mL_law 1278 [a0, a1, a2, a3] st h Q = iWp d mL_law 1279 [a0, a1, a2, a3] (.int 1 :: st) h Q := w_iconst dL_law_1278 rfl
theorem XL_law_1279 : iWp d mL_law 1279 [a0, a1, a2, a3] (.int y :: .int x :: st) h Q = iWp d mL_law 1280 [a0, a1, a2, a3] (.int (x + y) :: st) h Q := w_iadd dL_law_1279
theorem XL_law_1280 : iWp d mL_law 1280 [a0, a1, a2, a3] (.int x :: .ref p :: st) h Q = iOb (iLdI h p x) (fun v => iWp d mL_law 1281 [a0, a1, a2, a3] (.int v :: st) h Q) := w_iaload dL_law_1280
theorem XL_law_1281 : iWp d mL_law 1281 [.ref p, a1, a2, a3] st h Q = iWp d mL_law 1282 [.ref p, a1, a2, a3] (.ref p :: st) h Q := w_aload_n dL_law_1281 rfl
theorem XL_law_1281n : iWp d mL_law 1281 [.null, a1, a2, a3] st h Q = iWp d mL_law 1282 [.null, a1, a2, a3] (.null :: st) h Q := w_aload_nN dL_law_1281 rfl
theorem XL_law_1282 : iWp d mL_law 1282 [a0, a1, a2, .int x] st h Q = iWp d mL_law 1283 [a0, a1, a2, .int x] (.int x :: st) h Q := w_iload_n dL_law_1282 rfl
theorem XL_law_1283 : iWp d mL_law 1283 [a0, a1, a2, a3] st h Q = iWp d mL_law 1284 [a0, a1, a2, a3] (.int 2 :: st) h Q := w_iconst dL_law_1283 rfl
theorem XL_law_1284 : iWp d mL_law 1284 [a0, a1, a2, a3] (.int y :: .int x :: st) h Q = iWp d mL_law 1285 [a0, a1, a2, a3] (.int (x + y) :: st) h Q := w_iadd dL_law_1284
theorem XL_law_1285 : iWp d mL_law 1285 [a0, a1, a2, a3] (.int x :: .ref p :: st) h Q = iOb (iLdI h p x) (fun v => iWp d mL_law 1286 [a0, a1, a2, a3] (.int v :: st) h Q) := w_iaload dL_law_1285
theorem XL_law_1286 : iWp d mL_law 1286 [.ref p, a1, a2, a3] st h Q = iWp d mL_law 1287 [.ref p, a1, a2, a3] (.ref p :: st) h Q := w_aload_n dL_law_1286 rfl
theorem XL_law_1286n : iWp d mL_law 1286 [.null, a1, a2, a3] st h Q = iWp d mL_law 1287 [.null, a1, a2, a3] (.null :: st) h Q := w_aload_nN dL_law_1286 rfl
theorem XL_law_1287 : iWp d mL_law 1287 [a0, a1, a2, .int x] st h Q = iWp d mL_law 1288 [a0, a1, a2, .int x] (.int x :: st) h Q := w_iload_n dL_law_1287 rfl
theorem XL_law_1288 : iWp d mL_law 1288 [a0, a1, a2, a3] st h Q = iWp d mL_law 1289 [a0, a1, a2, a3] (.int 3 :: st) h Q := w_iconst dL_law_1288 rfl
theorem XL_law_1289 : iWp d mL_law 1289 [a0, a1, a2, a3] (.int y :: .int x :: st) h Q = iWp d mL_law 1290 [a0, a1, a2, a3] (.int (x + y) :: st) h Q := w_iadd dL_law_1289
theorem XL_law_1290 : iWp d mL_law 1290 [a0, a1, a2, a3] (.int x :: .ref p :: st) h Q = iOb (iLdI h p x) (fun v => iWp d mL_law 1291 [a0, a1, a2, a3] (.int v :: st) h Q) := w_iaload dL_law_1290
theorem XL_law_1291 : iWp d mL_law 1291 [.ref p, a1, a2, a3] st h Q = iWp d mL_law 1292 [.ref p, a1, a2, a3] (.ref p :: st) h Q := w_aload_n dL_law_1291 rfl
theorem XL_law_1291n : iWp d mL_law 1291 [.null, a1, a2, a3] st h Q = iWp d mL_law 1292 [.null, a1, a2, a3] (.null :: st) h Q := w_aload_nN dL_law_1291 rfl
theorem XL_law_1292 : iWp d mL_law 1292 [a0, a1, a2, .int x] st h Q = iWp d mL_law 1293 [a0, a1, a2, .int x] (.int x :: st) h Q := w_iload_n dL_law_1292 rfl
theorem XL_law_1293 : iWp d mL_law 1293 [a0, a1, a2, a3] st h Q = iWp d mL_law 1294 [a0, a1, a2, a3] (.int 4 :: st) h Q := w_iconst dL_law_1293 rfl
theorem XL_law_1294 : iWp d mL_law 1294 [a0, a1, a2, a3] (.int y :: .int x :: st) h Q = iWp d mL_law 1295 [a0, a1, a2, a3] (.int (x + y) :: st) h Q := w_iadd dL_law_1294
theorem XL_law_1295 : iWp d mL_law 1295 [a0, a1, a2, a3] (.int x :: .ref p :: st) h Q = iOb (iLdI h p x) (fun v => iWp d mL_law 1296 [a0, a1, a2, a3] (.int v :: st) h Q) := w_iaload dL_law_1295
theorem XL_law_1296 (he : iEv mX9_put [.ref p, .int x0, .int x1, .int x2, .int x3] h (some (.int rv)) h2) (ho : iObj h p 9 = true) : iWp 60 mL_law 1296 [a0, a1, a2, a3] [.int x3, .int x2, .int x1, .int x0, .ref p, .int r0] h Q = iWp 60 mL_law 1299 [a0, a1, a2, a3] [.int rv, .int r0] h2 Q := iWp_cV dL_law_1296 fK_10_146 rfl rfl ho (Nat.le_of_ble_eq_true rfl) (Nat.le_of_ble_eq_true rfl) rfl (Nat.le_of_ble_eq_true rfl) he rfl
theorem XL_law_1299 : iWp d mL_law 1299 [a0, a1, a2, a3] (.int y :: .int x :: st) h Q = if x = y then iWp d mL_law 1465 [a0, a1, a2, a3] st h Q else iWp d mL_law 1302 [a0, a1, a2, a3] st h Q := w_icmp_eq dL_law_1299 rfl
theorem XL_law_1302 : iWp d mL_law 1302 [a0, a1, a2, a3] st h Q = iWp d mL_law 1303 [a0, a1, a2, a3] (.int 0 :: st) h Q := w_iconst dL_law_1302 rfl
theorem XL_law_1303 : iWp d mL_law 1303 [a0, a1, a2, a3] [.int (iB b)] h Q = Q (some (.int (iB b))) h := w_iretb dL_law_1303 rfl
theorem XL_law_1303z : iWp d mL_law 1303 [a0, a1, a2, a3] [.int 0] h Q = Q (some (.int (iB false))) h := w_iretb (bb := false) dL_law_1303 rfl
theorem XL_law_1303o : iWp d mL_law 1303 [a0, a1, a2, a3] [.int 1] h Q = Q (some (.int (iB true))) h := w_iretb (bb := true) dL_law_1303 rfl
theorem XL_law_1304 : iWp d mL_law 1304 [a0, .ref p, a2, a3] st h Q = iWp d mL_law 1305 [a0, .ref p, a2, a3] (.ref p :: st) h Q := w_aload_n dL_law_1304 rfl
theorem XL_law_1304n : iWp d mL_law 1304 [a0, .null, a2, a3] st h Q = iWp d mL_law 1305 [a0, .null, a2, a3] (.null :: st) h Q := w_aload_nN dL_law_1304 rfl
theorem XL_law_1305 (he : iEv mX8_forget [.ref p] h (some (.int rv)) h2) (ho : iObj h p 8 = true) : iWp 60 mL_law 1305 [a0, a1, a2, a3] [.ref p] h Q = iWp 60 mL_law 1308 [a0, a1, a2, a3] [.int rv] h2 Q := iWp_cV dL_law_1305 fK_10_147 rfl rfl ho (Nat.le_of_ble_eq_true rfl) (Nat.le_of_ble_eq_true rfl) rfl (Nat.le_of_ble_eq_true rfl) he rfl
theorem XL_law_1308 : iWp d mL_law 1308 [a0, a1, .ref p, a3] st h Q = iWp d mL_law 1309 [a0, a1, .ref p, a3] (.ref p :: st) h Q := w_aload_n dL_law_1308 rfl
theorem XL_law_1308n : iWp d mL_law 1308 [a0, a1, .null, a3] st h Q = iWp d mL_law 1309 [a0, a1, .null, a3] (.null :: st) h Q := w_aload_nN dL_law_1308 rfl
theorem XL_law_1309 (he : iEv mX9_forget [.ref p] h (some (.int rv)) h2) (ho : iObj h p 9 = true) : iWp 60 mL_law 1309 [a0, a1, a2, a3] [.ref p, .int r0] h Q = iWp 60 mL_law 1312 [a0, a1, a2, a3] [.int rv, .int r0] h2 Q := iWp_cV dL_law_1309 fK_10_150 rfl rfl ho (Nat.le_of_ble_eq_true rfl) (Nat.le_of_ble_eq_true rfl) rfl (Nat.le_of_ble_eq_true rfl) he rfl
theorem XL_law_1312 : iWp d mL_law 1312 [a0, a1, a2, a3] (.int y :: .int x :: st) h Q = if x = y then iWp d mL_law 1465 [a0, a1, a2, a3] st h Q else iWp d mL_law 1315 [a0, a1, a2, a3] st h Q := w_icmp_eq dL_law_1312 rfl
theorem XL_law_1315 : iWp d mL_law 1315 [a0, a1, a2, a3] st h Q = iWp d mL_law 1316 [a0, a1, a2, a3] (.int 0 :: st) h Q := w_iconst dL_law_1315 rfl
theorem XL_law_1316 : iWp d mL_law 1316 [a0, a1, a2, a3] [.int (iB b)] h Q = Q (some (.int (iB b))) h := w_iretb dL_law_1316 rfl
theorem XL_law_1316z : iWp d mL_law 1316 [a0, a1, a2, a3] [.int 0] h Q = Q (some (.int (iB false))) h := w_iretb (bb := false) dL_law_1316 rfl
theorem XL_law_1316o : iWp d mL_law 1316 [a0, a1, a2, a3] [.int 1] h Q = Q (some (.int (iB true))) h := w_iretb (bb := true) dL_law_1316 rfl
theorem XL_law_1317 : iWp d mL_law 1317 [a0, .ref p, a2, a3] st h Q = iWp d mL_law 1318 [a0, .ref p, a2, a3] (.ref p :: st) h Q := w_aload_n dL_law_1317 rfl
theorem XL_law_1317n : iWp d mL_law 1317 [a0, .null, a2, a3] st h Q = iWp d mL_law 1318 [a0, .null, a2, a3] (.null :: st) h Q := w_aload_nN dL_law_1317 rfl
theorem XL_law_1318 : iWp d mL_law 1318 [.ref p, a1, a2, a3] st h Q = iWp d mL_law 1319 [.ref p, a1, a2, a3] (.ref p :: st) h Q := w_aload_n dL_law_1318 rfl
theorem XL_law_1318n : iWp d mL_law 1318 [.null, a1, a2, a3] st h Q = iWp d mL_law 1319 [.null, a1, a2, a3] (.null :: st) h Q := w_aload_nN dL_law_1318 rfl
theorem XL_law_1319 : iWp d mL_law 1319 [a0, a1, a2, .int x] st h Q = iWp d mL_law 1320 [a0, a1, a2, .int x] (.int x :: st) h Q := w_iload_n dL_law_1319 rfl
theorem XL_law_1320 : iWp d mL_law 1320 [a0, a1, a2, a3] st h Q = iWp d mL_law 1321 [a0, a1, a2, a3] (.int 1 :: st) h Q := w_iconst dL_law_1320 rfl
theorem XL_law_1321 : iWp d mL_law 1321 [a0, a1, a2, a3] (.int y :: .int x :: st) h Q = iWp d mL_law 1322 [a0, a1, a2, a3] (.int (x + y) :: st) h Q := w_iadd dL_law_1321
theorem XL_law_1322 : iWp d mL_law 1322 [a0, a1, a2, a3] (.int x :: .ref p :: st) h Q = iOb (iLdI h p x) (fun v => iWp d mL_law 1323 [a0, a1, a2, a3] (.int v :: st) h Q) := w_iaload dL_law_1322
theorem XL_law_1323 : iWp d mL_law 1323 [.ref p, a1, a2, a3] st h Q = iWp d mL_law 1324 [.ref p, a1, a2, a3] (.ref p :: st) h Q := w_aload_n dL_law_1323 rfl
theorem XL_law_1323n : iWp d mL_law 1323 [.null, a1, a2, a3] st h Q = iWp d mL_law 1324 [.null, a1, a2, a3] (.null :: st) h Q := w_aload_nN dL_law_1323 rfl
theorem XL_law_1324 : iWp d mL_law 1324 [a0, a1, a2, .int x] st h Q = iWp d mL_law 1325 [a0, a1, a2, .int x] (.int x :: st) h Q := w_iload_n dL_law_1324 rfl
theorem XL_law_1325 : iWp d mL_law 1325 [a0, a1, a2, a3] st h Q = iWp d mL_law 1326 [a0, a1, a2, a3] (.int 2 :: st) h Q := w_iconst dL_law_1325 rfl
theorem XL_law_1326 : iWp d mL_law 1326 [a0, a1, a2, a3] (.int y :: .int x :: st) h Q = iWp d mL_law 1327 [a0, a1, a2, a3] (.int (x + y) :: st) h Q := w_iadd dL_law_1326
theorem XL_law_1327 : iWp d mL_law 1327 [a0, a1, a2, a3] (.int x :: .ref p :: st) h Q = iOb (iLdI h p x) (fun v => iWp d mL_law 1328 [a0, a1, a2, a3] (.int v :: st) h Q) := w_iaload dL_law_1327
theorem XL_law_1328 : iWp d mL_law 1328 [.ref p, a1, a2, a3] st h Q = iWp d mL_law 1329 [.ref p, a1, a2, a3] (.ref p :: st) h Q := w_aload_n dL_law_1328 rfl
theorem XL_law_1328n : iWp d mL_law 1328 [.null, a1, a2, a3] st h Q = iWp d mL_law 1329 [.null, a1, a2, a3] (.null :: st) h Q := w_aload_nN dL_law_1328 rfl
theorem XL_law_1329 : iWp d mL_law 1329 [a0, a1, a2, .int x] st h Q = iWp d mL_law 1330 [a0, a1, a2, .int x] (.int x :: st) h Q := w_iload_n dL_law_1329 rfl
theorem XL_law_1330 : iWp d mL_law 1330 [a0, a1, a2, a3] st h Q = iWp d mL_law 1331 [a0, a1, a2, a3] (.int 3 :: st) h Q := w_iconst dL_law_1330 rfl
theorem XL_law_1331 : iWp d mL_law 1331 [a0, a1, a2, a3] (.int y :: .int x :: st) h Q = iWp d mL_law 1332 [a0, a1, a2, a3] (.int (x + y) :: st) h Q := w_iadd dL_law_1331
theorem XL_law_1332 : iWp d mL_law 1332 [a0, a1, a2, a3] (.int x :: .ref p :: st) h Q = iOb (iLdI h p x) (fun v => iWp d mL_law 1333 [a0, a1, a2, a3] (.int v :: st) h Q) := w_iaload dL_law_1332
theorem XL_law_1333 (he : iEv mX8_judge [.ref p, .int x0, .int x1, .int x2] h (some (.int rv)) h2) (ho : iObj h p 8 = true) : iWp 60 mL_law 1333 [a0, a1, a2, a3] [.int x2, .int x1, .int x0, .ref p] h Q = iWp 60 mL_law 1336 [a0, a1, a2, a3] [.int rv] h2 Q := iWp_cV dL_law_1333 fK_10_151 rfl rfl ho (Nat.le_of_ble_eq_true rfl) (Nat.le_of_ble_eq_true rfl) rfl (Nat.le_of_ble_eq_true rfl) he rfl
theorem XL_law_1336 : iWp d mL_law 1336 [a0, a1, .ref p, a3] st h Q = iWp d mL_law 1337 [a0, a1, .ref p, a3] (.ref p :: st) h Q := w_aload_n dL_law_1336 rfl
theorem XL_law_1336n : iWp d mL_law 1336 [a0, a1, .null, a3] st h Q = iWp d mL_law 1337 [a0, a1, .null, a3] (.null :: st) h Q := w_aload_nN dL_law_1336 rfl
theorem XL_law_1337 : iWp d mL_law 1337 [.ref p, a1, a2, a3] st h Q = iWp d mL_law 1338 [.ref p, a1, a2, a3] (.ref p :: st) h Q := w_aload_n dL_law_1337 rfl
theorem XL_law_1337n : iWp d mL_law 1337 [.null, a1, a2, a3] st h Q = iWp d mL_law 1338 [.null, a1, a2, a3] (.null :: st) h Q := w_aload_nN dL_law_1337 rfl
theorem XL_law_1338 : iWp d mL_law 1338 [a0, a1, a2, .int x] st h Q = iWp d mL_law 1339 [a0, a1, a2, .int x] (.int x :: st) h Q := w_iload_n dL_law_1338 rfl
theorem XL_law_1339 : iWp d mL_law 1339 [a0, a1, a2, a3] st h Q = iWp d mL_law 1340 [a0, a1, a2, a3] (.int 1 :: st) h Q := w_iconst dL_law_1339 rfl
theorem XL_law_1340 : iWp d mL_law 1340 [a0, a1, a2, a3] (.int y :: .int x :: st) h Q = iWp d mL_law 1341 [a0, a1, a2, a3] (.int (x + y) :: st) h Q := w_iadd dL_law_1340
theorem XL_law_1341 : iWp d mL_law 1341 [a0, a1, a2, a3] (.int x :: .ref p :: st) h Q = iOb (iLdI h p x) (fun v => iWp d mL_law 1342 [a0, a1, a2, a3] (.int v :: st) h Q) := w_iaload dL_law_1341
theorem XL_law_1342 : iWp d mL_law 1342 [.ref p, a1, a2, a3] st h Q = iWp d mL_law 1343 [.ref p, a1, a2, a3] (.ref p :: st) h Q := w_aload_n dL_law_1342 rfl
theorem XL_law_1342n : iWp d mL_law 1342 [.null, a1, a2, a3] st h Q = iWp d mL_law 1343 [.null, a1, a2, a3] (.null :: st) h Q := w_aload_nN dL_law_1342 rfl
theorem XL_law_1343 : iWp d mL_law 1343 [a0, a1, a2, .int x] st h Q = iWp d mL_law 1344 [a0, a1, a2, .int x] (.int x :: st) h Q := w_iload_n dL_law_1343 rfl
theorem XL_law_1344 : iWp d mL_law 1344 [a0, a1, a2, a3] st h Q = iWp d mL_law 1345 [a0, a1, a2, a3] (.int 2 :: st) h Q := w_iconst dL_law_1344 rfl
theorem XL_law_1345 : iWp d mL_law 1345 [a0, a1, a2, a3] (.int y :: .int x :: st) h Q = iWp d mL_law 1346 [a0, a1, a2, a3] (.int (x + y) :: st) h Q := w_iadd dL_law_1345
theorem XL_law_1346 : iWp d mL_law 1346 [a0, a1, a2, a3] (.int x :: .ref p :: st) h Q = iOb (iLdI h p x) (fun v => iWp d mL_law 1347 [a0, a1, a2, a3] (.int v :: st) h Q) := w_iaload dL_law_1346
theorem XL_law_1347 : iWp d mL_law 1347 [.ref p, a1, a2, a3] st h Q = iWp d mL_law 1348 [.ref p, a1, a2, a3] (.ref p :: st) h Q := w_aload_n dL_law_1347 rfl
theorem XL_law_1347n : iWp d mL_law 1347 [.null, a1, a2, a3] st h Q = iWp d mL_law 1348 [.null, a1, a2, a3] (.null :: st) h Q := w_aload_nN dL_law_1347 rfl
theorem XL_law_1348 : iWp d mL_law 1348 [a0, a1, a2, .int x] st h Q = iWp d mL_law 1349 [a0, a1, a2, .int x] (.int x :: st) h Q := w_iload_n dL_law_1348 rfl
theorem XL_law_1349 : iWp d mL_law 1349 [a0, a1, a2, a3] st h Q = iWp d mL_law 1350 [a0, a1, a2, a3] (.int 3 :: st) h Q := w_iconst dL_law_1349 rfl
theorem XL_law_1350 : iWp d mL_law 1350 [a0, a1, a2, a3] (.int y :: .int x :: st) h Q = iWp d mL_law 1351 [a0, a1, a2, a3] (.int (x + y) :: st) h Q := w_iadd dL_law_1350
theorem XL_law_1351 : iWp d mL_law 1351 [a0, a1, a2, a3] (.int x :: .ref p :: st) h Q = iOb (iLdI h p x) (fun v => iWp d mL_law 1352 [a0, a1, a2, a3] (.int v :: st) h Q) := w_iaload dL_law_1351
theorem XL_law_1352 (he : iEv mX9_judge [.ref p, .int x0, .int x1, .int x2] h (some (.int rv)) h2) (ho : iObj h p 9 = true) : iWp 60 mL_law 1352 [a0, a1, a2, a3] [.int x2, .int x1, .int x0, .ref p, .int r0] h Q = iWp 60 mL_law 1355 [a0, a1, a2, a3] [.int rv, .int r0] h2 Q := iWp_cV dL_law_1352 fK_10_154 rfl rfl ho (Nat.le_of_ble_eq_true rfl) (Nat.le_of_ble_eq_true rfl) rfl (Nat.le_of_ble_eq_true rfl) he rfl
theorem XL_law_1355 : iWp d mL_law 1355 [a0, a1, a2, a3] (.int y :: .int x :: st) h Q = if x = y then iWp d mL_law 1465 [a0, a1, a2, a3] st h Q else iWp d mL_law 1358 [a0, a1, a2, a3] st h Q := w_icmp_eq dL_law_1355 rfl
theorem XL_law_1358 : iWp d mL_law 1358 [a0, a1, a2, a3] st h Q = iWp d mL_law 1359 [a0, a1, a2, a3] (.int 0 :: st) h Q := w_iconst dL_law_1358 rfl
theorem XL_law_1359 : iWp d mL_law 1359 [a0, a1, a2, a3] [.int (iB b)] h Q = Q (some (.int (iB b))) h := w_iretb dL_law_1359 rfl
theorem XL_law_1359z : iWp d mL_law 1359 [a0, a1, a2, a3] [.int 0] h Q = Q (some (.int (iB false))) h := w_iretb (bb := false) dL_law_1359 rfl
theorem XL_law_1359o : iWp d mL_law 1359 [a0, a1, a2, a3] [.int 1] h Q = Q (some (.int (iB true))) h := w_iretb (bb := true) dL_law_1359 rfl
theorem XL_law_1360 : iWp d mL_law 1360 [a0, .ref p, a2, a3] st h Q = iWp d mL_law 1361 [a0, .ref p, a2, a3] (.ref p :: st) h Q := w_aload_n dL_law_1360 rfl
theorem XL_law_1360n : iWp d mL_law 1360 [a0, .null, a2, a3] st h Q = iWp d mL_law 1361 [a0, .null, a2, a3] (.null :: st) h Q := w_aload_nN dL_law_1360 rfl
theorem XL_law_1361 : iWp d mL_law 1361 [.ref p, a1, a2, a3] st h Q = iWp d mL_law 1362 [.ref p, a1, a2, a3] (.ref p :: st) h Q := w_aload_n dL_law_1361 rfl
theorem XL_law_1361n : iWp d mL_law 1361 [.null, a1, a2, a3] st h Q = iWp d mL_law 1362 [.null, a1, a2, a3] (.null :: st) h Q := w_aload_nN dL_law_1361 rfl
theorem XL_law_1362 : iWp d mL_law 1362 [a0, a1, a2, .int x] st h Q = iWp d mL_law 1363 [a0, a1, a2, .int x] (.int x :: st) h Q := w_iload_n dL_law_1362 rfl
theorem XL_law_1363 : iWp d mL_law 1363 [a0, a1, a2, a3] st h Q = iWp d mL_law 1364 [a0, a1, a2, a3] (.int 1 :: st) h Q := w_iconst dL_law_1363 rfl
theorem XL_law_1364 : iWp d mL_law 1364 [a0, a1, a2, a3] (.int y :: .int x :: st) h Q = iWp d mL_law 1365 [a0, a1, a2, a3] (.int (x + y) :: st) h Q := w_iadd dL_law_1364
theorem XL_law_1365 : iWp d mL_law 1365 [a0, a1, a2, a3] (.int x :: .ref p :: st) h Q = iOb (iLdI h p x) (fun v => iWp d mL_law 1366 [a0, a1, a2, a3] (.int v :: st) h Q) := w_iaload dL_law_1365
theorem XL_law_1366 : iWp d mL_law 1366 [.ref p, a1, a2, a3] st h Q = iWp d mL_law 1367 [.ref p, a1, a2, a3] (.ref p :: st) h Q := w_aload_n dL_law_1366 rfl
theorem XL_law_1366n : iWp d mL_law 1366 [.null, a1, a2, a3] st h Q = iWp d mL_law 1367 [.null, a1, a2, a3] (.null :: st) h Q := w_aload_nN dL_law_1366 rfl
theorem XL_law_1367 : iWp d mL_law 1367 [a0, a1, a2, .int x] st h Q = iWp d mL_law 1368 [a0, a1, a2, .int x] (.int x :: st) h Q := w_iload_n dL_law_1367 rfl
theorem XL_law_1368 : iWp d mL_law 1368 [a0, a1, a2, a3] st h Q = iWp d mL_law 1369 [a0, a1, a2, a3] (.int 2 :: st) h Q := w_iconst dL_law_1368 rfl
theorem XL_law_1369 : iWp d mL_law 1369 [a0, a1, a2, a3] (.int y :: .int x :: st) h Q = iWp d mL_law 1370 [a0, a1, a2, a3] (.int (x + y) :: st) h Q := w_iadd dL_law_1369
theorem XL_law_1370 : iWp d mL_law 1370 [a0, a1, a2, a3] (.int x :: .ref p :: st) h Q = iOb (iLdI h p x) (fun v => iWp d mL_law 1371 [a0, a1, a2, a3] (.int v :: st) h Q) := w_iaload dL_law_1370
theorem XL_law_1371 (he : iEv mX8_days [.ref p, .int x0, .int x1] h (some (.int rv)) h2) (ho : iObj h p 8 = true) : iWp 60 mL_law 1371 [a0, a1, a2, a3] [.int x1, .int x0, .ref p] h Q = iWp 60 mL_law 1374 [a0, a1, a2, a3] [.int rv] h2 Q := iWp_cV dL_law_1371 fK_10_155 rfl rfl ho (Nat.le_of_ble_eq_true rfl) (Nat.le_of_ble_eq_true rfl) rfl (Nat.le_of_ble_eq_true rfl) he rfl
theorem XL_law_1374 : iWp d mL_law 1374 [a0, a1, .ref p, a3] st h Q = iWp d mL_law 1375 [a0, a1, .ref p, a3] (.ref p :: st) h Q := w_aload_n dL_law_1374 rfl
theorem XL_law_1374n : iWp d mL_law 1374 [a0, a1, .null, a3] st h Q = iWp d mL_law 1375 [a0, a1, .null, a3] (.null :: st) h Q := w_aload_nN dL_law_1374 rfl
theorem XL_law_1375 : iWp d mL_law 1375 [.ref p, a1, a2, a3] st h Q = iWp d mL_law 1376 [.ref p, a1, a2, a3] (.ref p :: st) h Q := w_aload_n dL_law_1375 rfl
theorem XL_law_1375n : iWp d mL_law 1375 [.null, a1, a2, a3] st h Q = iWp d mL_law 1376 [.null, a1, a2, a3] (.null :: st) h Q := w_aload_nN dL_law_1375 rfl
theorem XL_law_1376 : iWp d mL_law 1376 [a0, a1, a2, .int x] st h Q = iWp d mL_law 1377 [a0, a1, a2, .int x] (.int x :: st) h Q := w_iload_n dL_law_1376 rfl
theorem XL_law_1377 : iWp d mL_law 1377 [a0, a1, a2, a3] st h Q = iWp d mL_law 1378 [a0, a1, a2, a3] (.int 1 :: st) h Q := w_iconst dL_law_1377 rfl
theorem XL_law_1378 : iWp d mL_law 1378 [a0, a1, a2, a3] (.int y :: .int x :: st) h Q = iWp d mL_law 1379 [a0, a1, a2, a3] (.int (x + y) :: st) h Q := w_iadd dL_law_1378
theorem XL_law_1379 : iWp d mL_law 1379 [a0, a1, a2, a3] (.int x :: .ref p :: st) h Q = iOb (iLdI h p x) (fun v => iWp d mL_law 1380 [a0, a1, a2, a3] (.int v :: st) h Q) := w_iaload dL_law_1379
theorem XL_law_1380 : iWp d mL_law 1380 [.ref p, a1, a2, a3] st h Q = iWp d mL_law 1381 [.ref p, a1, a2, a3] (.ref p :: st) h Q := w_aload_n dL_law_1380 rfl
theorem XL_law_1380n : iWp d mL_law 1380 [.null, a1, a2, a3] st h Q = iWp d mL_law 1381 [.null, a1, a2, a3] (.null :: st) h Q := w_aload_nN dL_law_1380 rfl
theorem XL_law_1381 : iWp d mL_law 1381 [a0, a1, a2, .int x] st h Q = iWp d mL_law 1382 [a0, a1, a2, .int x] (.int x :: st) h Q := w_iload_n dL_law_1381 rfl
theorem XL_law_1382 : iWp d mL_law 1382 [a0, a1, a2, a3] st h Q = iWp d mL_law 1383 [a0, a1, a2, a3] (.int 2 :: st) h Q := w_iconst dL_law_1382 rfl
theorem XL_law_1383 : iWp d mL_law 1383 [a0, a1, a2, a3] (.int y :: .int x :: st) h Q = iWp d mL_law 1384 [a0, a1, a2, a3] (.int (x + y) :: st) h Q := w_iadd dL_law_1383
theorem XL_law_1384 : iWp d mL_law 1384 [a0, a1, a2, a3] (.int x :: .ref p :: st) h Q = iOb (iLdI h p x) (fun v => iWp d mL_law 1385 [a0, a1, a2, a3] (.int v :: st) h Q) := w_iaload dL_law_1384
theorem XL_law_1385 (he : iEv mX9_days [.ref p, .int x0, .int x1] h (some (.int rv)) h2) (ho : iObj h p 9 = true) : iWp 60 mL_law 1385 [a0, a1, a2, a3] [.int x1, .int x0, .ref p, .int r0] h Q = iWp 60 mL_law 1388 [a0, a1, a2, a3] [.int rv, .int r0] h2 Q := iWp_cV dL_law_1385 fK_10_158 rfl rfl ho (Nat.le_of_ble_eq_true rfl) (Nat.le_of_ble_eq_true rfl) rfl (Nat.le_of_ble_eq_true rfl) he rfl
theorem XL_law_1388 : iWp d mL_law 1388 [a0, a1, a2, a3] (.int y :: .int x :: st) h Q = if x = y then iWp d mL_law 1465 [a0, a1, a2, a3] st h Q else iWp d mL_law 1391 [a0, a1, a2, a3] st h Q := w_icmp_eq dL_law_1388 rfl
theorem XL_law_1391 : iWp d mL_law 1391 [a0, a1, a2, a3] st h Q = iWp d mL_law 1392 [a0, a1, a2, a3] (.int 0 :: st) h Q := w_iconst dL_law_1391 rfl
theorem XL_law_1392 : iWp d mL_law 1392 [a0, a1, a2, a3] [.int (iB b)] h Q = Q (some (.int (iB b))) h := w_iretb dL_law_1392 rfl
theorem XL_law_1392z : iWp d mL_law 1392 [a0, a1, a2, a3] [.int 0] h Q = Q (some (.int (iB false))) h := w_iretb (bb := false) dL_law_1392 rfl
theorem XL_law_1392o : iWp d mL_law 1392 [a0, a1, a2, a3] [.int 1] h Q = Q (some (.int (iB true))) h := w_iretb (bb := true) dL_law_1392 rfl
theorem XL_law_1393 : iWp d mL_law 1393 [a0, .ref p, a2, a3] st h Q = iWp d mL_law 1394 [a0, .ref p, a2, a3] (.ref p :: st) h Q := w_aload_n dL_law_1393 rfl
theorem XL_law_1393n : iWp d mL_law 1393 [a0, .null, a2, a3] st h Q = iWp d mL_law 1394 [a0, .null, a2, a3] (.null :: st) h Q := w_aload_nN dL_law_1393 rfl
theorem XL_law_1394 : iWp d mL_law 1394 [.ref p, a1, a2, a3] st h Q = iWp d mL_law 1395 [.ref p, a1, a2, a3] (.ref p :: st) h Q := w_aload_n dL_law_1394 rfl
theorem XL_law_1394n : iWp d mL_law 1394 [.null, a1, a2, a3] st h Q = iWp d mL_law 1395 [.null, a1, a2, a3] (.null :: st) h Q := w_aload_nN dL_law_1394 rfl
theorem XL_law_1395 : iWp d mL_law 1395 [a0, a1, a2, .int x] st h Q = iWp d mL_law 1396 [a0, a1, a2, .int x] (.int x :: st) h Q := w_iload_n dL_law_1395 rfl
theorem XL_law_1396 : iWp d mL_law 1396 [a0, a1, a2, a3] st h Q = iWp d mL_law 1397 [a0, a1, a2, a3] (.int 1 :: st) h Q := w_iconst dL_law_1396 rfl
theorem XL_law_1397 : iWp d mL_law 1397 [a0, a1, a2, a3] (.int y :: .int x :: st) h Q = iWp d mL_law 1398 [a0, a1, a2, a3] (.int (x + y) :: st) h Q := w_iadd dL_law_1397
theorem XL_law_1398 : iWp d mL_law 1398 [a0, a1, a2, a3] (.int x :: .ref p :: st) h Q = iOb (iLdI h p x) (fun v => iWp d mL_law 1399 [a0, a1, a2, a3] (.int v :: st) h Q) := w_iaload dL_law_1398
theorem XL_law_1399 (he : iEv mX8_seed [.ref p, .int x0] h (some (.int rv)) h2) (ho : iObj h p 8 = true) : iWp 60 mL_law 1399 [a0, a1, a2, a3] [.int x0, .ref p] h Q = iWp 60 mL_law 1402 [a0, a1, a2, a3] [.int rv] h2 Q := iWp_cV dL_law_1399 fK_10_159 rfl rfl ho (Nat.le_of_ble_eq_true rfl) (Nat.le_of_ble_eq_true rfl) rfl (Nat.le_of_ble_eq_true rfl) he rfl
theorem XL_law_1402 : iWp d mL_law 1402 [a0, a1, .ref p, a3] st h Q = iWp d mL_law 1403 [a0, a1, .ref p, a3] (.ref p :: st) h Q := w_aload_n dL_law_1402 rfl
theorem XL_law_1402n : iWp d mL_law 1402 [a0, a1, .null, a3] st h Q = iWp d mL_law 1403 [a0, a1, .null, a3] (.null :: st) h Q := w_aload_nN dL_law_1402 rfl
theorem XL_law_1403 : iWp d mL_law 1403 [.ref p, a1, a2, a3] st h Q = iWp d mL_law 1404 [.ref p, a1, a2, a3] (.ref p :: st) h Q := w_aload_n dL_law_1403 rfl
theorem XL_law_1403n : iWp d mL_law 1403 [.null, a1, a2, a3] st h Q = iWp d mL_law 1404 [.null, a1, a2, a3] (.null :: st) h Q := w_aload_nN dL_law_1403 rfl
theorem XL_law_1404 : iWp d mL_law 1404 [a0, a1, a2, .int x] st h Q = iWp d mL_law 1405 [a0, a1, a2, .int x] (.int x :: st) h Q := w_iload_n dL_law_1404 rfl
theorem XL_law_1405 : iWp d mL_law 1405 [a0, a1, a2, a3] st h Q = iWp d mL_law 1406 [a0, a1, a2, a3] (.int 1 :: st) h Q := w_iconst dL_law_1405 rfl
theorem XL_law_1406 : iWp d mL_law 1406 [a0, a1, a2, a3] (.int y :: .int x :: st) h Q = iWp d mL_law 1407 [a0, a1, a2, a3] (.int (x + y) :: st) h Q := w_iadd dL_law_1406
theorem XL_law_1407 : iWp d mL_law 1407 [a0, a1, a2, a3] (.int x :: .ref p :: st) h Q = iOb (iLdI h p x) (fun v => iWp d mL_law 1408 [a0, a1, a2, a3] (.int v :: st) h Q) := w_iaload dL_law_1407
theorem XL_law_1408 (he : iEv mX9_seed [.ref p, .int x0] h (some (.int rv)) h2) (ho : iObj h p 9 = true) : iWp 60 mL_law 1408 [a0, a1, a2, a3] [.int x0, .ref p, .int r0] h Q = iWp 60 mL_law 1411 [a0, a1, a2, a3] [.int rv, .int r0] h2 Q := iWp_cV dL_law_1408 fK_10_162 rfl rfl ho (Nat.le_of_ble_eq_true rfl) (Nat.le_of_ble_eq_true rfl) rfl (Nat.le_of_ble_eq_true rfl) he rfl
theorem XL_law_1411 : iWp d mL_law 1411 [a0, a1, a2, a3] (.int y :: .int x :: st) h Q = if x = y then iWp d mL_law 1465 [a0, a1, a2, a3] st h Q else iWp d mL_law 1414 [a0, a1, a2, a3] st h Q := w_icmp_eq dL_law_1411 rfl
theorem XL_law_1414 : iWp d mL_law 1414 [a0, a1, a2, a3] st h Q = iWp d mL_law 1415 [a0, a1, a2, a3] (.int 0 :: st) h Q := w_iconst dL_law_1414 rfl
theorem XL_law_1415 : iWp d mL_law 1415 [a0, a1, a2, a3] [.int (iB b)] h Q = Q (some (.int (iB b))) h := w_iretb dL_law_1415 rfl
theorem XL_law_1415z : iWp d mL_law 1415 [a0, a1, a2, a3] [.int 0] h Q = Q (some (.int (iB false))) h := w_iretb (bb := false) dL_law_1415 rfl
theorem XL_law_1415o : iWp d mL_law 1415 [a0, a1, a2, a3] [.int 1] h Q = Q (some (.int (iB true))) h := w_iretb (bb := true) dL_law_1415 rfl
theorem XL_law_1416 : iWp d mL_law 1416 [a0, .ref p, a2, a3] st h Q = iWp d mL_law 1417 [a0, .ref p, a2, a3] (.ref p :: st) h Q := w_aload_n dL_law_1416 rfl
theorem XL_law_1416n : iWp d mL_law 1416 [a0, .null, a2, a3] st h Q = iWp d mL_law 1417 [a0, .null, a2, a3] (.null :: st) h Q := w_aload_nN dL_law_1416 rfl
theorem XL_law_1417 (he : iEv mX8_image [.ref p] h (some (.int rv)) h2) (ho : iObj h p 8 = true) : iWp 60 mL_law 1417 [a0, a1, a2, a3] [.ref p] h Q = iWp 60 mL_law 1420 [a0, a1, a2, a3] [.int rv] h2 Q := iWp_cV dL_law_1417 fK_10_163 rfl rfl ho (Nat.le_of_ble_eq_true rfl) (Nat.le_of_ble_eq_true rfl) rfl (Nat.le_of_ble_eq_true rfl) he rfl
theorem XL_law_1420 : iWp d mL_law 1420 [a0, a1, .ref p, a3] st h Q = iWp d mL_law 1421 [a0, a1, .ref p, a3] (.ref p :: st) h Q := w_aload_n dL_law_1420 rfl
theorem XL_law_1420n : iWp d mL_law 1420 [a0, a1, .null, a3] st h Q = iWp d mL_law 1421 [a0, a1, .null, a3] (.null :: st) h Q := w_aload_nN dL_law_1420 rfl
theorem XL_law_1421 (he : iEv mX9_image [.ref p] h (some (.int rv)) h2) (ho : iObj h p 9 = true) : iWp 60 mL_law 1421 [a0, a1, a2, a3] [.ref p, .int r0] h Q = iWp 60 mL_law 1424 [a0, a1, a2, a3] [.int rv, .int r0] h2 Q := iWp_cV dL_law_1421 fK_10_166 rfl rfl ho (Nat.le_of_ble_eq_true rfl) (Nat.le_of_ble_eq_true rfl) rfl (Nat.le_of_ble_eq_true rfl) he rfl
theorem XL_law_1424 : iWp d mL_law 1424 [a0, a1, a2, a3] (.int y :: .int x :: st) h Q = if x = y then iWp d mL_law 1465 [a0, a1, a2, a3] st h Q else iWp d mL_law 1427 [a0, a1, a2, a3] st h Q := w_icmp_eq dL_law_1424 rfl
theorem XL_law_1427 : iWp d mL_law 1427 [a0, a1, a2, a3] st h Q = iWp d mL_law 1428 [a0, a1, a2, a3] (.int 0 :: st) h Q := w_iconst dL_law_1427 rfl
theorem XL_law_1428 : iWp d mL_law 1428 [a0, a1, a2, a3] [.int (iB b)] h Q = Q (some (.int (iB b))) h := w_iretb dL_law_1428 rfl
theorem XL_law_1428z : iWp d mL_law 1428 [a0, a1, a2, a3] [.int 0] h Q = Q (some (.int (iB false))) h := w_iretb (bb := false) dL_law_1428 rfl
theorem XL_law_1428o : iWp d mL_law 1428 [a0, a1, a2, a3] [.int 1] h Q = Q (some (.int (iB true))) h := w_iretb (bb := true) dL_law_1428 rfl
theorem XL_law_1429 : iWp d mL_law 1429 [a0, .ref p, a2, a3] st h Q = iWp d mL_law 1430 [a0, .ref p, a2, a3] (.ref p :: st) h Q := w_aload_n dL_law_1429 rfl
theorem XL_law_1429n : iWp d mL_law 1429 [a0, .null, a2, a3] st h Q = iWp d mL_law 1430 [a0, .null, a2, a3] (.null :: st) h Q := w_aload_nN dL_law_1429 rfl
theorem XL_law_1430 (he : iEv mX8_restore [.ref p] h (some (.int rv)) h2) (ho : iObj h p 8 = true) : iWp 60 mL_law 1430 [a0, a1, a2, a3] [.ref p] h Q = iWp 60 mL_law 1433 [a0, a1, a2, a3] [.int rv] h2 Q := iWp_cV dL_law_1430 fK_10_167 rfl rfl ho (Nat.le_of_ble_eq_true rfl) (Nat.le_of_ble_eq_true rfl) rfl (Nat.le_of_ble_eq_true rfl) he rfl
theorem XL_law_1433 : iWp d mL_law 1433 [a0, a1, .ref p, a3] st h Q = iWp d mL_law 1434 [a0, a1, .ref p, a3] (.ref p :: st) h Q := w_aload_n dL_law_1433 rfl
theorem XL_law_1433n : iWp d mL_law 1433 [a0, a1, .null, a3] st h Q = iWp d mL_law 1434 [a0, a1, .null, a3] (.null :: st) h Q := w_aload_nN dL_law_1433 rfl
theorem XL_law_1434 (he : iEv mX9_restore [.ref p] h (some (.int rv)) h2) (ho : iObj h p 9 = true) : iWp 60 mL_law 1434 [a0, a1, a2, a3] [.ref p, .int r0] h Q = iWp 60 mL_law 1437 [a0, a1, a2, a3] [.int rv, .int r0] h2 Q := iWp_cV dL_law_1434 fK_10_170 rfl rfl ho (Nat.le_of_ble_eq_true rfl) (Nat.le_of_ble_eq_true rfl) rfl (Nat.le_of_ble_eq_true rfl) he rfl
theorem XL_law_1437 : iWp d mL_law 1437 [a0, a1, a2, a3] (.int y :: .int x :: st) h Q = if x = y then iWp d mL_law 1465 [a0, a1, a2, a3] st h Q else iWp d mL_law 1440 [a0, a1, a2, a3] st h Q := w_icmp_eq dL_law_1437 rfl
theorem XL_law_1440 : iWp d mL_law 1440 [a0, a1, a2, a3] st h Q = iWp d mL_law 1441 [a0, a1, a2, a3] (.int 0 :: st) h Q := w_iconst dL_law_1440 rfl
theorem XL_law_1441 : iWp d mL_law 1441 [a0, a1, a2, a3] [.int (iB b)] h Q = Q (some (.int (iB b))) h := w_iretb dL_law_1441 rfl
theorem XL_law_1441z : iWp d mL_law 1441 [a0, a1, a2, a3] [.int 0] h Q = Q (some (.int (iB false))) h := w_iretb (bb := false) dL_law_1441 rfl
theorem XL_law_1441o : iWp d mL_law 1441 [a0, a1, a2, a3] [.int 1] h Q = Q (some (.int (iB true))) h := w_iretb (bb := true) dL_law_1441 rfl
theorem XL_law_1442 : iWp d mL_law 1442 [a0, .ref p, a2, a3] st h Q = iWp d mL_law 1443 [a0, .ref p, a2, a3] (.ref p :: st) h Q := w_aload_n dL_law_1442 rfl
theorem XL_law_1442n : iWp d mL_law 1442 [a0, .null, a2, a3] st h Q = iWp d mL_law 1443 [a0, .null, a2, a3] (.null :: st) h Q := w_aload_nN dL_law_1442 rfl
theorem XL_law_1443 : iWp d mL_law 1443 [.ref p, a1, a2, a3] st h Q = iWp d mL_law 1444 [.ref p, a1, a2, a3] (.ref p :: st) h Q := w_aload_n dL_law_1443 rfl
theorem XL_law_1443n : iWp d mL_law 1443 [.null, a1, a2, a3] st h Q = iWp d mL_law 1444 [.null, a1, a2, a3] (.null :: st) h Q := w_aload_nN dL_law_1443 rfl
theorem XL_law_1444 : iWp d mL_law 1444 [a0, a1, a2, .int x] st h Q = iWp d mL_law 1445 [a0, a1, a2, .int x] (.int x :: st) h Q := w_iload_n dL_law_1444 rfl
theorem XL_law_1445 : iWp d mL_law 1445 [a0, a1, a2, a3] st h Q = iWp d mL_law 1446 [a0, a1, a2, a3] (.int 1 :: st) h Q := w_iconst dL_law_1445 rfl
theorem XL_law_1446 : iWp d mL_law 1446 [a0, a1, a2, a3] (.int y :: .int x :: st) h Q = iWp d mL_law 1447 [a0, a1, a2, a3] (.int (x + y) :: st) h Q := w_iadd dL_law_1446
theorem XL_law_1447 : iWp d mL_law 1447 [a0, a1, a2, a3] (.int x :: .ref p :: st) h Q = iOb (iLdI h p x) (fun v => iWp d mL_law 1448 [a0, a1, a2, a3] (.int v :: st) h Q) := w_iaload dL_law_1447
theorem XL_law_1448 (he : iEv mX8_status [.ref p, .int x0] h (some (.int rv)) h2) (ho : iObj h p 8 = true) : iWp 60 mL_law 1448 [a0, a1, a2, a3] [.int x0, .ref p] h Q = iWp 60 mL_law 1451 [a0, a1, a2, a3] [.int rv] h2 Q := iWp_cV dL_law_1448 fK_10_171 rfl rfl ho (Nat.le_of_ble_eq_true rfl) (Nat.le_of_ble_eq_true rfl) rfl (Nat.le_of_ble_eq_true rfl) he rfl
theorem XL_law_1451 : iWp d mL_law 1451 [a0, a1, .ref p, a3] st h Q = iWp d mL_law 1452 [a0, a1, .ref p, a3] (.ref p :: st) h Q := w_aload_n dL_law_1451 rfl
theorem XL_law_1451n : iWp d mL_law 1451 [a0, a1, .null, a3] st h Q = iWp d mL_law 1452 [a0, a1, .null, a3] (.null :: st) h Q := w_aload_nN dL_law_1451 rfl
theorem XL_law_1452 : iWp d mL_law 1452 [.ref p, a1, a2, a3] st h Q = iWp d mL_law 1453 [.ref p, a1, a2, a3] (.ref p :: st) h Q := w_aload_n dL_law_1452 rfl
theorem XL_law_1452n : iWp d mL_law 1452 [.null, a1, a2, a3] st h Q = iWp d mL_law 1453 [.null, a1, a2, a3] (.null :: st) h Q := w_aload_nN dL_law_1452 rfl
theorem XL_law_1453 : iWp d mL_law 1453 [a0, a1, a2, .int x] st h Q = iWp d mL_law 1454 [a0, a1, a2, .int x] (.int x :: st) h Q := w_iload_n dL_law_1453 rfl
theorem XL_law_1454 : iWp d mL_law 1454 [a0, a1, a2, a3] st h Q = iWp d mL_law 1455 [a0, a1, a2, a3] (.int 1 :: st) h Q := w_iconst dL_law_1454 rfl
theorem XL_law_1455 : iWp d mL_law 1455 [a0, a1, a2, a3] (.int y :: .int x :: st) h Q = iWp d mL_law 1456 [a0, a1, a2, a3] (.int (x + y) :: st) h Q := w_iadd dL_law_1455
theorem XL_law_1456 : iWp d mL_law 1456 [a0, a1, a2, a3] (.int x :: .ref p :: st) h Q = iOb (iLdI h p x) (fun v => iWp d mL_law 1457 [a0, a1, a2, a3] (.int v :: st) h Q) := w_iaload dL_law_1456
theorem XL_law_1457 (he : iEv mX9_status [.ref p, .int x0] h (some (.int rv)) h2) (ho : iObj h p 9 = true) : iWp 60 mL_law 1457 [a0, a1, a2, a3] [.int x0, .ref p, .int r0] h Q = iWp 60 mL_law 1460 [a0, a1, a2, a3] [.int rv, .int r0] h2 Q := iWp_cV dL_law_1457 fK_10_174 rfl rfl ho (Nat.le_of_ble_eq_true rfl) (Nat.le_of_ble_eq_true rfl) rfl (Nat.le_of_ble_eq_true rfl) he rfl
theorem XL_law_1460 : iWp d mL_law 1460 [a0, a1, a2, a3] (.int y :: .int x :: st) h Q = if x = y then iWp d mL_law 1465 [a0, a1, a2, a3] st h Q else iWp d mL_law 1463 [a0, a1, a2, a3] st h Q := w_icmp_eq dL_law_1460 rfl
theorem XL_law_1463 : iWp d mL_law 1463 [a0, a1, a2, a3] st h Q = iWp d mL_law 1464 [a0, a1, a2, a3] (.int 0 :: st) h Q := w_iconst dL_law_1463 rfl
theorem XL_law_1464 : iWp d mL_law 1464 [a0, a1, a2, a3] [.int (iB b)] h Q = Q (some (.int (iB b))) h := w_iretb dL_law_1464 rfl
theorem XL_law_1464z : iWp d mL_law 1464 [a0, a1, a2, a3] [.int 0] h Q = Q (some (.int (iB false))) h := w_iretb (bb := false) dL_law_1464 rfl
theorem XL_law_1464o : iWp d mL_law 1464 [a0, a1, a2, a3] [.int 1] h Q = Q (some (.int (iB true))) h := w_iretb (bb := true) dL_law_1464 rfl
theorem XL_law_1465 : iWp d mL_law 1465 [a0, a1, a2, .int x] st h Q = iWp d mL_law 1468 [a0, a1, iClr a2, .int (x + 6)] st h Q := w_iinc dL_law_1465 rfl (Nat.le_of_ble_eq_true rfl) rfl
theorem XL_law_1468 : iWp d mL_law 1468 [a0, a1, a2, a3] st h Q = iWp d mL_law 18 [a0, a1, a2, a3] st h Q := w_goto dL_law_1468 rfl
theorem XL_law_1471 : iWp d mL_law 1471 [a0, a1, a2, a3] st h Q = iWp d mL_law 1472 [a0, a1, a2, a3] (.int 1 :: st) h Q := w_iconst dL_law_1471 rfl
theorem XL_law_1472 : iWp d mL_law 1472 [a0, a1, a2, a3] [.int (iB b)] h Q = Q (some (.int (iB b))) h := w_iretb dL_law_1472 rfl
theorem XL_law_1472z : iWp d mL_law 1472 [a0, a1, a2, a3] [.int 0] h Q = Q (some (.int (iB false))) h := w_iretb (bb := false) dL_law_1472 rfl
theorem XL_law_1472o : iWp d mL_law 1472 [a0, a1, a2, a3] [.int 1] h Q = Q (some (.int (iB true))) h := w_iretb (bb := true) dL_law_1472 rfl
end XS

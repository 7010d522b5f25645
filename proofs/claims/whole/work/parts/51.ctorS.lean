/-! constructors of the small classes (by program gen3.py) -/
set_option maxRecDepth 20000 in
set_option maxHeartbeats 1000000 in
theorem ic_C (D : va_G) (ca : Nat → ClassId) (h0 : Nat) : cx_C D ca iy_C ib_C 1 1 0 0 [.ref h0] h0 [(h0, .inr (1, [.int (Int32.ofInt 0), .int (Int32.ofInt 0), .int (Int32.ofInt 0), .int (Int32.ofInt 0)]))] (iF_C ca) := by
  refine cx_ofJ (by decide) rfl (Nat.le_of_ble_eq_true rfl) ?_
  show cx_J D ca iy_C ib_C 1 1 0 0 h0 (iF_C ca) 0 [(0, .ref h0)] [] [(h0, .inr (1, [.int (Int32.ofInt 0), .int (Int32.ofInt 0), .int (Int32.ofInt 0), .int (Int32.ofInt 0)]))] 0 0
  refine cx_aload 0 di_C_0 rfl rfl ?_
  refine cx_obj di_C_1 io_C (by decide) ?_
  exact cx_ret (fun k => ([h0] : List Nat).getD k 0) [0] di_C_4 rfl (by decide) rfl rfl rfl
set_option maxRecDepth 20000 in
set_option maxHeartbeats 1000000 in
theorem ic_E (D : va_G) (ca : Nat → ClassId) (h0 : Nat) : cx_C D ca iy_E ib_E 1 1 7 84 [.ref h0] h0 [(h0, .inr (7, [.null, .null, .null, .null, .null, .null, .null, .int (Int32.ofInt 0)]))] (iF_E ca) := by
  refine cx_ofJ (by decide) rfl (Nat.le_of_ble_eq_true rfl) ?_
  show cx_J D ca iy_E ib_E 1 1 7 84 h0 (iF_E ca) 0 [(0, .ref h0)] [] [(h0, .inr (7, [.null, .null, .null, .null, .null, .null, .null, .int (Int32.ofInt 0)]))] 0 0
  refine cx_aload 0 di_E_0 rfl rfl ?_
  refine cx_obj di_E_1 io_E (by decide) ?_
  refine cx_aload 0 di_E_4 rfl rfl ?_
  refine cx_bipush (v := 12) di_E_5 (by decide) ?_
  refine cx_newa (n := 12) (N := 12) 0 di_E_7 rfl rfl (Or.inl rfl) ia_int (by decide) (by decide) (by decide) (by decide) (by decide) (fun q1 => ?_)
  refine cx_putF (ci := 7) (j := 0) (fs := [.null, .null, .null, .null, .null, .null, .null, .int (Int32.ofInt 0)]) (ws' := [(h0, .inr (7, [.ref q1, .null, .null, .null, .null, .null, .null, .int (Int32.ofInt 0)])), (q1, cx_a ca 0 12)]) 0 di_E_9 ip_E_9 rfl (Nat.le_of_ble_eq_true rfl) rfl ?_
  refine cx_aload 0 di_E_12 rfl rfl ?_
  refine cx_bipush (v := 12) di_E_13 (by decide) ?_
  refine cx_newa (n := 12) (N := 12) 0 di_E_15 rfl rfl (Or.inl rfl) ia_int (by decide) (by decide) (by decide) (by decide) (by decide) (fun q2 => ?_)
  refine cx_putF (ci := 7) (j := 1) (fs := [.ref q1, .null, .null, .null, .null, .null, .null, .int (Int32.ofInt 0)]) (ws' := [(h0, .inr (7, [.ref q1, .ref q2, .null, .null, .null, .null, .null, .int (Int32.ofInt 0)])), (q1, cx_a ca 0 12), (q2, cx_a ca 0 12)]) 0 di_E_17 ip_E_15 rfl (Nat.le_of_ble_eq_true rfl) rfl ?_
  refine cx_aload 0 di_E_20 rfl rfl ?_
  refine cx_bipush (v := 12) di_E_21 (by decide) ?_
  refine cx_newa (n := 12) (N := 12) 0 di_E_23 rfl rfl (Or.inl rfl) ia_int (by decide) (by decide) (by decide) (by decide) (by decide) (fun q3 => ?_)
  refine cx_putF (ci := 7) (j := 2) (fs := [.ref q1, .ref q2, .null, .null, .null, .null, .null, .int (Int32.ofInt 0)]) (ws' := [(h0, .inr (7, [.ref q1, .ref q2, .ref q3, .null, .null, .null, .null, .int (Int32.ofInt 0)])), (q1, cx_a ca 0 12), (q2, cx_a ca 0 12), (q3, cx_a ca 0 12)]) 0 di_E_25 ip_E_18 rfl (Nat.le_of_ble_eq_true rfl) rfl ?_
  refine cx_aload 0 di_E_28 rfl rfl ?_
  refine cx_bipush (v := 12) di_E_29 (by decide) ?_
  refine cx_newa (n := 12) (N := 12) 0 di_E_31 rfl rfl (Or.inl rfl) ia_int (by decide) (by decide) (by decide) (by decide) (by decide) (fun q4 => ?_)
  refine cx_putF (ci := 7) (j := 3) (fs := [.ref q1, .ref q2, .ref q3, .null, .null, .null, .null, .int (Int32.ofInt 0)]) (ws' := [(h0, .inr (7, [.ref q1, .ref q2, .ref q3, .ref q4, .null, .null, .null, .int (Int32.ofInt 0)])), (q1, cx_a ca 0 12), (q2, cx_a ca 0 12), (q3, cx_a ca 0 12), (q4, cx_a ca 0 12)]) 0 di_E_33 ip_E_21 rfl (Nat.le_of_ble_eq_true rfl) rfl ?_
  refine cx_aload 0 di_E_36 rfl rfl ?_
  refine cx_bipush (v := 12) di_E_37 (by decide) ?_
  refine cx_newa (n := 12) (N := 12) 0 di_E_39 rfl rfl (Or.inl rfl) ia_int (by decide) (by decide) (by decide) (by decide) (by decide) (fun q5 => ?_)
  refine cx_putF (ci := 7) (j := 4) (fs := [.ref q1, .ref q2, .ref q3, .ref q4, .null, .null, .null, .int (Int32.ofInt 0)]) (ws' := [(h0, .inr (7, [.ref q1, .ref q2, .ref q3, .ref q4, .ref q5, .null, .null, .int (Int32.ofInt 0)])), (q1, cx_a ca 0 12), (q2, cx_a ca 0 12), (q3, cx_a ca 0 12), (q4, cx_a ca 0 12), (q5, cx_a ca 0 12)]) 0 di_E_41 ip_E_24 rfl (Nat.le_of_ble_eq_true rfl) rfl ?_
  refine cx_aload 0 di_E_44 rfl rfl ?_
  refine cx_bipush (v := 12) di_E_45 (by decide) ?_
  refine cx_newa (n := 12) (N := 12) 0 di_E_47 rfl rfl (Or.inl rfl) ia_int (by decide) (by decide) (by decide) (by decide) (by decide) (fun q6 => ?_)
  refine cx_putF (ci := 7) (j := 5) (fs := [.ref q1, .ref q2, .ref q3, .ref q4, .ref q5, .null, .null, .int (Int32.ofInt 0)]) (ws' := [(h0, .inr (7, [.ref q1, .ref q2, .ref q3, .ref q4, .ref q5, .ref q6, .null, .int (Int32.ofInt 0)])), (q1, cx_a ca 0 12), (q2, cx_a ca 0 12), (q3, cx_a ca 0 12), (q4, cx_a ca 0 12), (q5, cx_a ca 0 12), (q6, cx_a ca 0 12)]) 0 di_E_49 ip_E_27 rfl (Nat.le_of_ble_eq_true rfl) rfl ?_
  refine cx_aload 0 di_E_52 rfl rfl ?_
  refine cx_bipush (v := 12) di_E_53 (by decide) ?_
  refine cx_newa (n := 12) (N := 12) 0 di_E_55 rfl rfl (Or.inl rfl) ia_int (by decide) (by decide) (by decide) (by decide) (by decide) (fun q7 => ?_)
  refine cx_putF (ci := 7) (j := 6) (fs := [.ref q1, .ref q2, .ref q3, .ref q4, .ref q5, .ref q6, .null, .int (Int32.ofInt 0)]) (ws' := [(h0, .inr (7, [.ref q1, .ref q2, .ref q3, .ref q4, .ref q5, .ref q6, .ref q7, .int (Int32.ofInt 0)])), (q1, cx_a ca 0 12), (q2, cx_a ca 0 12), (q3, cx_a ca 0 12), (q4, cx_a ca 0 12), (q5, cx_a ca 0 12), (q6, cx_a ca 0 12), (q7, cx_a ca 0 12)]) 0 di_E_57 ip_E_30 rfl (Nat.le_of_ble_eq_true rfl) rfl ?_
  exact cx_ret (fun k => ([h0, q1, q2, q3, q4, q5, q6, q7] : List Nat).getD k 0) [0, 1, 2, 3, 4, 5, 6, 7] di_E_60 rfl (by decide) rfl rfl rfl
set_option maxRecDepth 20000 in
set_option maxHeartbeats 1000000 in
theorem ic_I (D : va_G) (ca : Nat → ClassId) (h0 : Nat) : cx_C D ca iy_I ib_I 1 1 2 24 [.ref h0] h0 [(h0, .inr (3, [.null, .null, .int (Int32.ofInt 0), .int (Int32.ofInt 0)]))] (iF_I ca) := by
  refine cx_ofJ (by decide) rfl (Nat.le_of_ble_eq_true rfl) ?_
  show cx_J D ca iy_I ib_I 1 1 2 24 h0 (iF_I ca) 0 [(0, .ref h0)] [] [(h0, .inr (3, [.null, .null, .int (Int32.ofInt 0), .int (Int32.ofInt 0)]))] 0 0
  refine cx_aload 0 di_I_0 rfl rfl ?_
  refine cx_obj di_I_1 io_I (by decide) ?_
  refine cx_aload 0 di_I_4 rfl rfl ?_
  refine cx_bipush (v := 12) di_I_5 (by decide) ?_
  refine cx_newa (n := 12) (N := 12) 0 di_I_7 rfl rfl (Or.inl rfl) ia_int (by decide) (by decide) (by decide) (by decide) (by decide) (fun q1 => ?_)
  refine cx_putF (ci := 3) (j := 0) (fs := [.null, .null, .int (Int32.ofInt 0), .int (Int32.ofInt 0)]) (ws' := [(h0, .inr (3, [.ref q1, .null, .int (Int32.ofInt 0), .int (Int32.ofInt 0)])), (q1, cx_a ca 0 12)]) 0 di_I_9 ip_I_9 rfl (Nat.le_of_ble_eq_true rfl) rfl ?_
  refine cx_aload 0 di_I_12 rfl rfl ?_
  refine cx_bipush (v := 12) di_I_13 (by decide) ?_
  refine cx_newa (n := 12) (N := 12) 0 di_I_15 rfl rfl (Or.inl rfl) ia_int (by decide) (by decide) (by decide) (by decide) (by decide) (fun q2 => ?_)
  refine cx_putF (ci := 3) (j := 1) (fs := [.ref q1, .null, .int (Int32.ofInt 0), .int (Int32.ofInt 0)]) (ws' := [(h0, .inr (3, [.ref q1, .ref q2, .int (Int32.ofInt 0), .int (Int32.ofInt 0)])), (q1, cx_a ca 0 12), (q2, cx_a ca 0 12)]) 0 di_I_17 ip_I_15 rfl (Nat.le_of_ble_eq_true rfl) rfl ?_
  exact cx_ret (fun k => ([h0, q1, q2] : List Nat).getD k 0) [0, 1, 2] di_I_20 rfl (by decide) rfl rfl rfl
set_option maxRecDepth 20000 in
set_option maxHeartbeats 1000000 in
theorem ic_G (D : va_G) (ca : Nat → ClassId) (h0 : Nat) : cx_C D ca iy_G ib_G 1 1 1 16 [.ref h0] h0 [(h0, .inr (6, [.null, .int (Int32.ofInt 0), .int (Int32.ofInt 0)]))] (iF_G ca) := by
  refine cx_ofJ (by decide) rfl (Nat.le_of_ble_eq_true rfl) ?_
  show cx_J D ca iy_G ib_G 1 1 1 16 h0 (iF_G ca) 0 [(0, .ref h0)] [] [(h0, .inr (6, [.null, .int (Int32.ofInt 0), .int (Int32.ofInt 0)]))] 0 0
  refine cx_aload 0 di_G_0 rfl rfl ?_
  refine cx_obj di_G_1 io_G (by decide) ?_
  refine cx_aload 0 di_G_4 rfl rfl ?_
  refine cx_bipush (v := 16) di_G_5 (by decide) ?_
  refine cx_newa (n := 16) (N := 16) 1 di_G_7 rfl rfl (Or.inr (Or.inl rfl)) ia_char (by decide) (by decide) (by decide) (by decide) (by decide) (fun q1 => ?_)
  refine cx_putF (ci := 6) (j := 0) (fs := [.null, .int (Int32.ofInt 0), .int (Int32.ofInt 0)]) (ws' := [(h0, .inr (6, [.ref q1, .int (Int32.ofInt 0), .int (Int32.ofInt 0)])), (q1, cx_a ca 1 16)]) 0 di_G_9 ip_G_9 rfl (Nat.le_of_ble_eq_true rfl) rfl ?_
  exact cx_ret (fun k => ([h0, q1] : List Nat).getD k 0) [0, 1] di_G_12 rfl (by decide) rfl rfl rfl
set_option maxRecDepth 20000 in
set_option maxHeartbeats 1000000 in
theorem ic_N (D : va_G) (ca : Nat → ClassId) (h0 : Nat) : cx_C D ca iy_N ib_N 1 1 1 12 [.ref h0] h0 [(h0, .inr (5, [.null, .int (Int32.ofInt 0)]))] (iF_N ca) := by
  refine cx_ofJ (by decide) rfl (Nat.le_of_ble_eq_true rfl) ?_
  show cx_J D ca iy_N ib_N 1 1 1 12 h0 (iF_N ca) 0 [(0, .ref h0)] [] [(h0, .inr (5, [.null, .int (Int32.ofInt 0)]))] 0 0
  refine cx_aload 0 di_N_0 rfl rfl ?_
  refine cx_obj di_N_1 io_N (by decide) ?_
  refine cx_aload 0 di_N_4 rfl rfl ?_
  refine cx_bipush (v := 12) di_N_5 (by decide) ?_
  refine cx_newa (n := 12) (N := 12) 0 di_N_7 rfl rfl (Or.inl rfl) ia_int (by decide) (by decide) (by decide) (by decide) (by decide) (fun q1 => ?_)
  refine cx_putF (ci := 5) (j := 0) (fs := [.null, .int (Int32.ofInt 0)]) (ws' := [(h0, .inr (5, [.ref q1, .int (Int32.ofInt 0)])), (q1, cx_a ca 0 12)]) 0 di_N_9 ip_N_9 rfl (Nat.le_of_ble_eq_true rfl) rfl ?_
  exact cx_ret (fun k => ([h0, q1] : List Nat).getD k 0) [0, 1] di_N_12 rfl (by decide) rfl rfl rfl
set_option maxRecDepth 20000 in
set_option maxHeartbeats 1000000 in
theorem ic_K (D : va_G) (ca : Nat → ClassId) (h0 : Nat) : cx_C D ca iy_K ib_K 1 1 2 8 [.ref h0] h0 [(h0, .inr (2, [.null, .null, .int (Int32.ofInt 0)]))] (iF_K ca) := by
  refine cx_ofJ (by decide) rfl (Nat.le_of_ble_eq_true rfl) ?_
  show cx_J D ca iy_K ib_K 1 1 2 8 h0 (iF_K ca) 0 [(0, .ref h0)] [] [(h0, .inr (2, [.null, .null, .int (Int32.ofInt 0)]))] 0 0
  refine cx_aload 0 di_K_0 rfl rfl ?_
  refine cx_obj di_K_1 io_K (by decide) ?_
  refine cx_aload 0 di_K_4 rfl rfl ?_
  refine cx_iconst (v := 4) di_K_5 (by decide) ?_
  refine cx_newa (n := 4) (N := 4) 1 di_K_6 rfl rfl (Or.inr (Or.inl rfl)) ia_char (by decide) (by decide) (by decide) (by decide) (by decide) (fun q1 => ?_)
  refine cx_putF (ci := 2) (j := 0) (fs := [.null, .null, .int (Int32.ofInt 0)]) (ws' := [(h0, .inr (2, [.ref q1, .null, .int (Int32.ofInt 0)])), (q1, cx_a ca 1 4)]) 0 di_K_8 ip_K_9 rfl (Nat.le_of_ble_eq_true rfl) rfl ?_
  refine cx_aload 0 di_K_11 rfl rfl ?_
  refine cx_iconst (v := 4) di_K_12 (by decide) ?_
  refine cx_newa (n := 4) (N := 4) 0 di_K_13 rfl rfl (Or.inl rfl) ia_int (by decide) (by decide) (by decide) (by decide) (by decide) (fun q2 => ?_)
  refine cx_putF (ci := 2) (j := 1) (fs := [.ref q1, .null, .int (Int32.ofInt 0)]) (ws' := [(h0, .inr (2, [.ref q1, .ref q2, .int (Int32.ofInt 0)])), (q1, cx_a ca 1 4), (q2, cx_a ca 0 4)]) 0 di_K_15 ip_K_15 rfl (Nat.le_of_ble_eq_true rfl) rfl ?_
  exact cx_ret (fun k => ([h0, q1, q2] : List Nat).getD k 0) [0, 1, 2] di_K_18 rfl (by decide) rfl rfl rfl
set_option maxRecDepth 20000 in
set_option maxHeartbeats 1000000 in
theorem ic_B (D : va_G) (ca : Nat → ClassId) (h0 : Nat) (pp : Nat) : cx_C D ca iy_B ib_B 2 1 21 144 [.ref h0, .ref pp] h0 [(h0, .inr (0, [.null, .null, .null, .null, .null, .null, .null, .null, .null, .null, .int (Int32.ofInt 0), .int (Int32.ofInt 0), .int (Int32.ofInt 0), .int (Int32.ofInt 0), .int (Int32.ofInt 0), .int (Int32.ofInt 0)]))] (iF_B ca pp) := by
  refine cx_ofJ (by decide) rfl (Nat.le_of_ble_eq_true rfl) ?_
  show cx_J D ca iy_B ib_B 2 1 21 144 h0 (iF_B ca pp) 0 [(0, .ref h0), (1, .ref pp)] [] [(h0, .inr (0, [.null, .null, .null, .null, .null, .null, .null, .null, .null, .null, .int (Int32.ofInt 0), .int (Int32.ofInt 0), .int (Int32.ofInt 0), .int (Int32.ofInt 0), .int (Int32.ofInt 0), .int (Int32.ofInt 0)]))] 0 0
  refine cx_aload 0 di_B_0 rfl rfl ?_
  refine cx_obj di_B_1 io_B (by decide) ?_
  refine cx_aload 0 di_B_4 rfl rfl ?_
  refine cx_bipush (v := 12) di_B_5 (by decide) ?_
  refine cx_newa (n := 12) (N := 12) 0 di_B_7 rfl rfl (Or.inl rfl) ia_int (by decide) (by decide) (by decide) (by decide) (by decide) (fun q1 => ?_)
  refine cx_putF (ci := 0) (j := 1) (fs := [.null, .null, .null, .null, .null, .null, .null, .null, .null, .null, .int (Int32.ofInt 0), .int (Int32.ofInt 0), .int (Int32.ofInt 0), .int (Int32.ofInt 0), .int (Int32.ofInt 0), .int (Int32.ofInt 0)]) (ws' := [(h0, .inr (0, [.null, .ref q1, .null, .null, .null, .null, .null, .null, .null, .null, .int (Int32.ofInt 0), .int (Int32.ofInt 0), .int (Int32.ofInt 0), .int (Int32.ofInt 0), .int (Int32.ofInt 0), .int (Int32.ofInt 0)])), (q1, cx_a ca 0 12)]) 0 di_B_9 ip_B_9 rfl (Nat.le_of_ble_eq_true rfl) rfl ?_
  refine cx_aload 0 di_B_12 rfl rfl ?_
  refine cx_bipush (v := 12) di_B_13 (by decide) ?_
  refine cx_newa (n := 12) (N := 12) 0 di_B_15 rfl rfl (Or.inl rfl) ia_int (by decide) (by decide) (by decide) (by decide) (by decide) (fun q2 => ?_)
  refine cx_putF (ci := 0) (j := 2) (fs := [.null, .ref q1, .null, .null, .null, .null, .null, .null, .null, .null, .int (Int32.ofInt 0), .int (Int32.ofInt 0), .int (Int32.ofInt 0), .int (Int32.ofInt 0), .int (Int32.ofInt 0), .int (Int32.ofInt 0)]) (ws' := [(h0, .inr (0, [.null, .ref q1, .ref q2, .null, .null, .null, .null, .null, .null, .null, .int (Int32.ofInt 0), .int (Int32.ofInt 0), .int (Int32.ofInt 0), .int (Int32.ofInt 0), .int (Int32.ofInt 0), .int (Int32.ofInt 0)])), (q1, cx_a ca 0 12), (q2, cx_a ca 0 12)]) 0 di_B_17 ip_B_15 rfl (Nat.le_of_ble_eq_true rfl) rfl ?_
  refine cx_aload 0 di_B_20 rfl rfl ?_
  refine cx_bipush (v := 12) di_B_21 (by decide) ?_
  refine cx_newa (n := 12) (N := 12) 0 di_B_23 rfl rfl (Or.inl rfl) ia_int (by decide) (by decide) (by decide) (by decide) (by decide) (fun q3 => ?_)
  refine cx_putF (ci := 0) (j := 3) (fs := [.null, .ref q1, .ref q2, .null, .null, .null, .null, .null, .null, .null, .int (Int32.ofInt 0), .int (Int32.ofInt 0), .int (Int32.ofInt 0), .int (Int32.ofInt 0), .int (Int32.ofInt 0), .int (Int32.ofInt 0)]) (ws' := [(h0, .inr (0, [.null, .ref q1, .ref q2, .ref q3, .null, .null, .null, .null, .null, .null, .int (Int32.ofInt 0), .int (Int32.ofInt 0), .int (Int32.ofInt 0), .int (Int32.ofInt 0), .int (Int32.ofInt 0), .int (Int32.ofInt 0)])), (q1, cx_a ca 0 12), (q2, cx_a ca 0 12), (q3, cx_a ca 0 12)]) 0 di_B_25 ip_B_18 rfl (Nat.le_of_ble_eq_true rfl) rfl ?_
  refine cx_aload 0 di_B_28 rfl rfl ?_
  refine cx_bipush (v := 12) di_B_29 (by decide) ?_
  refine cx_newa (n := 12) (N := 12) 0 di_B_31 rfl rfl (Or.inl rfl) ia_int (by decide) (by decide) (by decide) (by decide) (by decide) (fun q4 => ?_)
  refine cx_putF (ci := 0) (j := 4) (fs := [.null, .ref q1, .ref q2, .ref q3, .null, .null, .null, .null, .null, .null, .int (Int32.ofInt 0), .int (Int32.ofInt 0), .int (Int32.ofInt 0), .int (Int32.ofInt 0), .int (Int32.ofInt 0), .int (Int32.ofInt 0)]) (ws' := [(h0, .inr (0, [.null, .ref q1, .ref q2, .ref q3, .ref q4, .null, .null, .null, .null, .null, .int (Int32.ofInt 0), .int (Int32.ofInt 0), .int (Int32.ofInt 0), .int (Int32.ofInt 0), .int (Int32.ofInt 0), .int (Int32.ofInt 0)])), (q1, cx_a ca 0 12), (q2, cx_a ca 0 12), (q3, cx_a ca 0 12), (q4, cx_a ca 0 12)]) 0 di_B_33 ip_B_21 rfl (Nat.le_of_ble_eq_true rfl) rfl ?_
  refine cx_aload 0 di_B_36 rfl rfl ?_
  refine cx_bipush (v := 12) di_B_37 (by decide) ?_
  refine cx_newa (n := 12) (N := 12) 0 di_B_39 rfl rfl (Or.inl rfl) ia_int (by decide) (by decide) (by decide) (by decide) (by decide) (fun q5 => ?_)
  refine cx_putF (ci := 0) (j := 5) (fs := [.null, .ref q1, .ref q2, .ref q3, .ref q4, .null, .null, .null, .null, .null, .int (Int32.ofInt 0), .int (Int32.ofInt 0), .int (Int32.ofInt 0), .int (Int32.ofInt 0), .int (Int32.ofInt 0), .int (Int32.ofInt 0)]) (ws' := [(h0, .inr (0, [.null, .ref q1, .ref q2, .ref q3, .ref q4, .ref q5, .null, .null, .null, .null, .int (Int32.ofInt 0), .int (Int32.ofInt 0), .int (Int32.ofInt 0), .int (Int32.ofInt 0), .int (Int32.ofInt 0), .int (Int32.ofInt 0)])), (q1, cx_a ca 0 12), (q2, cx_a ca 0 12), (q3, cx_a ca 0 12), (q4, cx_a ca 0 12), (q5, cx_a ca 0 12)]) 0 di_B_41 ip_B_24 rfl (Nat.le_of_ble_eq_true rfl) rfl ?_
  refine cx_aload 0 di_B_44 rfl rfl ?_
  refine cx_bipush (v := 12) di_B_45 (by decide) ?_
  refine cx_newa (n := 12) (N := 12) 0 di_B_47 rfl rfl (Or.inl rfl) ia_int (by decide) (by decide) (by decide) (by decide) (by decide) (fun q6 => ?_)
  refine cx_putF (ci := 0) (j := 6) (fs := [.null, .ref q1, .ref q2, .ref q3, .ref q4, .ref q5, .null, .null, .null, .null, .int (Int32.ofInt 0), .int (Int32.ofInt 0), .int (Int32.ofInt 0), .int (Int32.ofInt 0), .int (Int32.ofInt 0), .int (Int32.ofInt 0)]) (ws' := [(h0, .inr (0, [.null, .ref q1, .ref q2, .ref q3, .ref q4, .ref q5, .ref q6, .null, .null, .null, .int (Int32.ofInt 0), .int (Int32.ofInt 0), .int (Int32.ofInt 0), .int (Int32.ofInt 0), .int (Int32.ofInt 0), .int (Int32.ofInt 0)])), (q1, cx_a ca 0 12), (q2, cx_a ca 0 12), (q3, cx_a ca 0 12), (q4, cx_a ca 0 12), (q5, cx_a ca 0 12), (q6, cx_a ca 0 12)]) 0 di_B_49 ip_B_27 rfl (Nat.le_of_ble_eq_true rfl) rfl ?_
  refine cx_aload 0 di_B_52 rfl rfl ?_
  refine cx_bipush (v := 12) di_B_53 (by decide) ?_
  refine cx_newa (n := 12) (N := 12) 0 di_B_55 rfl rfl (Or.inl rfl) ia_int (by decide) (by decide) (by decide) (by decide) (by decide) (fun q7 => ?_)
  refine cx_putF (ci := 0) (j := 7) (fs := [.null, .ref q1, .ref q2, .ref q3, .ref q4, .ref q5, .ref q6, .null, .null, .null, .int (Int32.ofInt 0), .int (Int32.ofInt 0), .int (Int32.ofInt 0), .int (Int32.ofInt 0), .int (Int32.ofInt 0), .int (Int32.ofInt 0)]) (ws' := [(h0, .inr (0, [.null, .ref q1, .ref q2, .ref q3, .ref q4, .ref q5, .ref q6, .ref q7, .null, .null, .int (Int32.ofInt 0), .int (Int32.ofInt 0), .int (Int32.ofInt 0), .int (Int32.ofInt 0), .int (Int32.ofInt 0), .int (Int32.ofInt 0)])), (q1, cx_a ca 0 12), (q2, cx_a ca 0 12), (q3, cx_a ca 0 12), (q4, cx_a ca 0 12), (q5, cx_a ca 0 12), (q6, cx_a ca 0 12), (q7, cx_a ca 0 12)]) 0 di_B_57 ip_B_30 rfl (Nat.le_of_ble_eq_true rfl) rfl ?_
  refine cx_aload 0 di_B_60 rfl rfl ?_
  refine cx_bipush (v := 12) di_B_61 (by decide) ?_
  refine cx_iconst (v := 3) di_B_63 (by decide) ?_
  refine cx_multi di_B_64 iq_B_33 ia_int (by decide) (by decide) (fun qb => ?_)
  refine cx_putF (ci := 0) (j := 8) (fs := [.null, .ref q1, .ref q2, .ref q3, .ref q4, .ref q5, .ref q6, .ref q7, .null, .null, .int (Int32.ofInt 0), .int (Int32.ofInt 0), .int (Int32.ofInt 0), .int (Int32.ofInt 0), .int (Int32.ofInt 0), .int (Int32.ofInt 0)]) (ws' := [(h0, .inr (0, [.null, .ref q1, .ref q2, .ref q3, .ref q4, .ref q5, .ref q6, .ref q7, .ref (qb 0), .null, .int (Int32.ofInt 0), .int (Int32.ofInt 0), .int (Int32.ofInt 0), .int (Int32.ofInt 0), .int (Int32.ofInt 0), .int (Int32.ofInt 0)])), (q1, cx_a ca 0 12), (q2, cx_a ca 0 12), (q3, cx_a ca 0 12), (q4, cx_a ca 0 12), (q5, cx_a ca 0 12), (q6, cx_a ca 0 12), (q7, cx_a ca 0 12), (qb 0, cx_q ca 4 12 (cx_rf [1, 2, 3, 4, 5, 6, 7, 8, 9, 10, 11, 12] qb)), (qb 1, cx_a ca 0 3), (qb 2, cx_a ca 0 3), (qb 3, cx_a ca 0 3), (qb 4, cx_a ca 0 3), (qb 5, cx_a ca 0 3), (qb 6, cx_a ca 0 3), (qb 7, cx_a ca 0 3), (qb 8, cx_a ca 0 3), (qb 9, cx_a ca 0 3), (qb 10, cx_a ca 0 3), (qb 11, cx_a ca 0 3), (qb 12, cx_a ca 0 3)]) 0 di_B_68 ip_B_35 rfl (Nat.le_of_ble_eq_true rfl) rfl ?_
  refine cx_aload 0 di_B_71 rfl rfl ?_
  refine cx_bipush (v := 12) di_B_72 (by decide) ?_
  refine cx_newa (n := 12) (N := 12) 0 di_B_74 rfl rfl (Or.inl rfl) ia_int (by decide) (by decide) (by decide) (by decide) (by decide) (fun q8 => ?_)
  refine cx_putF (ci := 0) (j := 9) (fs := [.null, .ref q1, .ref q2, .ref q3, .ref q4, .ref q5, .ref q6, .ref q7, .ref (qb 0), .null, .int (Int32.ofInt 0), .int (Int32.ofInt 0), .int (Int32.ofInt 0), .int (Int32.ofInt 0), .int (Int32.ofInt 0), .int (Int32.ofInt 0)]) (ws' := [(h0, .inr (0, [.null, .ref q1, .ref q2, .ref q3, .ref q4, .ref q5, .ref q6, .ref q7, .ref (qb 0), .ref q8, .int (Int32.ofInt 0), .int (Int32.ofInt 0), .int (Int32.ofInt 0), .int (Int32.ofInt 0), .int (Int32.ofInt 0), .int (Int32.ofInt 0)])), (q1, cx_a ca 0 12), (q2, cx_a ca 0 12), (q3, cx_a ca 0 12), (q4, cx_a ca 0 12), (q5, cx_a ca 0 12), (q6, cx_a ca 0 12), (q7, cx_a ca 0 12), (qb 0, cx_q ca 4 12 (cx_rf [1, 2, 3, 4, 5, 6, 7, 8, 9, 10, 11, 12] qb)), (qb 1, cx_a ca 0 3), (qb 2, cx_a ca 0 3), (qb 3, cx_a ca 0 3), (qb 4, cx_a ca 0 3), (qb 5, cx_a ca 0 3), (qb 6, cx_a ca 0 3), (qb 7, cx_a ca 0 3), (qb 8, cx_a ca 0 3), (qb 9, cx_a ca 0 3), (qb 10, cx_a ca 0 3), (qb 11, cx_a ca 0 3), (qb 12, cx_a ca 0 3), (q8, cx_a ca 0 12)]) 0 di_B_76 ip_B_38 rfl (Nat.le_of_ble_eq_true rfl) rfl ?_
  refine cx_aload 0 di_B_79 rfl rfl ?_
  refine cx_aload 1 di_B_80 rfl rfl ?_
  refine cx_putF (ci := 0) (j := 0) (fs := [.null, .ref q1, .ref q2, .ref q3, .ref q4, .ref q5, .ref q6, .ref q7, .ref (qb 0), .ref q8, .int (Int32.ofInt 0), .int (Int32.ofInt 0), .int (Int32.ofInt 0), .int (Int32.ofInt 0), .int (Int32.ofInt 0), .int (Int32.ofInt 0)]) (ws' := [(h0, .inr (0, [.ref pp, .ref q1, .ref q2, .ref q3, .ref q4, .ref q5, .ref q6, .ref q7, .ref (qb 0), .ref q8, .int (Int32.ofInt 0), .int (Int32.ofInt 0), .int (Int32.ofInt 0), .int (Int32.ofInt 0), .int (Int32.ofInt 0), .int (Int32.ofInt 0)])), (q1, cx_a ca 0 12), (q2, cx_a ca 0 12), (q3, cx_a ca 0 12), (q4, cx_a ca 0 12), (q5, cx_a ca 0 12), (q6, cx_a ca 0 12), (q7, cx_a ca 0 12), (qb 0, cx_q ca 4 12 (cx_rf [1, 2, 3, 4, 5, 6, 7, 8, 9, 10, 11, 12] qb)), (qb 1, cx_a ca 0 3), (qb 2, cx_a ca 0 3), (qb 3, cx_a ca 0 3), (qb 4, cx_a ca 0 3), (qb 5, cx_a ca 0 3), (qb 6, cx_a ca 0 3), (qb 7, cx_a ca 0 3), (qb 8, cx_a ca 0 3), (qb 9, cx_a ca 0 3), (qb 10, cx_a ca 0 3), (qb 11, cx_a ca 0 3), (qb 12, cx_a ca 0 3), (q8, cx_a ca 0 12)]) 0 di_B_81 ip_B_41 rfl (Nat.le_of_ble_eq_true rfl) rfl ?_
  refine cx_eqw (ws' := [(h0, .inr (0, [.ref pp, .ref q1, .ref q2, .ref q3, .ref q4, .ref q5, .ref q6, .ref q7, .ref (qb 0), .ref q8, .int (Int32.ofInt 0), .int (Int32.ofInt 0), .int (Int32.ofInt 0), .int (Int32.ofInt 0), .int (Int32.ofInt 0), .int (Int32.ofInt 0)])), (q1, cx_a ca 0 12), (q2, cx_a ca 0 12), (q3, cx_a ca 0 12), (q4, cx_a ca 0 12), (q5, cx_a ca 0 12), (q6, cx_a ca 0 12), (q7, cx_a ca 0 12), (qb 0, cx_q ca 4 12 (cx_rf [10, 11, 12, 13, 14, 15, 16, 17, 18, 19, 20, 21] (fun k => ([h0, q1, q2, q3, q4, q5, q6, q7, qb 0, q8, qb 1, qb 2, qb 3, qb 4, qb 5, qb 6, qb 7, qb 8, qb 9, qb 10, qb 11, qb 12] : List Nat).getD k 0))), (qb 1, cx_a ca 0 3), (qb 2, cx_a ca 0 3), (qb 3, cx_a ca 0 3), (qb 4, cx_a ca 0 3), (qb 5, cx_a ca 0 3), (qb 6, cx_a ca 0 3), (qb 7, cx_a ca 0 3), (qb 8, cx_a ca 0 3), (qb 9, cx_a ca 0 3), (qb 10, cx_a ca 0 3), (qb 11, cx_a ca 0 3), (qb 12, cx_a ca 0 3), (q8, cx_a ca 0 12)]) (by rw [cx_rf_eq (L1 := [1, 2, 3, 4, 5, 6, 7, 8, 9, 10, 11, 12]) (L2 := [10, 11, 12, 13, 14, 15, 16, 17, 18, 19, 20, 21]) (u := qb) (q := (fun k => ([h0, q1, q2, q3, q4, q5, q6, q7, qb 0, q8, qb 1, qb 2, qb 3, qb 4, qb 5, qb 6, qb 7, qb 8, qb 9, qb 10, qb 11, qb 12] : List Nat).getD k 0)) rfl]) ?_
  exact cx_ret (fun k => ([h0, q1, q2, q3, q4, q5, q6, q7, qb 0, q8, qb 1, qb 2, qb 3, qb 4, qb 5, qb 6, qb 7, qb 8, qb 9, qb 10, qb 11, qb 12] : List Nat).getD k 0) [0, 1, 2, 3, 4, 5, 6, 7, 8, 21, 9, 10, 11, 12, 13, 14, 15, 16, 17, 18, 19, 20] di_B_84 rfl (by decide) rfl rfl rfl
set_option maxRecDepth 20000 in
set_option maxHeartbeats 1000000 in
theorem ic_L (D : va_G) (ca : Nat → ClassId) (h0 : Nat) (pp : Nat) : cx_C D ca iy_L ib_L 2 1 4 48 [.ref h0, .ref pp] h0 [(h0, .inr (4, [.null, .null, .null, .null, .null, .int (Int32.ofInt 0), .int (Int32.ofInt 0), .int (Int32.ofInt 0), .int (Int32.ofInt 0)]))] (iF_L ca pp) := by
  refine cx_ofJ (by decide) rfl (Nat.le_of_ble_eq_true rfl) ?_
  show cx_J D ca iy_L ib_L 2 1 4 48 h0 (iF_L ca pp) 0 [(0, .ref h0), (1, .ref pp)] [] [(h0, .inr (4, [.null, .null, .null, .null, .null, .int (Int32.ofInt 0), .int (Int32.ofInt 0), .int (Int32.ofInt 0), .int (Int32.ofInt 0)]))] 0 0
  refine cx_aload 0 di_L_0 rfl rfl ?_
  refine cx_obj di_L_1 io_L (by decide) ?_
  refine cx_aload 0 di_L_4 rfl rfl ?_
  refine cx_bipush (v := 12) di_L_5 (by decide) ?_
  refine cx_newa (n := 12) (N := 12) 0 di_L_7 rfl rfl (Or.inl rfl) ia_int (by decide) (by decide) (by decide) (by decide) (by decide) (fun q1 => ?_)
  refine cx_putF (ci := 4) (j := 1) (fs := [.null, .null, .null, .null, .null, .int (Int32.ofInt 0), .int (Int32.ofInt 0), .int (Int32.ofInt 0), .int (Int32.ofInt 0)]) (ws' := [(h0, .inr (4, [.null, .ref q1, .null, .null, .null, .int (Int32.ofInt 0), .int (Int32.ofInt 0), .int (Int32.ofInt 0), .int (Int32.ofInt 0)])), (q1, cx_a ca 0 12)]) 0 di_L_9 ip_L_9 rfl (Nat.le_of_ble_eq_true rfl) rfl ?_
  refine cx_aload 0 di_L_12 rfl rfl ?_
  refine cx_bipush (v := 12) di_L_13 (by decide) ?_
  refine cx_newa (n := 12) (N := 12) 0 di_L_15 rfl rfl (Or.inl rfl) ia_int (by decide) (by decide) (by decide) (by decide) (by decide) (fun q2 => ?_)
  refine cx_putF (ci := 4) (j := 2) (fs := [.null, .ref q1, .null, .null, .null, .int (Int32.ofInt 0), .int (Int32.ofInt 0), .int (Int32.ofInt 0), .int (Int32.ofInt 0)]) (ws' := [(h0, .inr (4, [.null, .ref q1, .ref q2, .null, .null, .int (Int32.ofInt 0), .int (Int32.ofInt 0), .int (Int32.ofInt 0), .int (Int32.ofInt 0)])), (q1, cx_a ca 0 12), (q2, cx_a ca 0 12)]) 0 di_L_17 ip_L_15 rfl (Nat.le_of_ble_eq_true rfl) rfl ?_
  refine cx_aload 0 di_L_20 rfl rfl ?_
  refine cx_bipush (v := 12) di_L_21 (by decide) ?_
  refine cx_newa (n := 12) (N := 12) 2 di_L_23 rfl rfl (Or.inr (Or.inr rfl)) ia_boolean (by decide) (by decide) (by decide) (by decide) (by decide) (fun q3 => ?_)
  refine cx_putF (ci := 4) (j := 3) (fs := [.null, .ref q1, .ref q2, .null, .null, .int (Int32.ofInt 0), .int (Int32.ofInt 0), .int (Int32.ofInt 0), .int (Int32.ofInt 0)]) (ws' := [(h0, .inr (4, [.null, .ref q1, .ref q2, .ref q3, .null, .int (Int32.ofInt 0), .int (Int32.ofInt 0), .int (Int32.ofInt 0), .int (Int32.ofInt 0)])), (q1, cx_a ca 0 12), (q2, cx_a ca 0 12), (q3, cx_a ca 2 12)]) 0 di_L_25 ip_L_18 rfl (Nat.le_of_ble_eq_true rfl) rfl ?_
  refine cx_aload 0 di_L_28 rfl rfl ?_
  refine cx_bipush (v := 12) di_L_29 (by decide) ?_
  refine cx_newa (n := 12) (N := 12) 0 di_L_31 rfl rfl (Or.inl rfl) ia_int (by decide) (by decide) (by decide) (by decide) (by decide) (fun q4 => ?_)
  refine cx_putF (ci := 4) (j := 4) (fs := [.null, .ref q1, .ref q2, .ref q3, .null, .int (Int32.ofInt 0), .int (Int32.ofInt 0), .int (Int32.ofInt 0), .int (Int32.ofInt 0)]) (ws' := [(h0, .inr (4, [.null, .ref q1, .ref q2, .ref q3, .ref q4, .int (Int32.ofInt 0), .int (Int32.ofInt 0), .int (Int32.ofInt 0), .int (Int32.ofInt 0)])), (q1, cx_a ca 0 12), (q2, cx_a ca 0 12), (q3, cx_a ca 2 12), (q4, cx_a ca 0 12)]) 0 di_L_33 ip_L_22 rfl (Nat.le_of_ble_eq_true rfl) rfl ?_
  refine cx_aload 0 di_L_36 rfl rfl ?_
  refine cx_aload 1 di_L_37 rfl rfl ?_
  refine cx_putF (ci := 4) (j := 0) (fs := [.null, .ref q1, .ref q2, .ref q3, .ref q4, .int (Int32.ofInt 0), .int (Int32.ofInt 0), .int (Int32.ofInt 0), .int (Int32.ofInt 0)]) (ws' := [(h0, .inr (4, [.ref pp, .ref q1, .ref q2, .ref q3, .ref q4, .int (Int32.ofInt 0), .int (Int32.ofInt 0), .int (Int32.ofInt 0), .int (Int32.ofInt 0)])), (q1, cx_a ca 0 12), (q2, cx_a ca 0 12), (q3, cx_a ca 2 12), (q4, cx_a ca 0 12)]) 0 di_L_38 ip_L_25 rfl (Nat.le_of_ble_eq_true rfl) rfl ?_
  exact cx_ret (fun k => ([h0, q1, q2, q3, q4] : List Nat).getD k 0) [0, 1, 2, 3, 4] di_L_41 rfl (by decide) rfl rfl rfl

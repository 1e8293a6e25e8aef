def Lo_7 (κ : Kp) (q : Nat) : List va_E := [.inr (7, [.ref (q + 1), .ref (q + 8), .ref (q + 11), .ref (q + 16), .int 0, .int 0, vi (-1), .ref (q + 20), .ref (q + 21), .ref (q + 22), .ref (q + 23), .int 0, .int 0, .int 0, .ref (q + 24), .int 0, .int 0, .int 0])] ++ (Lo_2 κ (q + 1) ++ (Lo_1 κ (q + 8) ++ (Lo_6 κ (q + 11) ++ (Lo_9 κ (q + 16) ++ ([.inl (κ.2.2.1.1, 400, .inl (fun _ => 0))] ++ ([.inl (κ.2.2.1.1, 401, .inl (fun _ => 0))] ++ ([.inl (κ.2.2.1.1, 401, .inl (fun _ => 0))] ++ ([.inl (κ.2.2.1.1, 401, .inl (fun _ => 0))] ++ ([.inl (κ.2.2.1.1, 32, .inl (fun _ => 0))])))))))))
abbrev R_X7_init : Room := { frames := 2, cells := 24, slots := 2277, locals := 50 }
set_option maxHeartbeats 8000000 in
set_option maxRecDepth 20000 in
theorem c_X7_init (κ : Kp) (q0 : Nat) : CtC κ M_X7_init R_X7_init q0 (.inr (7, [.null, .null, .null, .null, .int 0, .int 0, .int 0, .null, .null, .null, .null, .int 0, .int 0, .int 0, .null, .int 0, .int 0, .int 0])) (Lo_7 κ q0) := by
  refine CtC.of (by decide) rfl rfl (Nat.le_of_ble_eq_true rfl) ?_
  refine x_ls (ls' := [some (.ref q0)]) ⟨rfl, trivial⟩ ?_
  show EC κ M_X7_init R_X7_init q0 0 [some (.ref (q0 + 0))] [] _ 0 0 _
  refine x_aload_n d_X7_init_0 rfl ?_
  refine x_obj d_X7_init_1 ml_7_3 ow_1 ⟨by decide, Nat.le_of_ble_eq_true rfl⟩ ?_
  refine x_aload_n d_X7_init_4 rfl ?_
  refine x_new (ci := 2) (dn := 8) (i := 1) (C := RX2) (fs := [.null, .null, .null, .null, .int 0, .int 0, .null, .null]) d_X7_init_5 cl_7_9 nw_2 nq_2 rfl rfl rfl ?_
  refine x_dup d_X7_init_8 rfl ?_
  refine x_callN (R' := R_X2_init) (i := 1) (Lc := Lo_2 κ (q0 + 1)) d_X7_init_9 cw_X2_init ml_7_11 im_X2_init rfl rfl (c_X2_init κ (q0 + 1)) ⟨rfl, rfl⟩ (Nat.le_of_ble_eq_true rfl) ⟨rfl, rfl⟩ rfl ?_
  refine x_putF (i := 0) (j := 0) d_X7_init_12 ff_7_12 rfl rfl rfl (Nat.le_of_ble_eq_true rfl) rfl ?_
  refine x_aload_n d_X7_init_15 rfl ?_
  refine x_new (ci := 1) (dn := 3) (i := 8) (C := RX1) (fs := [.null, .null, .int 0]) d_X7_init_16 cl_7_18 nw_1 nq_1 rfl rfl rfl ?_
  refine x_dup d_X7_init_19 rfl ?_
  refine x_callN (R' := R_X1_init) (i := 8) (Lc := Lo_1 κ (q0 + 8)) d_X7_init_20 cw_X1_init ml_7_20 im_X1_init rfl rfl (c_X1_init κ (q0 + 8)) ⟨rfl, rfl⟩ (Nat.le_of_ble_eq_true rfl) ⟨rfl, rfl⟩ rfl ?_
  refine x_putF (i := 0) (j := 1) d_X7_init_23 ff_7_21 rfl rfl rfl (Nat.le_of_ble_eq_true rfl) rfl ?_
  refine x_aload_n d_X7_init_26 rfl ?_
  refine x_new (ci := 6) (dn := 5) (i := 11) (C := RX6) (fs := [.null, .null, .null, .null, .int 0]) d_X7_init_27 cl_7_25 nw_6 nq_6 rfl rfl rfl ?_
  refine x_dup d_X7_init_30 rfl ?_
  refine x_callN (R' := R_X6_init) (i := 11) (Lc := Lo_6 κ (q0 + 11)) d_X7_init_31 cw_X6_init ml_7_27 im_X6_init rfl rfl (c_X6_init κ (q0 + 11)) ⟨rfl, rfl⟩ (Nat.le_of_ble_eq_true rfl) ⟨rfl, rfl⟩ rfl ?_
  refine x_putF (i := 0) (j := 2) d_X7_init_34 ff_7_28 rfl rfl rfl (Nat.le_of_ble_eq_true rfl) rfl ?_
  refine x_aload_n d_X7_init_37 rfl ?_
  refine x_new (ci := 9) (dn := 4) (i := 16) (C := RX9) (fs := [.null, .null, .null, .int 0]) d_X7_init_38 cl_7_32 nw_9 nq_9 rfl rfl rfl ?_
  refine x_dup d_X7_init_41 rfl ?_
  refine x_callN (R' := R_X9_init) (i := 16) (Lc := Lo_9 κ (q0 + 16)) d_X7_init_42 cw_X9_init ml_7_34 im_X9_init rfl rfl (c_X9_init κ (q0 + 16)) ⟨rfl, rfl⟩ (Nat.le_of_ble_eq_true rfl) ⟨rfl, rfl⟩ rfl ?_
  refine x_putF (i := 0) (j := 3) d_X7_init_45 ff_7_35 rfl rfl rfl (Nat.le_of_ble_eq_true rfl) rfl ?_
  refine x_aload_n d_X7_init_48 rfl ?_
  refine x_iconst d_X7_init_49 ?_
  refine x_put (i := 0) (j := 6) d_X7_init_50 fp_7_39 rfl rfl rfl (Nat.le_of_ble_eq_true rfl) rfl ?_
  refine x_aload_n d_X7_init_53 rfl ?_
  refine x_sipush d_X7_init_54 rfl ?_
  refine x_newa (N := 400) (i := 20) d_X7_init_57 ow_2 rfl rfl rfl rfl rfl rfl ?_
  refine x_putF (i := 0) (j := 7) d_X7_init_59 ff_7_43 rfl rfl rfl (Nat.le_of_ble_eq_true rfl) rfl ?_
  refine x_aload_n d_X7_init_62 rfl ?_
  refine x_sipush d_X7_init_63 rfl ?_
  refine x_newa (N := 401) (i := 21) d_X7_init_66 ow_2 rfl rfl rfl rfl rfl rfl ?_
  refine x_putF (i := 0) (j := 8) d_X7_init_68 ff_7_47 rfl rfl rfl (Nat.le_of_ble_eq_true rfl) rfl ?_
  refine x_aload_n d_X7_init_71 rfl ?_
  refine x_sipush d_X7_init_72 rfl ?_
  refine x_newa (N := 401) (i := 22) d_X7_init_75 ow_2 rfl rfl rfl rfl rfl rfl ?_
  refine x_putF (i := 0) (j := 9) d_X7_init_77 ff_7_50 rfl rfl rfl (Nat.le_of_ble_eq_true rfl) rfl ?_
  refine x_aload_n d_X7_init_80 rfl ?_
  refine x_sipush d_X7_init_81 rfl ?_
  refine x_newa (N := 401) (i := 23) d_X7_init_84 ow_2 rfl rfl rfl rfl rfl rfl ?_
  refine x_putF (i := 0) (j := 10) d_X7_init_86 ff_7_53 rfl rfl rfl (Nat.le_of_ble_eq_true rfl) rfl ?_
  refine x_aload_n d_X7_init_89 rfl ?_
  refine x_bipush d_X7_init_90 rfl ?_
  refine x_newa (N := 32) (i := 24) d_X7_init_92 ow_2 rfl rfl rfl rfl rfl rfl ?_
  refine x_putF (i := 0) (j := 14) d_X7_init_94 ff_7_56 rfl rfl rfl (Nat.le_of_ble_eq_true rfl) rfl ?_
  exact x_ret d_X7_init_97 rfl rfl rfl rfl

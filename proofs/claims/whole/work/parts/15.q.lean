def Lo_0 (κ : Kp) (q : Nat) : List va_E := [.inr (0, [.ref (q + 1), .ref (q + 2), .ref (q + 3), .ref (q + 4), .int 0]), .inl (κ.2.2.1.1, 8, .inl (fun _ => 0)), .inl (κ.2.2.1.1, 8, .inl (fun _ => 0)), .inl (κ.2.2.1.1, 1000, .inl (fun _ => 0)), .inl (κ.2.2.1.1, 30, .inl (fun _ => 0))]
theorem len_0 (κ : Kp) (q : Nat) : (Lo_0 κ q).length = 5 := rfl
abbrev R_X0_init : Room := { frames := 1, cells := 4, slots := 1046, locals := 30 }
set_option maxHeartbeats 8000000 in
set_option maxRecDepth 20000 in
theorem c_X0_init (κ : Kp) (q0 : Nat) : CtC κ M_X0_init R_X0_init q0 (.inr (0, [.null, .null, .null, .null, .int 0])) (Lo_0 κ q0) := by
  refine CtC.of (by decide) rfl rfl (Nat.le_of_ble_eq_true rfl) ?_
  refine x_ls (ls' := [some (.ref q0)]) ⟨rfl, trivial⟩ ?_
  show EC κ M_X0_init R_X0_init q0 0 [some (.ref (q0 + 0))] [] _ 0 0 _
  refine x_aload_n d_X0_init_0 rfl ?_
  refine x_obj d_X0_init_1 ml_0_3 ow_1 ⟨by decide, Nat.le_of_ble_eq_true rfl⟩ ?_
  refine x_aload_n d_X0_init_4 rfl ?_
  refine x_bipush d_X0_init_5 rfl ?_
  refine x_newa (N := 8) (i := 1) (L' := [.inr (0, [.null, .null, .null, .null, .int 0]), .inl (κ.2.2.1.1, 8, .inl (fun _ => 0))]) d_X0_init_7 ow_2 rfl rfl rfl rfl rfl rfl ?_
  refine x_putF (i := 0) (j := 0) (L' := [.inr (0, [.ref (q0 + 1), .null, .null, .null, .int 0]), .inl (κ.2.2.1.1, 8, .inl (fun _ => 0))]) d_X0_init_9 ff_0_9 rfl rfl rfl (Nat.le_of_ble_eq_true rfl) rfl ?_
  refine x_aload_n d_X0_init_12 rfl ?_
  refine x_bipush d_X0_init_13 rfl ?_
  refine x_newa (N := 8) (i := 2) (L' := [.inr (0, [.ref (q0 + 1), .null, .null, .null, .int 0]), .inl (κ.2.2.1.1, 8, .inl (fun _ => 0)), .inl (κ.2.2.1.1, 8, .inl (fun _ => 0))]) d_X0_init_15 ow_2 rfl rfl rfl rfl rfl rfl ?_
  refine x_putF (i := 0) (j := 1) (L' := [.inr (0, [.ref (q0 + 1), .ref (q0 + 2), .null, .null, .int 0]), .inl (κ.2.2.1.1, 8, .inl (fun _ => 0)), .inl (κ.2.2.1.1, 8, .inl (fun _ => 0))]) d_X0_init_17 ff_0_15 rfl rfl rfl (Nat.le_of_ble_eq_true rfl) rfl ?_
  refine x_aload_n d_X0_init_20 rfl ?_
  refine x_sipush d_X0_init_21 rfl ?_
  refine x_newa (N := 1000) (i := 3) (L' := [.inr (0, [.ref (q0 + 1), .ref (q0 + 2), .null, .null, .int 0]), .inl (κ.2.2.1.1, 8, .inl (fun _ => 0)), .inl (κ.2.2.1.1, 8, .inl (fun _ => 0)), .inl (κ.2.2.1.1, 1000, .inl (fun _ => 0))]) d_X0_init_24 ow_2 rfl rfl rfl rfl rfl rfl ?_
  refine x_putF (i := 0) (j := 2) (L' := [.inr (0, [.ref (q0 + 1), .ref (q0 + 2), .ref (q0 + 3), .null, .int 0]), .inl (κ.2.2.1.1, 8, .inl (fun _ => 0)), .inl (κ.2.2.1.1, 8, .inl (fun _ => 0)), .inl (κ.2.2.1.1, 1000, .inl (fun _ => 0))]) d_X0_init_26 ff_0_18 rfl rfl rfl (Nat.le_of_ble_eq_true rfl) rfl ?_
  refine x_aload_n d_X0_init_29 rfl ?_
  refine x_bipush d_X0_init_30 rfl ?_
  refine x_newa (N := 30) (i := 4) (L' := [.inr (0, [.ref (q0 + 1), .ref (q0 + 2), .ref (q0 + 3), .null, .int 0]), .inl (κ.2.2.1.1, 8, .inl (fun _ => 0)), .inl (κ.2.2.1.1, 8, .inl (fun _ => 0)), .inl (κ.2.2.1.1, 1000, .inl (fun _ => 0)), .inl (κ.2.2.1.1, 30, .inl (fun _ => 0))]) d_X0_init_32 ow_2 rfl rfl rfl rfl rfl rfl ?_
  refine x_putF (i := 0) (j := 3) (L' := [.inr (0, [.ref (q0 + 1), .ref (q0 + 2), .ref (q0 + 3), .ref (q0 + 4), .int 0]), .inl (κ.2.2.1.1, 8, .inl (fun _ => 0)), .inl (κ.2.2.1.1, 8, .inl (fun _ => 0)), .inl (κ.2.2.1.1, 1000, .inl (fun _ => 0)), .inl (κ.2.2.1.1, 30, .inl (fun _ => 0))]) d_X0_init_34 ff_0_21 rfl rfl rfl (Nat.le_of_ble_eq_true rfl) rfl ?_
  exact x_ret d_X0_init_37 rfl rfl rfl rfl
def Lo_1 (κ : Kp) (q : Nat) : List va_E := [.inr (1, [.ref (q + 1), .ref (q + 2), .int 0]), .inl (κ.2.2.1.1, 16, .inl (fun _ => 0)), .inl (κ.2.2.1.1, 16, .inl (fun _ => 0))]
theorem len_1 (κ : Kp) (q : Nat) : (Lo_1 κ q).length = 3 := rfl
abbrev R_X1_init : Room := { frames := 1, cells := 2, slots := 32, locals := 30 }
set_option maxHeartbeats 8000000 in
set_option maxRecDepth 20000 in
theorem c_X1_init (κ : Kp) (q0 : Nat) : CtC κ M_X1_init R_X1_init q0 (.inr (1, [.null, .null, .int 0])) (Lo_1 κ q0) := by
  refine CtC.of (by decide) rfl rfl (Nat.le_of_ble_eq_true rfl) ?_
  refine x_ls (ls' := [some (.ref q0)]) ⟨rfl, trivial⟩ ?_
  show EC κ M_X1_init R_X1_init q0 0 [some (.ref (q0 + 0))] [] _ 0 0 _
  refine x_aload_n d_X1_init_0 rfl ?_
  refine x_obj d_X1_init_1 ml_1_3 ow_1 ⟨by decide, Nat.le_of_ble_eq_true rfl⟩ ?_
  refine x_aload_n d_X1_init_4 rfl ?_
  refine x_bipush d_X1_init_5 rfl ?_
  refine x_newa (N := 16) (i := 1) (L' := [.inr (1, [.null, .null, .int 0]), .inl (κ.2.2.1.1, 16, .inl (fun _ => 0))]) d_X1_init_7 ow_2 rfl rfl rfl rfl rfl rfl ?_
  refine x_putF (i := 0) (j := 0) (L' := [.inr (1, [.ref (q0 + 1), .null, .int 0]), .inl (κ.2.2.1.1, 16, .inl (fun _ => 0))]) d_X1_init_9 ff_1_9 rfl rfl rfl (Nat.le_of_ble_eq_true rfl) rfl ?_
  refine x_aload_n d_X1_init_12 rfl ?_
  refine x_bipush d_X1_init_13 rfl ?_
  refine x_newa (N := 16) (i := 2) (L' := [.inr (1, [.ref (q0 + 1), .null, .int 0]), .inl (κ.2.2.1.1, 16, .inl (fun _ => 0)), .inl (κ.2.2.1.1, 16, .inl (fun _ => 0))]) d_X1_init_15 ow_2 rfl rfl rfl rfl rfl rfl ?_
  refine x_putF (i := 0) (j := 1) (L' := [.inr (1, [.ref (q0 + 1), .ref (q0 + 2), .int 0]), .inl (κ.2.2.1.1, 16, .inl (fun _ => 0)), .inl (κ.2.2.1.1, 16, .inl (fun _ => 0))]) d_X1_init_17 ff_1_15 rfl rfl rfl (Nat.le_of_ble_eq_true rfl) rfl ?_
  exact x_ret d_X1_init_20 rfl rfl rfl rfl
def Lo_2 (κ : Kp) (q : Nat) : List va_E := [.inr (2, [.ref (q + 1), .ref (q + 2), .ref (q + 3), .ref (q + 4), .int 0, .int 0, .ref (q + 5), .ref (q + 6)]), .inl (κ.2.2.1.1, 16, .inl (fun _ => 0)), .inl (κ.2.2.1.1, 16, .inl (fun _ => 0)), .inl (κ.2.2.1.1, 16, .inl (fun _ => 0)), .inl (κ.2.2.1.1, 400, .inl (fun _ => 0)), .inl (κ.2.2.1.1, 10, .inl (fun _ => 0)), .inl (κ.2.2.1.1, 32, .inl (fun _ => 0))]
theorem len_2 (κ : Kp) (q : Nat) : (Lo_2 κ q).length = 7 := rfl
abbrev R_X2_init : Room := { frames := 1, cells := 6, slots := 490, locals := 30 }
set_option maxHeartbeats 8000000 in
set_option maxRecDepth 20000 in
theorem c_X2_init (κ : Kp) (q0 : Nat) : CtC κ M_X2_init R_X2_init q0 (.inr (2, [.null, .null, .null, .null, .int 0, .int 0, .null, .null])) (Lo_2 κ q0) := by
  refine CtC.of (by decide) rfl rfl (Nat.le_of_ble_eq_true rfl) ?_
  refine x_ls (ls' := [some (.ref q0)]) ⟨rfl, trivial⟩ ?_
  show EC κ M_X2_init R_X2_init q0 0 [some (.ref (q0 + 0))] [] _ 0 0 _
  refine x_aload_n d_X2_init_0 rfl ?_
  refine x_obj d_X2_init_1 ml_2_3 ow_1 ⟨by decide, Nat.le_of_ble_eq_true rfl⟩ ?_
  refine x_aload_n d_X2_init_4 rfl ?_
  refine x_bipush d_X2_init_5 rfl ?_
  refine x_newa (N := 16) (i := 1) (L' := [.inr (2, [.null, .null, .null, .null, .int 0, .int 0, .null, .null]), .inl (κ.2.2.1.1, 16, .inl (fun _ => 0))]) d_X2_init_7 ow_2 rfl rfl rfl rfl rfl rfl ?_
  refine x_putF (i := 0) (j := 0) (L' := [.inr (2, [.ref (q0 + 1), .null, .null, .null, .int 0, .int 0, .null, .null]), .inl (κ.2.2.1.1, 16, .inl (fun _ => 0))]) d_X2_init_9 ff_2_9 rfl rfl rfl (Nat.le_of_ble_eq_true rfl) rfl ?_
  refine x_aload_n d_X2_init_12 rfl ?_
  refine x_bipush d_X2_init_13 rfl ?_
  refine x_newa (N := 16) (i := 2) (L' := [.inr (2, [.ref (q0 + 1), .null, .null, .null, .int 0, .int 0, .null, .null]), .inl (κ.2.2.1.1, 16, .inl (fun _ => 0)), .inl (κ.2.2.1.1, 16, .inl (fun _ => 0))]) d_X2_init_15 ow_2 rfl rfl rfl rfl rfl rfl ?_
  refine x_putF (i := 0) (j := 1) (L' := [.inr (2, [.ref (q0 + 1), .ref (q0 + 2), .null, .null, .int 0, .int 0, .null, .null]), .inl (κ.2.2.1.1, 16, .inl (fun _ => 0)), .inl (κ.2.2.1.1, 16, .inl (fun _ => 0))]) d_X2_init_17 ff_2_15 rfl rfl rfl (Nat.le_of_ble_eq_true rfl) rfl ?_
  refine x_aload_n d_X2_init_20 rfl ?_
  refine x_bipush d_X2_init_21 rfl ?_
  refine x_newa (N := 16) (i := 3) (L' := [.inr (2, [.ref (q0 + 1), .ref (q0 + 2), .null, .null, .int 0, .int 0, .null, .null]), .inl (κ.2.2.1.1, 16, .inl (fun _ => 0)), .inl (κ.2.2.1.1, 16, .inl (fun _ => 0)), .inl (κ.2.2.1.1, 16, .inl (fun _ => 0))]) d_X2_init_23 ow_2 rfl rfl rfl rfl rfl rfl ?_
  refine x_putF (i := 0) (j := 2) (L' := [.inr (2, [.ref (q0 + 1), .ref (q0 + 2), .ref (q0 + 3), .null, .int 0, .int 0, .null, .null]), .inl (κ.2.2.1.1, 16, .inl (fun _ => 0)), .inl (κ.2.2.1.1, 16, .inl (fun _ => 0)), .inl (κ.2.2.1.1, 16, .inl (fun _ => 0))]) d_X2_init_25 ff_2_18 rfl rfl rfl (Nat.le_of_ble_eq_true rfl) rfl ?_
  refine x_aload_n d_X2_init_28 rfl ?_
  refine x_sipush d_X2_init_29 rfl ?_
  refine x_newa (N := 400) (i := 4) (L' := [.inr (2, [.ref (q0 + 1), .ref (q0 + 2), .ref (q0 + 3), .null, .int 0, .int 0, .null, .null]), .inl (κ.2.2.1.1, 16, .inl (fun _ => 0)), .inl (κ.2.2.1.1, 16, .inl (fun _ => 0)), .inl (κ.2.2.1.1, 16, .inl (fun _ => 0)), .inl (κ.2.2.1.1, 400, .inl (fun _ => 0))]) d_X2_init_32 ow_2 rfl rfl rfl rfl rfl rfl ?_
  refine x_putF (i := 0) (j := 3) (L' := [.inr (2, [.ref (q0 + 1), .ref (q0 + 2), .ref (q0 + 3), .ref (q0 + 4), .int 0, .int 0, .null, .null]), .inl (κ.2.2.1.1, 16, .inl (fun _ => 0)), .inl (κ.2.2.1.1, 16, .inl (fun _ => 0)), .inl (κ.2.2.1.1, 16, .inl (fun _ => 0)), .inl (κ.2.2.1.1, 400, .inl (fun _ => 0))]) d_X2_init_34 ff_2_21 rfl rfl rfl (Nat.le_of_ble_eq_true rfl) rfl ?_
  refine x_aload_n d_X2_init_37 rfl ?_
  refine x_bipush d_X2_init_38 rfl ?_
  refine x_newa (N := 10) (i := 5) (L' := [.inr (2, [.ref (q0 + 1), .ref (q0 + 2), .ref (q0 + 3), .ref (q0 + 4), .int 0, .int 0, .null, .null]), .inl (κ.2.2.1.1, 16, .inl (fun _ => 0)), .inl (κ.2.2.1.1, 16, .inl (fun _ => 0)), .inl (κ.2.2.1.1, 16, .inl (fun _ => 0)), .inl (κ.2.2.1.1, 400, .inl (fun _ => 0)), .inl (κ.2.2.1.1, 10, .inl (fun _ => 0))]) d_X2_init_40 ow_2 rfl rfl rfl rfl rfl rfl ?_
  refine x_putF (i := 0) (j := 6) (L' := [.inr (2, [.ref (q0 + 1), .ref (q0 + 2), .ref (q0 + 3), .ref (q0 + 4), .int 0, .int 0, .ref (q0 + 5), .null]), .inl (κ.2.2.1.1, 16, .inl (fun _ => 0)), .inl (κ.2.2.1.1, 16, .inl (fun _ => 0)), .inl (κ.2.2.1.1, 16, .inl (fun _ => 0)), .inl (κ.2.2.1.1, 400, .inl (fun _ => 0)), .inl (κ.2.2.1.1, 10, .inl (fun _ => 0))]) d_X2_init_42 ff_2_24 rfl rfl rfl (Nat.le_of_ble_eq_true rfl) rfl ?_
  refine x_aload_n d_X2_init_45 rfl ?_
  refine x_bipush d_X2_init_46 rfl ?_
  refine x_newa (N := 32) (i := 6) (L' := [.inr (2, [.ref (q0 + 1), .ref (q0 + 2), .ref (q0 + 3), .ref (q0 + 4), .int 0, .int 0, .ref (q0 + 5), .null]), .inl (κ.2.2.1.1, 16, .inl (fun _ => 0)), .inl (κ.2.2.1.1, 16, .inl (fun _ => 0)), .inl (κ.2.2.1.1, 16, .inl (fun _ => 0)), .inl (κ.2.2.1.1, 400, .inl (fun _ => 0)), .inl (κ.2.2.1.1, 10, .inl (fun _ => 0)), .inl (κ.2.2.1.1, 32, .inl (fun _ => 0))]) d_X2_init_48 ow_2 rfl rfl rfl rfl rfl rfl ?_
  refine x_putF (i := 0) (j := 7) (L' := [.inr (2, [.ref (q0 + 1), .ref (q0 + 2), .ref (q0 + 3), .ref (q0 + 4), .int 0, .int 0, .ref (q0 + 5), .ref (q0 + 6)]), .inl (κ.2.2.1.1, 16, .inl (fun _ => 0)), .inl (κ.2.2.1.1, 16, .inl (fun _ => 0)), .inl (κ.2.2.1.1, 16, .inl (fun _ => 0)), .inl (κ.2.2.1.1, 400, .inl (fun _ => 0)), .inl (κ.2.2.1.1, 10, .inl (fun _ => 0)), .inl (κ.2.2.1.1, 32, .inl (fun _ => 0))]) d_X2_init_50 ff_2_27 rfl rfl rfl (Nat.le_of_ble_eq_true rfl) rfl ?_
  exact x_ret d_X2_init_53 rfl rfl rfl rfl
def Lo_3 (κ : Kp) (q : Nat) : List va_E := [.inr (3, [.ref (q + 1), .ref (q + 2), .int 0]), .inl (κ.2.2.1.1, 4, .inl (fun _ => 0)), .inl (κ.2.2.1.1, 6, .inl (fun _ => 0))]
theorem len_3 (κ : Kp) (q : Nat) : (Lo_3 κ q).length = 3 := rfl
abbrev R_X3_init : Room := { frames := 1, cells := 2, slots := 10, locals := 30 }
set_option maxHeartbeats 8000000 in
set_option maxRecDepth 20000 in
theorem c_X3_init (κ : Kp) (q0 : Nat) : CtC κ M_X3_init R_X3_init q0 (.inr (3, [.null, .null, .int 0])) (Lo_3 κ q0) := by
  refine CtC.of (by decide) rfl rfl (Nat.le_of_ble_eq_true rfl) ?_
  refine x_ls (ls' := [some (.ref q0)]) ⟨rfl, trivial⟩ ?_
  show EC κ M_X3_init R_X3_init q0 0 [some (.ref (q0 + 0))] [] _ 0 0 _
  refine x_aload_n d_X3_init_0 rfl ?_
  refine x_obj d_X3_init_1 ml_3_3 ow_1 ⟨by decide, Nat.le_of_ble_eq_true rfl⟩ ?_
  refine x_aload_n d_X3_init_4 rfl ?_
  refine x_iconst d_X3_init_5 ?_
  refine x_newa (N := 4) (i := 1) (L' := [.inr (3, [.null, .null, .int 0]), .inl (κ.2.2.1.1, 4, .inl (fun _ => 0))]) d_X3_init_6 ow_2 rfl rfl rfl rfl rfl rfl ?_
  refine x_putF (i := 0) (j := 0) (L' := [.inr (3, [.ref (q0 + 1), .null, .int 0]), .inl (κ.2.2.1.1, 4, .inl (fun _ => 0))]) d_X3_init_8 ff_3_9 rfl rfl rfl (Nat.le_of_ble_eq_true rfl) rfl ?_
  refine x_aload_n d_X3_init_11 rfl ?_
  refine x_bipush d_X3_init_12 rfl ?_
  refine x_newa (N := 6) (i := 2) (L' := [.inr (3, [.ref (q0 + 1), .null, .int 0]), .inl (κ.2.2.1.1, 4, .inl (fun _ => 0)), .inl (κ.2.2.1.1, 6, .inl (fun _ => 0))]) d_X3_init_14 ow_2 rfl rfl rfl rfl rfl rfl ?_
  refine x_putF (i := 0) (j := 1) (L' := [.inr (3, [.ref (q0 + 1), .ref (q0 + 2), .int 0]), .inl (κ.2.2.1.1, 4, .inl (fun _ => 0)), .inl (κ.2.2.1.1, 6, .inl (fun _ => 0))]) d_X3_init_16 ff_3_15 rfl rfl rfl (Nat.le_of_ble_eq_true rfl) rfl ?_
  exact x_ret d_X3_init_19 rfl rfl rfl rfl
def Lo_4 (κ : Kp) (q : Nat) : List va_E := [.inr (4, [.ref (q + 1), .ref (q + 2), .ref (q + 3), .ref (q + 4), .ref (q + 5), .ref (q + 6), .ref (q + 7), .ref (q + 8), .int 0, .int 0, .int 0, vi 5, vi 3, .int 0, .int 0, .int 0, .int 0]), .inl (κ.2.2.1.1, 10, .inl (fun _ => 0)), .inl (κ.2.2.1.1, 10, .inl (fun _ => 0)), .inl (κ.2.2.1.1, 10, .inl (fun _ => 0)), .inl (κ.2.2.1.1, 10, .inl (fun _ => 0)), .inl (κ.2.2.1.1, 10, .inl (fun _ => 0)), .inl (κ.2.2.1.1, 10, .inl (fun _ => 0)), .inl (κ.2.2.1.1, 10, .inl (fun _ => 0)), .inl (κ.2.2.1.1, 16, .inl (fun j => Int32.ofInt (ini_arch j)))]
theorem len_4 (κ : Kp) (q : Nat) : (Lo_4 κ q).length = 9 := rfl
def ar4_1 : Nat → Int32 := upd (fun _ => 0) 0 (Int32.ofInt 10)
def ar4_2 : Nat → Int32 := upd ar4_1 1 (Int32.ofInt 10)
def ar4_3 : Nat → Int32 := upd ar4_2 2 (Int32.ofInt 10)
def ar4_4 : Nat → Int32 := upd ar4_3 3 (Int32.ofInt 10)
def ar4_5 : Nat → Int32 := upd ar4_4 4 (Int32.ofInt 10)
def ar4_6 : Nat → Int32 := upd ar4_5 5 (Int32.ofInt 10)
def ar4_7 : Nat → Int32 := upd ar4_6 6 (Int32.ofInt 10)
def ar4_8 : Nat → Int32 := upd ar4_7 7 (Int32.ofInt 10)
def ar4_9 : Nat → Int32 := upd ar4_8 8 (Int32.ofInt 10)
def ar4_10 : Nat → Int32 := upd ar4_9 9 (Int32.ofInt 10)
def ar4_11 : Nat → Int32 := upd ar4_10 10 (Int32.ofInt 10)
def ar4_12 : Nat → Int32 := upd ar4_11 11 (Int32.ofInt 10)
def ar4_13 : Nat → Int32 := upd ar4_12 12 (Int32.ofInt 10)
def ar4_14 : Nat → Int32 := upd ar4_13 13 (Int32.ofInt 10)
def ar4_15 : Nat → Int32 := upd ar4_14 14 (Int32.ofInt 10)
def ar4_16 : Nat → Int32 := upd ar4_15 15 (Int32.ofInt 10)
abbrev R_X4_init : Room := { frames := 1, cells := 8, slots := 86, locals := 30 }
set_option maxHeartbeats 8000000 in
set_option maxRecDepth 20000 in
theorem c_X4_init (κ : Kp) (q0 : Nat) : CtC κ M_X4_init R_X4_init q0 (.inr (4, [.null, .null, .null, .null, .null, .null, .null, .null, .int 0, .int 0, .int 0, .int 0, .int 0, .int 0, .int 0, .int 0, .int 0])) (Lo_4 κ q0) := by
  refine CtC.of (by decide) rfl rfl (Nat.le_of_ble_eq_true rfl) ?_
  refine x_ls (ls' := [some (.ref q0), none]) ⟨rfl, trivial⟩ ?_
  show EC κ M_X4_init R_X4_init q0 0 [some (.ref (q0 + 0)), none] [] _ 0 0 _
  refine x_aload_n d_X4_init_0 rfl ?_
  refine x_obj d_X4_init_1 ml_4_3 ow_1 ⟨by decide, Nat.le_of_ble_eq_true rfl⟩ ?_
  refine x_aload_n d_X4_init_4 rfl ?_
  refine x_bipush d_X4_init_5 rfl ?_
  refine x_newa (N := 10) (i := 1) (L' := [.inr (4, [.null, .null, .null, .null, .null, .null, .null, .null, .int 0, .int 0, .int 0, .int 0, .int 0, .int 0, .int 0, .int 0, .int 0]), .inl (κ.2.2.1.1, 10, .inl (fun _ => 0))]) d_X4_init_7 ow_2 rfl rfl rfl rfl rfl rfl ?_
  refine x_putF (i := 0) (j := 0) (L' := [.inr (4, [.ref (q0 + 1), .null, .null, .null, .null, .null, .null, .null, .int 0, .int 0, .int 0, .int 0, .int 0, .int 0, .int 0, .int 0, .int 0]), .inl (κ.2.2.1.1, 10, .inl (fun _ => 0))]) d_X4_init_9 ff_4_9 rfl rfl rfl (Nat.le_of_ble_eq_true rfl) rfl ?_
  refine x_aload_n d_X4_init_12 rfl ?_
  refine x_bipush d_X4_init_13 rfl ?_
  refine x_newa (N := 10) (i := 2) (L' := [.inr (4, [.ref (q0 + 1), .null, .null, .null, .null, .null, .null, .null, .int 0, .int 0, .int 0, .int 0, .int 0, .int 0, .int 0, .int 0, .int 0]), .inl (κ.2.2.1.1, 10, .inl (fun _ => 0)), .inl (κ.2.2.1.1, 10, .inl (fun _ => 0))]) d_X4_init_15 ow_2 rfl rfl rfl rfl rfl rfl ?_
  refine x_putF (i := 0) (j := 1) (L' := [.inr (4, [.ref (q0 + 1), .ref (q0 + 2), .null, .null, .null, .null, .null, .null, .int 0, .int 0, .int 0, .int 0, .int 0, .int 0, .int 0, .int 0, .int 0]), .inl (κ.2.2.1.1, 10, .inl (fun _ => 0)), .inl (κ.2.2.1.1, 10, .inl (fun _ => 0))]) d_X4_init_17 ff_4_15 rfl rfl rfl (Nat.le_of_ble_eq_true rfl) rfl ?_
  refine x_aload_n d_X4_init_20 rfl ?_
  refine x_bipush d_X4_init_21 rfl ?_
  refine x_newa (N := 10) (i := 3) (L' := [.inr (4, [.ref (q0 + 1), .ref (q0 + 2), .null, .null, .null, .null, .null, .null, .int 0, .int 0, .int 0, .int 0, .int 0, .int 0, .int 0, .int 0, .int 0]), .inl (κ.2.2.1.1, 10, .inl (fun _ => 0)), .inl (κ.2.2.1.1, 10, .inl (fun _ => 0)), .inl (κ.2.2.1.1, 10, .inl (fun _ => 0))]) d_X4_init_23 ow_2 rfl rfl rfl rfl rfl rfl ?_
  refine x_putF (i := 0) (j := 2) (L' := [.inr (4, [.ref (q0 + 1), .ref (q0 + 2), .ref (q0 + 3), .null, .null, .null, .null, .null, .int 0, .int 0, .int 0, .int 0, .int 0, .int 0, .int 0, .int 0, .int 0]), .inl (κ.2.2.1.1, 10, .inl (fun _ => 0)), .inl (κ.2.2.1.1, 10, .inl (fun _ => 0)), .inl (κ.2.2.1.1, 10, .inl (fun _ => 0))]) d_X4_init_25 ff_4_18 rfl rfl rfl (Nat.le_of_ble_eq_true rfl) rfl ?_
  refine x_aload_n d_X4_init_28 rfl ?_
  refine x_bipush d_X4_init_29 rfl ?_
  refine x_newa (N := 10) (i := 4) (L' := [.inr (4, [.ref (q0 + 1), .ref (q0 + 2), .ref (q0 + 3), .null, .null, .null, .null, .null, .int 0, .int 0, .int 0, .int 0, .int 0, .int 0, .int 0, .int 0, .int 0]), .inl (κ.2.2.1.1, 10, .inl (fun _ => 0)), .inl (κ.2.2.1.1, 10, .inl (fun _ => 0)), .inl (κ.2.2.1.1, 10, .inl (fun _ => 0)), .inl (κ.2.2.1.1, 10, .inl (fun _ => 0))]) d_X4_init_31 ow_2 rfl rfl rfl rfl rfl rfl ?_
  refine x_putF (i := 0) (j := 3) (L' := [.inr (4, [.ref (q0 + 1), .ref (q0 + 2), .ref (q0 + 3), .ref (q0 + 4), .null, .null, .null, .null, .int 0, .int 0, .int 0, .int 0, .int 0, .int 0, .int 0, .int 0, .int 0]), .inl (κ.2.2.1.1, 10, .inl (fun _ => 0)), .inl (κ.2.2.1.1, 10, .inl (fun _ => 0)), .inl (κ.2.2.1.1, 10, .inl (fun _ => 0)), .inl (κ.2.2.1.1, 10, .inl (fun _ => 0))]) d_X4_init_33 ff_4_21 rfl rfl rfl (Nat.le_of_ble_eq_true rfl) rfl ?_
  refine x_aload_n d_X4_init_36 rfl ?_
  refine x_bipush d_X4_init_37 rfl ?_
  refine x_newa (N := 10) (i := 5) (L' := [.inr (4, [.ref (q0 + 1), .ref (q0 + 2), .ref (q0 + 3), .ref (q0 + 4), .null, .null, .null, .null, .int 0, .int 0, .int 0, .int 0, .int 0, .int 0, .int 0, .int 0, .int 0]), .inl (κ.2.2.1.1, 10, .inl (fun _ => 0)), .inl (κ.2.2.1.1, 10, .inl (fun _ => 0)), .inl (κ.2.2.1.1, 10, .inl (fun _ => 0)), .inl (κ.2.2.1.1, 10, .inl (fun _ => 0)), .inl (κ.2.2.1.1, 10, .inl (fun _ => 0))]) d_X4_init_39 ow_2 rfl rfl rfl rfl rfl rfl ?_
  refine x_putF (i := 0) (j := 4) (L' := [.inr (4, [.ref (q0 + 1), .ref (q0 + 2), .ref (q0 + 3), .ref (q0 + 4), .ref (q0 + 5), .null, .null, .null, .int 0, .int 0, .int 0, .int 0, .int 0, .int 0, .int 0, .int 0, .int 0]), .inl (κ.2.2.1.1, 10, .inl (fun _ => 0)), .inl (κ.2.2.1.1, 10, .inl (fun _ => 0)), .inl (κ.2.2.1.1, 10, .inl (fun _ => 0)), .inl (κ.2.2.1.1, 10, .inl (fun _ => 0)), .inl (κ.2.2.1.1, 10, .inl (fun _ => 0))]) d_X4_init_41 ff_4_24 rfl rfl rfl (Nat.le_of_ble_eq_true rfl) rfl ?_
  refine x_aload_n d_X4_init_44 rfl ?_
  refine x_bipush d_X4_init_45 rfl ?_
  refine x_newa (N := 10) (i := 6) (L' := [.inr (4, [.ref (q0 + 1), .ref (q0 + 2), .ref (q0 + 3), .ref (q0 + 4), .ref (q0 + 5), .null, .null, .null, .int 0, .int 0, .int 0, .int 0, .int 0, .int 0, .int 0, .int 0, .int 0]), .inl (κ.2.2.1.1, 10, .inl (fun _ => 0)), .inl (κ.2.2.1.1, 10, .inl (fun _ => 0)), .inl (κ.2.2.1.1, 10, .inl (fun _ => 0)), .inl (κ.2.2.1.1, 10, .inl (fun _ => 0)), .inl (κ.2.2.1.1, 10, .inl (fun _ => 0)), .inl (κ.2.2.1.1, 10, .inl (fun _ => 0))]) d_X4_init_47 ow_2 rfl rfl rfl rfl rfl rfl ?_
  refine x_putF (i := 0) (j := 5) (L' := [.inr (4, [.ref (q0 + 1), .ref (q0 + 2), .ref (q0 + 3), .ref (q0 + 4), .ref (q0 + 5), .ref (q0 + 6), .null, .null, .int 0, .int 0, .int 0, .int 0, .int 0, .int 0, .int 0, .int 0, .int 0]), .inl (κ.2.2.1.1, 10, .inl (fun _ => 0)), .inl (κ.2.2.1.1, 10, .inl (fun _ => 0)), .inl (κ.2.2.1.1, 10, .inl (fun _ => 0)), .inl (κ.2.2.1.1, 10, .inl (fun _ => 0)), .inl (κ.2.2.1.1, 10, .inl (fun _ => 0)), .inl (κ.2.2.1.1, 10, .inl (fun _ => 0))]) d_X4_init_49 ff_4_27 rfl rfl rfl (Nat.le_of_ble_eq_true rfl) rfl ?_
  refine x_aload_n d_X4_init_52 rfl ?_
  refine x_bipush d_X4_init_53 rfl ?_
  refine x_newa (N := 10) (i := 7) (L' := [.inr (4, [.ref (q0 + 1), .ref (q0 + 2), .ref (q0 + 3), .ref (q0 + 4), .ref (q0 + 5), .ref (q0 + 6), .null, .null, .int 0, .int 0, .int 0, .int 0, .int 0, .int 0, .int 0, .int 0, .int 0]), .inl (κ.2.2.1.1, 10, .inl (fun _ => 0)), .inl (κ.2.2.1.1, 10, .inl (fun _ => 0)), .inl (κ.2.2.1.1, 10, .inl (fun _ => 0)), .inl (κ.2.2.1.1, 10, .inl (fun _ => 0)), .inl (κ.2.2.1.1, 10, .inl (fun _ => 0)), .inl (κ.2.2.1.1, 10, .inl (fun _ => 0)), .inl (κ.2.2.1.1, 10, .inl (fun _ => 0))]) d_X4_init_55 ow_2 rfl rfl rfl rfl rfl rfl ?_
  refine x_putF (i := 0) (j := 6) (L' := [.inr (4, [.ref (q0 + 1), .ref (q0 + 2), .ref (q0 + 3), .ref (q0 + 4), .ref (q0 + 5), .ref (q0 + 6), .ref (q0 + 7), .null, .int 0, .int 0, .int 0, .int 0, .int 0, .int 0, .int 0, .int 0, .int 0]), .inl (κ.2.2.1.1, 10, .inl (fun _ => 0)), .inl (κ.2.2.1.1, 10, .inl (fun _ => 0)), .inl (κ.2.2.1.1, 10, .inl (fun _ => 0)), .inl (κ.2.2.1.1, 10, .inl (fun _ => 0)), .inl (κ.2.2.1.1, 10, .inl (fun _ => 0)), .inl (κ.2.2.1.1, 10, .inl (fun _ => 0)), .inl (κ.2.2.1.1, 10, .inl (fun _ => 0))]) d_X4_init_57 ff_4_30 rfl rfl rfl (Nat.le_of_ble_eq_true rfl) rfl ?_
  refine x_aload_n d_X4_init_60 rfl ?_
  refine x_bipush d_X4_init_61 rfl ?_
  refine x_newa (N := 16) (i := 8) (L' := [.inr (4, [.ref (q0 + 1), .ref (q0 + 2), .ref (q0 + 3), .ref (q0 + 4), .ref (q0 + 5), .ref (q0 + 6), .ref (q0 + 7), .null, .int 0, .int 0, .int 0, .int 0, .int 0, .int 0, .int 0, .int 0, .int 0]), .inl (κ.2.2.1.1, 10, .inl (fun _ => 0)), .inl (κ.2.2.1.1, 10, .inl (fun _ => 0)), .inl (κ.2.2.1.1, 10, .inl (fun _ => 0)), .inl (κ.2.2.1.1, 10, .inl (fun _ => 0)), .inl (κ.2.2.1.1, 10, .inl (fun _ => 0)), .inl (κ.2.2.1.1, 10, .inl (fun _ => 0)), .inl (κ.2.2.1.1, 10, .inl (fun _ => 0)), .inl (κ.2.2.1.1, 16, .inl (fun _ => 0))]) d_X4_init_63 ow_2 rfl rfl rfl rfl rfl rfl ?_
  refine x_putF (i := 0) (j := 7) (L' := [.inr (4, [.ref (q0 + 1), .ref (q0 + 2), .ref (q0 + 3), .ref (q0 + 4), .ref (q0 + 5), .ref (q0 + 6), .ref (q0 + 7), .ref (q0 + 8), .int 0, .int 0, .int 0, .int 0, .int 0, .int 0, .int 0, .int 0, .int 0]), .inl (κ.2.2.1.1, 10, .inl (fun _ => 0)), .inl (κ.2.2.1.1, 10, .inl (fun _ => 0)), .inl (κ.2.2.1.1, 10, .inl (fun _ => 0)), .inl (κ.2.2.1.1, 10, .inl (fun _ => 0)), .inl (κ.2.2.1.1, 10, .inl (fun _ => 0)), .inl (κ.2.2.1.1, 10, .inl (fun _ => 0)), .inl (κ.2.2.1.1, 10, .inl (fun _ => 0)), .inl (κ.2.2.1.1, 16, .inl (fun _ => 0))]) d_X4_init_65 ff_4_33 rfl rfl rfl (Nat.le_of_ble_eq_true rfl) rfl ?_
  refine x_iconst d_X4_init_68 ?_
  refine x_istore_n (ls' := [some (.ref (q0 + 0)), some (vi 0)]) d_X4_init_69 rfl rfl ?_
  refine x_iload_n (x := 0) d_X4_init_70 rfl ?_
  refine x_bipush d_X4_init_71 rfl ?_
  refine x_geN d_X4_init_73 rfl rfl rfl ?_
  refine x_aload_n d_X4_init_76 rfl ?_
  refine x_get (i := 0) (j := 7) (v := .ref (q0 + 8)) d_X4_init_77 fi_4_33 rfl rfl ?_
  refine x_iload_n (x := 0) d_X4_init_80 rfl ?_
  refine x_bipush d_X4_init_81 rfl ?_
  refine x_iast (i := 8) (N := 16) (f := (fun _ => 0)) (L' := [.inr (4, [.ref (q0 + 1), .ref (q0 + 2), .ref (q0 + 3), .ref (q0 + 4), .ref (q0 + 5), .ref (q0 + 6), .ref (q0 + 7), .ref (q0 + 8), .int 0, .int 0, .int 0, .int 0, .int 0, .int 0, .int 0, .int 0, .int 0]), .inl (κ.2.2.1.1, 10, .inl (fun _ => 0)), .inl (κ.2.2.1.1, 10, .inl (fun _ => 0)), .inl (κ.2.2.1.1, 10, .inl (fun _ => 0)), .inl (κ.2.2.1.1, 10, .inl (fun _ => 0)), .inl (κ.2.2.1.1, 10, .inl (fun _ => 0)), .inl (κ.2.2.1.1, 10, .inl (fun _ => 0)), .inl (κ.2.2.1.1, 10, .inl (fun _ => 0)), .inl (κ.2.2.1.1, 16, .inl ar4_1)]) d_X4_init_83 rfl (by decide) (by decide) rfl ?_
  refine x_iinc (x := 0) (y := 1) (ls' := [some (.ref (q0 + 0)), some (vi 1)]) d_X4_init_84 rfl rfl rfl rfl ?_
  refine x_goto d_X4_init_87 ?_
  refine x_iload_n (x := 1) d_X4_init_70 rfl ?_
  refine x_bipush d_X4_init_71 rfl ?_
  refine x_geN d_X4_init_73 rfl rfl rfl ?_
  refine x_aload_n d_X4_init_76 rfl ?_
  refine x_get (i := 0) (j := 7) (v := .ref (q0 + 8)) d_X4_init_77 fi_4_33 rfl rfl ?_
  refine x_iload_n (x := 1) d_X4_init_80 rfl ?_
  refine x_bipush d_X4_init_81 rfl ?_
  refine x_iast (i := 8) (N := 16) (f := ar4_1) (L' := [.inr (4, [.ref (q0 + 1), .ref (q0 + 2), .ref (q0 + 3), .ref (q0 + 4), .ref (q0 + 5), .ref (q0 + 6), .ref (q0 + 7), .ref (q0 + 8), .int 0, .int 0, .int 0, .int 0, .int 0, .int 0, .int 0, .int 0, .int 0]), .inl (κ.2.2.1.1, 10, .inl (fun _ => 0)), .inl (κ.2.2.1.1, 10, .inl (fun _ => 0)), .inl (κ.2.2.1.1, 10, .inl (fun _ => 0)), .inl (κ.2.2.1.1, 10, .inl (fun _ => 0)), .inl (κ.2.2.1.1, 10, .inl (fun _ => 0)), .inl (κ.2.2.1.1, 10, .inl (fun _ => 0)), .inl (κ.2.2.1.1, 10, .inl (fun _ => 0)), .inl (κ.2.2.1.1, 16, .inl ar4_2)]) d_X4_init_83 rfl (by decide) (by decide) rfl ?_
  refine x_iinc (x := 1) (y := 2) (ls' := [some (.ref (q0 + 0)), some (vi 2)]) d_X4_init_84 rfl rfl rfl rfl ?_
  refine x_goto d_X4_init_87 ?_
  refine x_iload_n (x := 2) d_X4_init_70 rfl ?_
  refine x_bipush d_X4_init_71 rfl ?_
  refine x_geN d_X4_init_73 rfl rfl rfl ?_
  refine x_aload_n d_X4_init_76 rfl ?_
  refine x_get (i := 0) (j := 7) (v := .ref (q0 + 8)) d_X4_init_77 fi_4_33 rfl rfl ?_
  refine x_iload_n (x := 2) d_X4_init_80 rfl ?_
  refine x_bipush d_X4_init_81 rfl ?_
  refine x_iast (i := 8) (N := 16) (f := ar4_2) (L' := [.inr (4, [.ref (q0 + 1), .ref (q0 + 2), .ref (q0 + 3), .ref (q0 + 4), .ref (q0 + 5), .ref (q0 + 6), .ref (q0 + 7), .ref (q0 + 8), .int 0, .int 0, .int 0, .int 0, .int 0, .int 0, .int 0, .int 0, .int 0]), .inl (κ.2.2.1.1, 10, .inl (fun _ => 0)), .inl (κ.2.2.1.1, 10, .inl (fun _ => 0)), .inl (κ.2.2.1.1, 10, .inl (fun _ => 0)), .inl (κ.2.2.1.1, 10, .inl (fun _ => 0)), .inl (κ.2.2.1.1, 10, .inl (fun _ => 0)), .inl (κ.2.2.1.1, 10, .inl (fun _ => 0)), .inl (κ.2.2.1.1, 10, .inl (fun _ => 0)), .inl (κ.2.2.1.1, 16, .inl ar4_3)]) d_X4_init_83 rfl (by decide) (by decide) rfl ?_
  refine x_iinc (x := 2) (y := 3) (ls' := [some (.ref (q0 + 0)), some (vi 3)]) d_X4_init_84 rfl rfl rfl rfl ?_
  refine x_goto d_X4_init_87 ?_
  refine x_iload_n (x := 3) d_X4_init_70 rfl ?_
  refine x_bipush d_X4_init_71 rfl ?_
  refine x_geN d_X4_init_73 rfl rfl rfl ?_
  refine x_aload_n d_X4_init_76 rfl ?_
  refine x_get (i := 0) (j := 7) (v := .ref (q0 + 8)) d_X4_init_77 fi_4_33 rfl rfl ?_
  refine x_iload_n (x := 3) d_X4_init_80 rfl ?_
  refine x_bipush d_X4_init_81 rfl ?_
  refine x_iast (i := 8) (N := 16) (f := ar4_3) (L' := [.inr (4, [.ref (q0 + 1), .ref (q0 + 2), .ref (q0 + 3), .ref (q0 + 4), .ref (q0 + 5), .ref (q0 + 6), .ref (q0 + 7), .ref (q0 + 8), .int 0, .int 0, .int 0, .int 0, .int 0, .int 0, .int 0, .int 0, .int 0]), .inl (κ.2.2.1.1, 10, .inl (fun _ => 0)), .inl (κ.2.2.1.1, 10, .inl (fun _ => 0)), .inl (κ.2.2.1.1, 10, .inl (fun _ => 0)), .inl (κ.2.2.1.1, 10, .inl (fun _ => 0)), .inl (κ.2.2.1.1, 10, .inl (fun _ => 0)), .inl (κ.2.2.1.1, 10, .inl (fun _ => 0)), .inl (κ.2.2.1.1, 10, .inl (fun _ => 0)), .inl (κ.2.2.1.1, 16, .inl ar4_4)]) d_X4_init_83 rfl (by decide) (by decide) rfl ?_
  refine x_iinc (x := 3) (y := 4) (ls' := [some (.ref (q0 + 0)), some (vi 4)]) d_X4_init_84 rfl rfl rfl rfl ?_
  refine x_goto d_X4_init_87 ?_
  refine x_iload_n (x := 4) d_X4_init_70 rfl ?_
  refine x_bipush d_X4_init_71 rfl ?_
  refine x_geN d_X4_init_73 rfl rfl rfl ?_
  refine x_aload_n d_X4_init_76 rfl ?_
  refine x_get (i := 0) (j := 7) (v := .ref (q0 + 8)) d_X4_init_77 fi_4_33 rfl rfl ?_
  refine x_iload_n (x := 4) d_X4_init_80 rfl ?_
  refine x_bipush d_X4_init_81 rfl ?_
  refine x_iast (i := 8) (N := 16) (f := ar4_4) (L' := [.inr (4, [.ref (q0 + 1), .ref (q0 + 2), .ref (q0 + 3), .ref (q0 + 4), .ref (q0 + 5), .ref (q0 + 6), .ref (q0 + 7), .ref (q0 + 8), .int 0, .int 0, .int 0, .int 0, .int 0, .int 0, .int 0, .int 0, .int 0]), .inl (κ.2.2.1.1, 10, .inl (fun _ => 0)), .inl (κ.2.2.1.1, 10, .inl (fun _ => 0)), .inl (κ.2.2.1.1, 10, .inl (fun _ => 0)), .inl (κ.2.2.1.1, 10, .inl (fun _ => 0)), .inl (κ.2.2.1.1, 10, .inl (fun _ => 0)), .inl (κ.2.2.1.1, 10, .inl (fun _ => 0)), .inl (κ.2.2.1.1, 10, .inl (fun _ => 0)), .inl (κ.2.2.1.1, 16, .inl ar4_5)]) d_X4_init_83 rfl (by decide) (by decide) rfl ?_
  refine x_iinc (x := 4) (y := 5) (ls' := [some (.ref (q0 + 0)), some (vi 5)]) d_X4_init_84 rfl rfl rfl rfl ?_
  refine x_goto d_X4_init_87 ?_
  refine x_iload_n (x := 5) d_X4_init_70 rfl ?_
  refine x_bipush d_X4_init_71 rfl ?_
  refine x_geN d_X4_init_73 rfl rfl rfl ?_
  refine x_aload_n d_X4_init_76 rfl ?_
  refine x_get (i := 0) (j := 7) (v := .ref (q0 + 8)) d_X4_init_77 fi_4_33 rfl rfl ?_
  refine x_iload_n (x := 5) d_X4_init_80 rfl ?_
  refine x_bipush d_X4_init_81 rfl ?_
  refine x_iast (i := 8) (N := 16) (f := ar4_5) (L' := [.inr (4, [.ref (q0 + 1), .ref (q0 + 2), .ref (q0 + 3), .ref (q0 + 4), .ref (q0 + 5), .ref (q0 + 6), .ref (q0 + 7), .ref (q0 + 8), .int 0, .int 0, .int 0, .int 0, .int 0, .int 0, .int 0, .int 0, .int 0]), .inl (κ.2.2.1.1, 10, .inl (fun _ => 0)), .inl (κ.2.2.1.1, 10, .inl (fun _ => 0)), .inl (κ.2.2.1.1, 10, .inl (fun _ => 0)), .inl (κ.2.2.1.1, 10, .inl (fun _ => 0)), .inl (κ.2.2.1.1, 10, .inl (fun _ => 0)), .inl (κ.2.2.1.1, 10, .inl (fun _ => 0)), .inl (κ.2.2.1.1, 10, .inl (fun _ => 0)), .inl (κ.2.2.1.1, 16, .inl ar4_6)]) d_X4_init_83 rfl (by decide) (by decide) rfl ?_
  refine x_iinc (x := 5) (y := 6) (ls' := [some (.ref (q0 + 0)), some (vi 6)]) d_X4_init_84 rfl rfl rfl rfl ?_
  refine x_goto d_X4_init_87 ?_
  refine x_iload_n (x := 6) d_X4_init_70 rfl ?_
  refine x_bipush d_X4_init_71 rfl ?_
  refine x_geN d_X4_init_73 rfl rfl rfl ?_
  refine x_aload_n d_X4_init_76 rfl ?_
  refine x_get (i := 0) (j := 7) (v := .ref (q0 + 8)) d_X4_init_77 fi_4_33 rfl rfl ?_
  refine x_iload_n (x := 6) d_X4_init_80 rfl ?_
  refine x_bipush d_X4_init_81 rfl ?_
  refine x_iast (i := 8) (N := 16) (f := ar4_6) (L' := [.inr (4, [.ref (q0 + 1), .ref (q0 + 2), .ref (q0 + 3), .ref (q0 + 4), .ref (q0 + 5), .ref (q0 + 6), .ref (q0 + 7), .ref (q0 + 8), .int 0, .int 0, .int 0, .int 0, .int 0, .int 0, .int 0, .int 0, .int 0]), .inl (κ.2.2.1.1, 10, .inl (fun _ => 0)), .inl (κ.2.2.1.1, 10, .inl (fun _ => 0)), .inl (κ.2.2.1.1, 10, .inl (fun _ => 0)), .inl (κ.2.2.1.1, 10, .inl (fun _ => 0)), .inl (κ.2.2.1.1, 10, .inl (fun _ => 0)), .inl (κ.2.2.1.1, 10, .inl (fun _ => 0)), .inl (κ.2.2.1.1, 10, .inl (fun _ => 0)), .inl (κ.2.2.1.1, 16, .inl ar4_7)]) d_X4_init_83 rfl (by decide) (by decide) rfl ?_
  refine x_iinc (x := 6) (y := 7) (ls' := [some (.ref (q0 + 0)), some (vi 7)]) d_X4_init_84 rfl rfl rfl rfl ?_
  refine x_goto d_X4_init_87 ?_
  refine x_iload_n (x := 7) d_X4_init_70 rfl ?_
  refine x_bipush d_X4_init_71 rfl ?_
  refine x_geN d_X4_init_73 rfl rfl rfl ?_
  refine x_aload_n d_X4_init_76 rfl ?_
  refine x_get (i := 0) (j := 7) (v := .ref (q0 + 8)) d_X4_init_77 fi_4_33 rfl rfl ?_
  refine x_iload_n (x := 7) d_X4_init_80 rfl ?_
  refine x_bipush d_X4_init_81 rfl ?_
  refine x_iast (i := 8) (N := 16) (f := ar4_7) (L' := [.inr (4, [.ref (q0 + 1), .ref (q0 + 2), .ref (q0 + 3), .ref (q0 + 4), .ref (q0 + 5), .ref (q0 + 6), .ref (q0 + 7), .ref (q0 + 8), .int 0, .int 0, .int 0, .int 0, .int 0, .int 0, .int 0, .int 0, .int 0]), .inl (κ.2.2.1.1, 10, .inl (fun _ => 0)), .inl (κ.2.2.1.1, 10, .inl (fun _ => 0)), .inl (κ.2.2.1.1, 10, .inl (fun _ => 0)), .inl (κ.2.2.1.1, 10, .inl (fun _ => 0)), .inl (κ.2.2.1.1, 10, .inl (fun _ => 0)), .inl (κ.2.2.1.1, 10, .inl (fun _ => 0)), .inl (κ.2.2.1.1, 10, .inl (fun _ => 0)), .inl (κ.2.2.1.1, 16, .inl ar4_8)]) d_X4_init_83 rfl (by decide) (by decide) rfl ?_
  refine x_iinc (x := 7) (y := 8) (ls' := [some (.ref (q0 + 0)), some (vi 8)]) d_X4_init_84 rfl rfl rfl rfl ?_
  refine x_goto d_X4_init_87 ?_
  refine x_iload_n (x := 8) d_X4_init_70 rfl ?_
  refine x_bipush d_X4_init_71 rfl ?_
  refine x_geN d_X4_init_73 rfl rfl rfl ?_
  refine x_aload_n d_X4_init_76 rfl ?_
  refine x_get (i := 0) (j := 7) (v := .ref (q0 + 8)) d_X4_init_77 fi_4_33 rfl rfl ?_
  refine x_iload_n (x := 8) d_X4_init_80 rfl ?_
  refine x_bipush d_X4_init_81 rfl ?_
  refine x_iast (i := 8) (N := 16) (f := ar4_8) (L' := [.inr (4, [.ref (q0 + 1), .ref (q0 + 2), .ref (q0 + 3), .ref (q0 + 4), .ref (q0 + 5), .ref (q0 + 6), .ref (q0 + 7), .ref (q0 + 8), .int 0, .int 0, .int 0, .int 0, .int 0, .int 0, .int 0, .int 0, .int 0]), .inl (κ.2.2.1.1, 10, .inl (fun _ => 0)), .inl (κ.2.2.1.1, 10, .inl (fun _ => 0)), .inl (κ.2.2.1.1, 10, .inl (fun _ => 0)), .inl (κ.2.2.1.1, 10, .inl (fun _ => 0)), .inl (κ.2.2.1.1, 10, .inl (fun _ => 0)), .inl (κ.2.2.1.1, 10, .inl (fun _ => 0)), .inl (κ.2.2.1.1, 10, .inl (fun _ => 0)), .inl (κ.2.2.1.1, 16, .inl ar4_9)]) d_X4_init_83 rfl (by decide) (by decide) rfl ?_
  refine x_iinc (x := 8) (y := 9) (ls' := [some (.ref (q0 + 0)), some (vi 9)]) d_X4_init_84 rfl rfl rfl rfl ?_
  refine x_goto d_X4_init_87 ?_
  refine x_iload_n (x := 9) d_X4_init_70 rfl ?_
  refine x_bipush d_X4_init_71 rfl ?_
  refine x_geN d_X4_init_73 rfl rfl rfl ?_
  refine x_aload_n d_X4_init_76 rfl ?_
  refine x_get (i := 0) (j := 7) (v := .ref (q0 + 8)) d_X4_init_77 fi_4_33 rfl rfl ?_
  refine x_iload_n (x := 9) d_X4_init_80 rfl ?_
  refine x_bipush d_X4_init_81 rfl ?_
  refine x_iast (i := 8) (N := 16) (f := ar4_9) (L' := [.inr (4, [.ref (q0 + 1), .ref (q0 + 2), .ref (q0 + 3), .ref (q0 + 4), .ref (q0 + 5), .ref (q0 + 6), .ref (q0 + 7), .ref (q0 + 8), .int 0, .int 0, .int 0, .int 0, .int 0, .int 0, .int 0, .int 0, .int 0]), .inl (κ.2.2.1.1, 10, .inl (fun _ => 0)), .inl (κ.2.2.1.1, 10, .inl (fun _ => 0)), .inl (κ.2.2.1.1, 10, .inl (fun _ => 0)), .inl (κ.2.2.1.1, 10, .inl (fun _ => 0)), .inl (κ.2.2.1.1, 10, .inl (fun _ => 0)), .inl (κ.2.2.1.1, 10, .inl (fun _ => 0)), .inl (κ.2.2.1.1, 10, .inl (fun _ => 0)), .inl (κ.2.2.1.1, 16, .inl ar4_10)]) d_X4_init_83 rfl (by decide) (by decide) rfl ?_
  refine x_iinc (x := 9) (y := 10) (ls' := [some (.ref (q0 + 0)), some (vi 10)]) d_X4_init_84 rfl rfl rfl rfl ?_
  refine x_goto d_X4_init_87 ?_
  refine x_iload_n (x := 10) d_X4_init_70 rfl ?_
  refine x_bipush d_X4_init_71 rfl ?_
  refine x_geN d_X4_init_73 rfl rfl rfl ?_
  refine x_aload_n d_X4_init_76 rfl ?_
  refine x_get (i := 0) (j := 7) (v := .ref (q0 + 8)) d_X4_init_77 fi_4_33 rfl rfl ?_
  refine x_iload_n (x := 10) d_X4_init_80 rfl ?_
  refine x_bipush d_X4_init_81 rfl ?_
  refine x_iast (i := 8) (N := 16) (f := ar4_10) (L' := [.inr (4, [.ref (q0 + 1), .ref (q0 + 2), .ref (q0 + 3), .ref (q0 + 4), .ref (q0 + 5), .ref (q0 + 6), .ref (q0 + 7), .ref (q0 + 8), .int 0, .int 0, .int 0, .int 0, .int 0, .int 0, .int 0, .int 0, .int 0]), .inl (κ.2.2.1.1, 10, .inl (fun _ => 0)), .inl (κ.2.2.1.1, 10, .inl (fun _ => 0)), .inl (κ.2.2.1.1, 10, .inl (fun _ => 0)), .inl (κ.2.2.1.1, 10, .inl (fun _ => 0)), .inl (κ.2.2.1.1, 10, .inl (fun _ => 0)), .inl (κ.2.2.1.1, 10, .inl (fun _ => 0)), .inl (κ.2.2.1.1, 10, .inl (fun _ => 0)), .inl (κ.2.2.1.1, 16, .inl ar4_11)]) d_X4_init_83 rfl (by decide) (by decide) rfl ?_
  refine x_iinc (x := 10) (y := 11) (ls' := [some (.ref (q0 + 0)), some (vi 11)]) d_X4_init_84 rfl rfl rfl rfl ?_
  refine x_goto d_X4_init_87 ?_
  refine x_iload_n (x := 11) d_X4_init_70 rfl ?_
  refine x_bipush d_X4_init_71 rfl ?_
  refine x_geN d_X4_init_73 rfl rfl rfl ?_
  refine x_aload_n d_X4_init_76 rfl ?_
  refine x_get (i := 0) (j := 7) (v := .ref (q0 + 8)) d_X4_init_77 fi_4_33 rfl rfl ?_
  refine x_iload_n (x := 11) d_X4_init_80 rfl ?_
  refine x_bipush d_X4_init_81 rfl ?_
  refine x_iast (i := 8) (N := 16) (f := ar4_11) (L' := [.inr (4, [.ref (q0 + 1), .ref (q0 + 2), .ref (q0 + 3), .ref (q0 + 4), .ref (q0 + 5), .ref (q0 + 6), .ref (q0 + 7), .ref (q0 + 8), .int 0, .int 0, .int 0, .int 0, .int 0, .int 0, .int 0, .int 0, .int 0]), .inl (κ.2.2.1.1, 10, .inl (fun _ => 0)), .inl (κ.2.2.1.1, 10, .inl (fun _ => 0)), .inl (κ.2.2.1.1, 10, .inl (fun _ => 0)), .inl (κ.2.2.1.1, 10, .inl (fun _ => 0)), .inl (κ.2.2.1.1, 10, .inl (fun _ => 0)), .inl (κ.2.2.1.1, 10, .inl (fun _ => 0)), .inl (κ.2.2.1.1, 10, .inl (fun _ => 0)), .inl (κ.2.2.1.1, 16, .inl ar4_12)]) d_X4_init_83 rfl (by decide) (by decide) rfl ?_
  refine x_iinc (x := 11) (y := 12) (ls' := [some (.ref (q0 + 0)), some (vi 12)]) d_X4_init_84 rfl rfl rfl rfl ?_
  refine x_goto d_X4_init_87 ?_
  refine x_iload_n (x := 12) d_X4_init_70 rfl ?_
  refine x_bipush d_X4_init_71 rfl ?_
  refine x_geN d_X4_init_73 rfl rfl rfl ?_
  refine x_aload_n d_X4_init_76 rfl ?_
  refine x_get (i := 0) (j := 7) (v := .ref (q0 + 8)) d_X4_init_77 fi_4_33 rfl rfl ?_
  refine x_iload_n (x := 12) d_X4_init_80 rfl ?_
  refine x_bipush d_X4_init_81 rfl ?_
  refine x_iast (i := 8) (N := 16) (f := ar4_12) (L' := [.inr (4, [.ref (q0 + 1), .ref (q0 + 2), .ref (q0 + 3), .ref (q0 + 4), .ref (q0 + 5), .ref (q0 + 6), .ref (q0 + 7), .ref (q0 + 8), .int 0, .int 0, .int 0, .int 0, .int 0, .int 0, .int 0, .int 0, .int 0]), .inl (κ.2.2.1.1, 10, .inl (fun _ => 0)), .inl (κ.2.2.1.1, 10, .inl (fun _ => 0)), .inl (κ.2.2.1.1, 10, .inl (fun _ => 0)), .inl (κ.2.2.1.1, 10, .inl (fun _ => 0)), .inl (κ.2.2.1.1, 10, .inl (fun _ => 0)), .inl (κ.2.2.1.1, 10, .inl (fun _ => 0)), .inl (κ.2.2.1.1, 10, .inl (fun _ => 0)), .inl (κ.2.2.1.1, 16, .inl ar4_13)]) d_X4_init_83 rfl (by decide) (by decide) rfl ?_
  refine x_iinc (x := 12) (y := 13) (ls' := [some (.ref (q0 + 0)), some (vi 13)]) d_X4_init_84 rfl rfl rfl rfl ?_
  refine x_goto d_X4_init_87 ?_
  refine x_iload_n (x := 13) d_X4_init_70 rfl ?_
  refine x_bipush d_X4_init_71 rfl ?_
  refine x_geN d_X4_init_73 rfl rfl rfl ?_
  refine x_aload_n d_X4_init_76 rfl ?_
  refine x_get (i := 0) (j := 7) (v := .ref (q0 + 8)) d_X4_init_77 fi_4_33 rfl rfl ?_
  refine x_iload_n (x := 13) d_X4_init_80 rfl ?_
  refine x_bipush d_X4_init_81 rfl ?_
  refine x_iast (i := 8) (N := 16) (f := ar4_13) (L' := [.inr (4, [.ref (q0 + 1), .ref (q0 + 2), .ref (q0 + 3), .ref (q0 + 4), .ref (q0 + 5), .ref (q0 + 6), .ref (q0 + 7), .ref (q0 + 8), .int 0, .int 0, .int 0, .int 0, .int 0, .int 0, .int 0, .int 0, .int 0]), .inl (κ.2.2.1.1, 10, .inl (fun _ => 0)), .inl (κ.2.2.1.1, 10, .inl (fun _ => 0)), .inl (κ.2.2.1.1, 10, .inl (fun _ => 0)), .inl (κ.2.2.1.1, 10, .inl (fun _ => 0)), .inl (κ.2.2.1.1, 10, .inl (fun _ => 0)), .inl (κ.2.2.1.1, 10, .inl (fun _ => 0)), .inl (κ.2.2.1.1, 10, .inl (fun _ => 0)), .inl (κ.2.2.1.1, 16, .inl ar4_14)]) d_X4_init_83 rfl (by decide) (by decide) rfl ?_
  refine x_iinc (x := 13) (y := 14) (ls' := [some (.ref (q0 + 0)), some (vi 14)]) d_X4_init_84 rfl rfl rfl rfl ?_
  refine x_goto d_X4_init_87 ?_
  refine x_iload_n (x := 14) d_X4_init_70 rfl ?_
  refine x_bipush d_X4_init_71 rfl ?_
  refine x_geN d_X4_init_73 rfl rfl rfl ?_
  refine x_aload_n d_X4_init_76 rfl ?_
  refine x_get (i := 0) (j := 7) (v := .ref (q0 + 8)) d_X4_init_77 fi_4_33 rfl rfl ?_
  refine x_iload_n (x := 14) d_X4_init_80 rfl ?_
  refine x_bipush d_X4_init_81 rfl ?_
  refine x_iast (i := 8) (N := 16) (f := ar4_14) (L' := [.inr (4, [.ref (q0 + 1), .ref (q0 + 2), .ref (q0 + 3), .ref (q0 + 4), .ref (q0 + 5), .ref (q0 + 6), .ref (q0 + 7), .ref (q0 + 8), .int 0, .int 0, .int 0, .int 0, .int 0, .int 0, .int 0, .int 0, .int 0]), .inl (κ.2.2.1.1, 10, .inl (fun _ => 0)), .inl (κ.2.2.1.1, 10, .inl (fun _ => 0)), .inl (κ.2.2.1.1, 10, .inl (fun _ => 0)), .inl (κ.2.2.1.1, 10, .inl (fun _ => 0)), .inl (κ.2.2.1.1, 10, .inl (fun _ => 0)), .inl (κ.2.2.1.1, 10, .inl (fun _ => 0)), .inl (κ.2.2.1.1, 10, .inl (fun _ => 0)), .inl (κ.2.2.1.1, 16, .inl ar4_15)]) d_X4_init_83 rfl (by decide) (by decide) rfl ?_
  refine x_iinc (x := 14) (y := 15) (ls' := [some (.ref (q0 + 0)), some (vi 15)]) d_X4_init_84 rfl rfl rfl rfl ?_
  refine x_goto d_X4_init_87 ?_
  refine x_iload_n (x := 15) d_X4_init_70 rfl ?_
  refine x_bipush d_X4_init_71 rfl ?_
  refine x_geN d_X4_init_73 rfl rfl rfl ?_
  refine x_aload_n d_X4_init_76 rfl ?_
  refine x_get (i := 0) (j := 7) (v := .ref (q0 + 8)) d_X4_init_77 fi_4_33 rfl rfl ?_
  refine x_iload_n (x := 15) d_X4_init_80 rfl ?_
  refine x_bipush d_X4_init_81 rfl ?_
  refine x_iast (i := 8) (N := 16) (f := ar4_15) (L' := [.inr (4, [.ref (q0 + 1), .ref (q0 + 2), .ref (q0 + 3), .ref (q0 + 4), .ref (q0 + 5), .ref (q0 + 6), .ref (q0 + 7), .ref (q0 + 8), .int 0, .int 0, .int 0, .int 0, .int 0, .int 0, .int 0, .int 0, .int 0]), .inl (κ.2.2.1.1, 10, .inl (fun _ => 0)), .inl (κ.2.2.1.1, 10, .inl (fun _ => 0)), .inl (κ.2.2.1.1, 10, .inl (fun _ => 0)), .inl (κ.2.2.1.1, 10, .inl (fun _ => 0)), .inl (κ.2.2.1.1, 10, .inl (fun _ => 0)), .inl (κ.2.2.1.1, 10, .inl (fun _ => 0)), .inl (κ.2.2.1.1, 10, .inl (fun _ => 0)), .inl (κ.2.2.1.1, 16, .inl ar4_16)]) d_X4_init_83 rfl (by decide) (by decide) rfl ?_
  refine x_iinc (x := 15) (y := 16) (ls' := [some (.ref (q0 + 0)), some (vi 16)]) d_X4_init_84 rfl rfl rfl rfl ?_
  refine x_goto d_X4_init_87 ?_
  refine x_iload_n (x := 16) d_X4_init_70 rfl ?_
  refine x_bipush d_X4_init_71 rfl ?_
  refine x_geY d_X4_init_73 rfl rfl rfl ?_
  refine x_aload_n d_X4_init_90 rfl ?_
  refine x_iconst d_X4_init_91 ?_
  refine x_put (i := 0) (j := 11) (L' := [.inr (4, [.ref (q0 + 1), .ref (q0 + 2), .ref (q0 + 3), .ref (q0 + 4), .ref (q0 + 5), .ref (q0 + 6), .ref (q0 + 7), .ref (q0 + 8), .int 0, .int 0, .int 0, vi 5, .int 0, .int 0, .int 0, .int 0, .int 0]), .inl (κ.2.2.1.1, 10, .inl (fun _ => 0)), .inl (κ.2.2.1.1, 10, .inl (fun _ => 0)), .inl (κ.2.2.1.1, 10, .inl (fun _ => 0)), .inl (κ.2.2.1.1, 10, .inl (fun _ => 0)), .inl (κ.2.2.1.1, 10, .inl (fun _ => 0)), .inl (κ.2.2.1.1, 10, .inl (fun _ => 0)), .inl (κ.2.2.1.1, 10, .inl (fun _ => 0)), .inl (κ.2.2.1.1, 16, .inl ar4_16)]) d_X4_init_92 fp_4_36 rfl rfl rfl (Nat.le_of_ble_eq_true rfl) rfl ?_
  refine x_aload_n d_X4_init_95 rfl ?_
  refine x_iconst d_X4_init_96 ?_
  refine x_put (i := 0) (j := 12) (L' := [.inr (4, [.ref (q0 + 1), .ref (q0 + 2), .ref (q0 + 3), .ref (q0 + 4), .ref (q0 + 5), .ref (q0 + 6), .ref (q0 + 7), .ref (q0 + 8), .int 0, .int 0, .int 0, vi 5, vi 3, .int 0, .int 0, .int 0, .int 0]), .inl (κ.2.2.1.1, 10, .inl (fun _ => 0)), .inl (κ.2.2.1.1, 10, .inl (fun _ => 0)), .inl (κ.2.2.1.1, 10, .inl (fun _ => 0)), .inl (κ.2.2.1.1, 10, .inl (fun _ => 0)), .inl (κ.2.2.1.1, 10, .inl (fun _ => 0)), .inl (κ.2.2.1.1, 10, .inl (fun _ => 0)), .inl (κ.2.2.1.1, 10, .inl (fun _ => 0)), .inl (κ.2.2.1.1, 16, .inl ar4_16)]) d_X4_init_97 fp_4_40 rfl rfl rfl (Nat.le_of_ble_eq_true rfl) rfl ?_
  refine x_same (i := 8) (N := 16) (f := ar4_16) (g := fun j => Int32.ofInt (ini_arch j)) (L' := [.inr (4, [.ref (q0 + 1), .ref (q0 + 2), .ref (q0 + 3), .ref (q0 + 4), .ref (q0 + 5), .ref (q0 + 6), .ref (q0 + 7), .ref (q0 + 8), .int 0, .int 0, .int 0, vi 5, vi 3, .int 0, .int 0, .int 0, .int 0]), .inl (κ.2.2.1.1, 10, .inl (fun _ => 0)), .inl (κ.2.2.1.1, 10, .inl (fun _ => 0)), .inl (κ.2.2.1.1, 10, .inl (fun _ => 0)), .inl (κ.2.2.1.1, 10, .inl (fun _ => 0)), .inl (κ.2.2.1.1, 10, .inl (fun _ => 0)), .inl (κ.2.2.1.1, 10, .inl (fun _ => 0)), .inl (κ.2.2.1.1, 10, .inl (fun _ => 0)), .inl (κ.2.2.1.1, 16, .inl (fun j => Int32.ofInt (ini_arch j)))]) rfl (by decide +kernel) rfl ?_
  exact x_ret d_X4_init_100 rfl rfl rfl rfl
def Lo_6 (κ : Kp) (q : Nat) : List va_E := [.inr (6, [.ref (q + 1), .ref (q + 2), .ref (q + 3), .ref (q + 4), .int 0]), .inl (κ.2.2.1.1, 16, .inl (fun _ => 0)), .inl (κ.2.2.1.1, 16, .inl (fun _ => 0)), .inl (κ.2.2.1.1, 16, .inl (fun _ => 0)), .inl (κ.2.2.1.1, 16, .inl (fun _ => 0))]
theorem len_6 (κ : Kp) (q : Nat) : (Lo_6 κ q).length = 5 := rfl
abbrev R_X6_init : Room := { frames := 1, cells := 4, slots := 64, locals := 30 }
set_option maxHeartbeats 8000000 in
set_option maxRecDepth 20000 in
theorem c_X6_init (κ : Kp) (q0 : Nat) : CtC κ M_X6_init R_X6_init q0 (.inr (6, [.null, .null, .null, .null, .int 0])) (Lo_6 κ q0) := by
  refine CtC.of (by decide) rfl rfl (Nat.le_of_ble_eq_true rfl) ?_
  refine x_ls (ls' := [some (.ref q0)]) ⟨rfl, trivial⟩ ?_
  show EC κ M_X6_init R_X6_init q0 0 [some (.ref (q0 + 0))] [] _ 0 0 _
  refine x_aload_n d_X6_init_0 rfl ?_
  refine x_obj d_X6_init_1 ml_6_3 ow_1 ⟨by decide, Nat.le_of_ble_eq_true rfl⟩ ?_
  refine x_aload_n d_X6_init_4 rfl ?_
  refine x_bipush d_X6_init_5 rfl ?_
  refine x_newa (N := 16) (i := 1) (L' := [.inr (6, [.null, .null, .null, .null, .int 0]), .inl (κ.2.2.1.1, 16, .inl (fun _ => 0))]) d_X6_init_7 ow_2 rfl rfl rfl rfl rfl rfl ?_
  refine x_putF (i := 0) (j := 0) (L' := [.inr (6, [.ref (q0 + 1), .null, .null, .null, .int 0]), .inl (κ.2.2.1.1, 16, .inl (fun _ => 0))]) d_X6_init_9 ff_6_9 rfl rfl rfl (Nat.le_of_ble_eq_true rfl) rfl ?_
  refine x_aload_n d_X6_init_12 rfl ?_
  refine x_bipush d_X6_init_13 rfl ?_
  refine x_newa (N := 16) (i := 2) (L' := [.inr (6, [.ref (q0 + 1), .null, .null, .null, .int 0]), .inl (κ.2.2.1.1, 16, .inl (fun _ => 0)), .inl (κ.2.2.1.1, 16, .inl (fun _ => 0))]) d_X6_init_15 ow_2 rfl rfl rfl rfl rfl rfl ?_
  refine x_putF (i := 0) (j := 1) (L' := [.inr (6, [.ref (q0 + 1), .ref (q0 + 2), .null, .null, .int 0]), .inl (κ.2.2.1.1, 16, .inl (fun _ => 0)), .inl (κ.2.2.1.1, 16, .inl (fun _ => 0))]) d_X6_init_17 ff_6_15 rfl rfl rfl (Nat.le_of_ble_eq_true rfl) rfl ?_
  refine x_aload_n d_X6_init_20 rfl ?_
  refine x_bipush d_X6_init_21 rfl ?_
  refine x_newa (N := 16) (i := 3) (L' := [.inr (6, [.ref (q0 + 1), .ref (q0 + 2), .null, .null, .int 0]), .inl (κ.2.2.1.1, 16, .inl (fun _ => 0)), .inl (κ.2.2.1.1, 16, .inl (fun _ => 0)), .inl (κ.2.2.1.1, 16, .inl (fun _ => 0))]) d_X6_init_23 ow_2 rfl rfl rfl rfl rfl rfl ?_
  refine x_putF (i := 0) (j := 2) (L' := [.inr (6, [.ref (q0 + 1), .ref (q0 + 2), .ref (q0 + 3), .null, .int 0]), .inl (κ.2.2.1.1, 16, .inl (fun _ => 0)), .inl (κ.2.2.1.1, 16, .inl (fun _ => 0)), .inl (κ.2.2.1.1, 16, .inl (fun _ => 0))]) d_X6_init_25 ff_6_18 rfl rfl rfl (Nat.le_of_ble_eq_true rfl) rfl ?_
  refine x_aload_n d_X6_init_28 rfl ?_
  refine x_bipush d_X6_init_29 rfl ?_
  refine x_newa (N := 16) (i := 4) (L' := [.inr (6, [.ref (q0 + 1), .ref (q0 + 2), .ref (q0 + 3), .null, .int 0]), .inl (κ.2.2.1.1, 16, .inl (fun _ => 0)), .inl (κ.2.2.1.1, 16, .inl (fun _ => 0)), .inl (κ.2.2.1.1, 16, .inl (fun _ => 0)), .inl (κ.2.2.1.1, 16, .inl (fun _ => 0))]) d_X6_init_31 ow_2 rfl rfl rfl rfl rfl rfl ?_
  refine x_putF (i := 0) (j := 3) (L' := [.inr (6, [.ref (q0 + 1), .ref (q0 + 2), .ref (q0 + 3), .ref (q0 + 4), .int 0]), .inl (κ.2.2.1.1, 16, .inl (fun _ => 0)), .inl (κ.2.2.1.1, 16, .inl (fun _ => 0)), .inl (κ.2.2.1.1, 16, .inl (fun _ => 0)), .inl (κ.2.2.1.1, 16, .inl (fun _ => 0))]) d_X6_init_33 ff_6_21 rfl rfl rfl (Nat.le_of_ble_eq_true rfl) rfl ?_
  exact x_ret d_X6_init_36 rfl rfl rfl rfl
def Lo_9 (κ : Kp) (q : Nat) : List va_E := [.inr (9, [.ref (q + 1), .ref (q + 2), .ref (q + 3), .int 0]), .inl (κ.2.2.1.1, 12, .inl (fun _ => 0)), .inl (κ.2.2.1.1, 12, .inl (fun _ => 0)), .inl (κ.2.2.1.1, 12, .inl (fun _ => 0))]
theorem len_9 (κ : Kp) (q : Nat) : (Lo_9 κ q).length = 4 := rfl
abbrev R_X9_init : Room := { frames := 1, cells := 3, slots := 36, locals := 30 }
set_option maxHeartbeats 8000000 in
set_option maxRecDepth 20000 in
theorem c_X9_init (κ : Kp) (q0 : Nat) : CtC κ M_X9_init R_X9_init q0 (.inr (9, [.null, .null, .null, .int 0])) (Lo_9 κ q0) := by
  refine CtC.of (by decide) rfl rfl (Nat.le_of_ble_eq_true rfl) ?_
  refine x_ls (ls' := [some (.ref q0)]) ⟨rfl, trivial⟩ ?_
  show EC κ M_X9_init R_X9_init q0 0 [some (.ref (q0 + 0))] [] _ 0 0 _
  refine x_aload_n d_X9_init_0 rfl ?_
  refine x_obj d_X9_init_1 ml_9_3 ow_1 ⟨by decide, Nat.le_of_ble_eq_true rfl⟩ ?_
  refine x_aload_n d_X9_init_4 rfl ?_
  refine x_bipush d_X9_init_5 rfl ?_
  refine x_newa (N := 12) (i := 1) (L' := [.inr (9, [.null, .null, .null, .int 0]), .inl (κ.2.2.1.1, 12, .inl (fun _ => 0))]) d_X9_init_7 ow_2 rfl rfl rfl rfl rfl rfl ?_
  refine x_putF (i := 0) (j := 0) (L' := [.inr (9, [.ref (q0 + 1), .null, .null, .int 0]), .inl (κ.2.2.1.1, 12, .inl (fun _ => 0))]) d_X9_init_9 ff_9_9 rfl rfl rfl (Nat.le_of_ble_eq_true rfl) rfl ?_
  refine x_aload_n d_X9_init_12 rfl ?_
  refine x_bipush d_X9_init_13 rfl ?_
  refine x_newa (N := 12) (i := 2) (L' := [.inr (9, [.ref (q0 + 1), .null, .null, .int 0]), .inl (κ.2.2.1.1, 12, .inl (fun _ => 0)), .inl (κ.2.2.1.1, 12, .inl (fun _ => 0))]) d_X9_init_15 ow_2 rfl rfl rfl rfl rfl rfl ?_
  refine x_putF (i := 0) (j := 1) (L' := [.inr (9, [.ref (q0 + 1), .ref (q0 + 2), .null, .int 0]), .inl (κ.2.2.1.1, 12, .inl (fun _ => 0)), .inl (κ.2.2.1.1, 12, .inl (fun _ => 0))]) d_X9_init_17 ff_9_15 rfl rfl rfl (Nat.le_of_ble_eq_true rfl) rfl ?_
  refine x_aload_n d_X9_init_20 rfl ?_
  refine x_bipush d_X9_init_21 rfl ?_
  refine x_newa (N := 12) (i := 3) (L' := [.inr (9, [.ref (q0 + 1), .ref (q0 + 2), .null, .int 0]), .inl (κ.2.2.1.1, 12, .inl (fun _ => 0)), .inl (κ.2.2.1.1, 12, .inl (fun _ => 0)), .inl (κ.2.2.1.1, 12, .inl (fun _ => 0))]) d_X9_init_23 ow_2 rfl rfl rfl rfl rfl rfl ?_
  refine x_putF (i := 0) (j := 2) (L' := [.inr (9, [.ref (q0 + 1), .ref (q0 + 2), .ref (q0 + 3), .int 0]), .inl (κ.2.2.1.1, 12, .inl (fun _ => 0)), .inl (κ.2.2.1.1, 12, .inl (fun _ => 0)), .inl (κ.2.2.1.1, 12, .inl (fun _ => 0))]) d_X9_init_25 ff_9_18 rfl rfl rfl (Nat.le_of_ble_eq_true rfl) rfl ?_
  exact x_ret d_X9_init_28 rfl rfl rfl rfl

def Lo_8 (κ : Kp) (q : Nat) : List va_E := (((((((((((((([.inr (8, [.ref (q + 1), .ref (q + 2), .ref (q + 3)])] ++ [.inl (κ.2.2.1.2.1, 11, .inr (.inr (.inr (.inr (fun j => some (q + (1 + 3 + 9 * j)))))))]) ++ [.inl (κ.2.2.1.1, 10, .inl (fun _ => 0))]) ++ [.inl (κ.2.2.1.1, 10, .inl (fun _ => 0))]) ++ Lo_4 κ (q + 4)) ++ Lo_4 κ (q + 13)) ++ Lo_4 κ (q + 22)) ++ Lo_4 κ (q + 31)) ++ Lo_4 κ (q + 40)) ++ Lo_4 κ (q + 49)) ++ Lo_4 κ (q + 58)) ++ Lo_4 κ (q + 67)) ++ Lo_4 κ (q + 76)) ++ Lo_4 κ (q + 85)) ++ Lo_4 κ (q + 94))
theorem len_8 (κ : Kp) (q : Nat) : (Lo_8 κ q).length = 103 := by simp only [Lo_8, List.length_append, List.length_cons, List.length_nil, len_4]
def aq8_1 (q0 : Nat) : Nat → Option Nat := va_up (fun _ => none) 0 (some (q0 + 4))
def aq8_2 (q0 : Nat) : Nat → Option Nat := va_up (aq8_1 q0) 1 (some (q0 + 13))
def aq8_3 (q0 : Nat) : Nat → Option Nat := va_up (aq8_2 q0) 2 (some (q0 + 22))
def aq8_4 (q0 : Nat) : Nat → Option Nat := va_up (aq8_3 q0) 3 (some (q0 + 31))
def aq8_5 (q0 : Nat) : Nat → Option Nat := va_up (aq8_4 q0) 4 (some (q0 + 40))
def aq8_6 (q0 : Nat) : Nat → Option Nat := va_up (aq8_5 q0) 5 (some (q0 + 49))
def aq8_7 (q0 : Nat) : Nat → Option Nat := va_up (aq8_6 q0) 6 (some (q0 + 58))
def aq8_8 (q0 : Nat) : Nat → Option Nat := va_up (aq8_7 q0) 7 (some (q0 + 67))
def aq8_9 (q0 : Nat) : Nat → Option Nat := va_up (aq8_8 q0) 8 (some (q0 + 76))
def aq8_10 (q0 : Nat) : Nat → Option Nat := va_up (aq8_9 q0) 9 (some (q0 + 85))
def aq8_11 (q0 : Nat) : Nat → Option Nat := va_up (aq8_10 q0) 10 (some (q0 + 94))
abbrev R_X8_init : Room := { frames := 2, cells := 102, slots := 1164, locals := 51 }
set_option maxHeartbeats 8000000 in
set_option maxRecDepth 20000 in
theorem c_X8_init (κ : Kp) (q0 : Nat) : CtC κ M_X8_init R_X8_init q0 (.inr (8, [.null, .null, .null])) (Lo_8 κ q0) := by
  refine CtC.of (by decide) rfl rfl (Nat.le_of_ble_eq_true rfl) ?_
  refine x_ls (ls' := [some (.ref q0), none]) ⟨rfl, trivial⟩ ?_
  show EC κ M_X8_init R_X8_init q0 0 [some (.ref (q0 + 0)), none] [] _ 0 0 _
  refine x_aload_n d_X8_init_0 rfl ?_
  refine x_obj d_X8_init_1 ml_8_3 ow_1 ⟨by decide, Nat.le_of_ble_eq_true rfl⟩ ?_
  refine x_aload_n d_X8_init_4 rfl ?_
  refine x_bipush d_X8_init_5 rfl ?_
  refine x_anew (N := 11) (i := 1) (L' := ([.inr (8, [.null, .null, .null])] ++ [.inl (κ.2.2.1.2.1, 11, .inr (.inr (.inr (.inr (fun _ => none)))))])) d_X8_init_7 cl_8_9 rfl rfl rfl rfl (by simp only [List.length_append, List.length_cons, List.length_nil, len_4]) rfl ?_
  refine x_putF (i := 0) (j := 0) (L' := ([.inr (8, [.ref (q0 + 1), .null, .null])] ++ [.inl (κ.2.2.1.2.1, 11, .inr (.inr (.inr (.inr (fun _ => none)))))])) d_X8_init_10 ff_8_11 rfl rfl rfl (Nat.le_of_ble_eq_true rfl) rfl ?_
  refine x_aload_n d_X8_init_13 rfl ?_
  refine x_bipush d_X8_init_14 rfl ?_
  refine x_newa (N := 10) (i := 2) (L' := (([.inr (8, [.ref (q0 + 1), .null, .null])] ++ [.inl (κ.2.2.1.2.1, 11, .inr (.inr (.inr (.inr (fun _ => none)))))]) ++ [.inl (κ.2.2.1.1, 10, .inl (fun _ => 0))])) d_X8_init_16 ow_2 rfl rfl rfl rfl (by simp only [List.length_append, List.length_cons, List.length_nil, len_4]) rfl ?_
  refine x_put (i := 0) (j := 1) (L' := (([.inr (8, [.ref (q0 + 1), .ref (q0 + 2), .null])] ++ [.inl (κ.2.2.1.2.1, 11, .inr (.inr (.inr (.inr (fun _ => none)))))]) ++ [.inl (κ.2.2.1.1, 10, .inl (fun _ => 0))])) d_X8_init_18 fp_8_17 rfl rfl rfl (Nat.le_of_ble_eq_true rfl) rfl ?_
  refine x_aload_n d_X8_init_21 rfl ?_
  refine x_bipush d_X8_init_22 rfl ?_
  refine x_newa (N := 10) (i := 3) (L' := ((([.inr (8, [.ref (q0 + 1), .ref (q0 + 2), .null])] ++ [.inl (κ.2.2.1.2.1, 11, .inr (.inr (.inr (.inr (fun _ => none)))))]) ++ [.inl (κ.2.2.1.1, 10, .inl (fun _ => 0))]) ++ [.inl (κ.2.2.1.1, 10, .inl (fun _ => 0))])) d_X8_init_24 ow_2 rfl rfl rfl rfl (by simp only [List.length_append, List.length_cons, List.length_nil, len_4]) rfl ?_
  refine x_put (i := 0) (j := 2) (L' := ((([.inr (8, [.ref (q0 + 1), .ref (q0 + 2), .ref (q0 + 3)])] ++ [.inl (κ.2.2.1.2.1, 11, .inr (.inr (.inr (.inr (fun _ => none)))))]) ++ [.inl (κ.2.2.1.1, 10, .inl (fun _ => 0))]) ++ [.inl (κ.2.2.1.1, 10, .inl (fun _ => 0))])) d_X8_init_26 fp_8_21 rfl rfl rfl (Nat.le_of_ble_eq_true rfl) rfl ?_
  refine x_iconst d_X8_init_29 ?_
  refine x_istore_n (ls' := [some (.ref (q0 + 0)), some (vi 0)]) d_X8_init_30 rfl rfl ?_
  refine x_iload_n (x := 0) d_X8_init_31 rfl ?_
  refine x_bipush d_X8_init_32 rfl ?_
  refine x_gtN d_X8_init_34 rfl rfl rfl ?_
  refine x_aload_n d_X8_init_37 rfl ?_
  refine x_get (i := 0) (j := 0) (v := .ref (q0 + 1)) d_X8_init_38 fi_8_11 rfl rfl ?_
  refine x_iload_n (x := 0) d_X8_init_41 rfl ?_
  refine x_new (ci := 4) (dn := 17) (i := 4) (C := RX4) (fs := [.null, .null, .null, .null, .null, .null, .null, .null, .int 0, .int 0, .int 0, .int 0, .int 0, .int 0, .int 0, .int 0, .int 0]) d_X8_init_42 cl_8_9 nw_4 nq_4 rfl rfl (by simp only [List.length_append, List.length_cons, List.length_nil, len_4]) ?_
  refine x_dup d_X8_init_45 rfl ?_
  refine x_call (R' := R_X4_init) (i := 4) (Lc := Lo_4 κ (q0 + 4)) d_X8_init_46 cw_X4_init ml_8_24 im_X4_init rfl rfl (c_X4_init κ (q0 + 4)) ⟨rfl, rfl⟩ (Nat.le_of_ble_eq_true rfl) ⟨rfl, rfl⟩ (by simp only [List.length_append, List.length_cons, List.length_nil, len_4]) ?_
  refine x_aast (ci := 4) (i := 1) (iv := 4) (N := 11) (f := (fun _ => none)) (L' := (((([.inr (8, [.ref (q0 + 1), .ref (q0 + 2), .ref (q0 + 3)])] ++ [.inl (κ.2.2.1.2.1, 11, .inr (.inr (.inr (.inr (aq8_1 q0)))))]) ++ [.inl (κ.2.2.1.1, 10, .inl (fun _ => 0))]) ++ [.inl (κ.2.2.1.1, 10, .inl (fun _ => 0))]) ++ Lo_4 κ (q0 + 4))) d_X8_init_49 rfl rfl (by decide) (by decide) rfl ?_
  refine x_iinc (x := 0) (y := 1) (ls' := [some (.ref (q0 + 0)), some (vi 1)]) d_X8_init_50 rfl rfl rfl rfl ?_
  refine x_goto d_X8_init_53 ?_
  refine x_iload_n (x := 1) d_X8_init_31 rfl ?_
  refine x_bipush d_X8_init_32 rfl ?_
  refine x_gtN d_X8_init_34 rfl rfl rfl ?_
  refine x_aload_n d_X8_init_37 rfl ?_
  refine x_get (i := 0) (j := 0) (v := .ref (q0 + 1)) d_X8_init_38 fi_8_11 rfl rfl ?_
  refine x_iload_n (x := 1) d_X8_init_41 rfl ?_
  refine x_new (ci := 4) (dn := 17) (i := 13) (C := RX4) (fs := [.null, .null, .null, .null, .null, .null, .null, .null, .int 0, .int 0, .int 0, .int 0, .int 0, .int 0, .int 0, .int 0, .int 0]) d_X8_init_42 cl_8_9 nw_4 nq_4 rfl rfl (by simp only [List.length_append, List.length_cons, List.length_nil, len_4]) ?_
  refine x_dup d_X8_init_45 rfl ?_
  refine x_call (R' := R_X4_init) (i := 13) (Lc := Lo_4 κ (q0 + 13)) d_X8_init_46 cw_X4_init ml_8_24 im_X4_init rfl rfl (c_X4_init κ (q0 + 13)) ⟨rfl, rfl⟩ (Nat.le_of_ble_eq_true rfl) ⟨rfl, rfl⟩ (by simp only [List.length_append, List.length_cons, List.length_nil, len_4]) ?_
  refine x_aast (ci := 4) (i := 1) (iv := 13) (N := 11) (f := (aq8_1 q0)) (L' := ((((([.inr (8, [.ref (q0 + 1), .ref (q0 + 2), .ref (q0 + 3)])] ++ [.inl (κ.2.2.1.2.1, 11, .inr (.inr (.inr (.inr (aq8_2 q0)))))]) ++ [.inl (κ.2.2.1.1, 10, .inl (fun _ => 0))]) ++ [.inl (κ.2.2.1.1, 10, .inl (fun _ => 0))]) ++ Lo_4 κ (q0 + 4)) ++ Lo_4 κ (q0 + 13))) d_X8_init_49 rfl rfl (by decide) (by decide) rfl ?_
  refine x_iinc (x := 1) (y := 2) (ls' := [some (.ref (q0 + 0)), some (vi 2)]) d_X8_init_50 rfl rfl rfl rfl ?_
  refine x_goto d_X8_init_53 ?_
  refine x_iload_n (x := 2) d_X8_init_31 rfl ?_
  refine x_bipush d_X8_init_32 rfl ?_
  refine x_gtN d_X8_init_34 rfl rfl rfl ?_
  refine x_aload_n d_X8_init_37 rfl ?_
  refine x_get (i := 0) (j := 0) (v := .ref (q0 + 1)) d_X8_init_38 fi_8_11 rfl rfl ?_
  refine x_iload_n (x := 2) d_X8_init_41 rfl ?_
  refine x_new (ci := 4) (dn := 17) (i := 22) (C := RX4) (fs := [.null, .null, .null, .null, .null, .null, .null, .null, .int 0, .int 0, .int 0, .int 0, .int 0, .int 0, .int 0, .int 0, .int 0]) d_X8_init_42 cl_8_9 nw_4 nq_4 rfl rfl (by simp only [List.length_append, List.length_cons, List.length_nil, len_4]) ?_
  refine x_dup d_X8_init_45 rfl ?_
  refine x_call (R' := R_X4_init) (i := 22) (Lc := Lo_4 κ (q0 + 22)) d_X8_init_46 cw_X4_init ml_8_24 im_X4_init rfl rfl (c_X4_init κ (q0 + 22)) ⟨rfl, rfl⟩ (Nat.le_of_ble_eq_true rfl) ⟨rfl, rfl⟩ (by simp only [List.length_append, List.length_cons, List.length_nil, len_4]) ?_
  refine x_aast (ci := 4) (i := 1) (iv := 22) (N := 11) (f := (aq8_2 q0)) (L' := (((((([.inr (8, [.ref (q0 + 1), .ref (q0 + 2), .ref (q0 + 3)])] ++ [.inl (κ.2.2.1.2.1, 11, .inr (.inr (.inr (.inr (aq8_3 q0)))))]) ++ [.inl (κ.2.2.1.1, 10, .inl (fun _ => 0))]) ++ [.inl (κ.2.2.1.1, 10, .inl (fun _ => 0))]) ++ Lo_4 κ (q0 + 4)) ++ Lo_4 κ (q0 + 13)) ++ Lo_4 κ (q0 + 22))) d_X8_init_49 rfl rfl (by decide) (by decide) rfl ?_
  refine x_iinc (x := 2) (y := 3) (ls' := [some (.ref (q0 + 0)), some (vi 3)]) d_X8_init_50 rfl rfl rfl rfl ?_
  refine x_goto d_X8_init_53 ?_
  refine x_iload_n (x := 3) d_X8_init_31 rfl ?_
  refine x_bipush d_X8_init_32 rfl ?_
  refine x_gtN d_X8_init_34 rfl rfl rfl ?_
  refine x_aload_n d_X8_init_37 rfl ?_
  refine x_get (i := 0) (j := 0) (v := .ref (q0 + 1)) d_X8_init_38 fi_8_11 rfl rfl ?_
  refine x_iload_n (x := 3) d_X8_init_41 rfl ?_
  refine x_new (ci := 4) (dn := 17) (i := 31) (C := RX4) (fs := [.null, .null, .null, .null, .null, .null, .null, .null, .int 0, .int 0, .int 0, .int 0, .int 0, .int 0, .int 0, .int 0, .int 0]) d_X8_init_42 cl_8_9 nw_4 nq_4 rfl rfl (by simp only [List.length_append, List.length_cons, List.length_nil, len_4]) ?_
  refine x_dup d_X8_init_45 rfl ?_
  refine x_call (R' := R_X4_init) (i := 31) (Lc := Lo_4 κ (q0 + 31)) d_X8_init_46 cw_X4_init ml_8_24 im_X4_init rfl rfl (c_X4_init κ (q0 + 31)) ⟨rfl, rfl⟩ (Nat.le_of_ble_eq_true rfl) ⟨rfl, rfl⟩ (by simp only [List.length_append, List.length_cons, List.length_nil, len_4]) ?_
  refine x_aast (ci := 4) (i := 1) (iv := 31) (N := 11) (f := (aq8_3 q0)) (L' := ((((((([.inr (8, [.ref (q0 + 1), .ref (q0 + 2), .ref (q0 + 3)])] ++ [.inl (κ.2.2.1.2.1, 11, .inr (.inr (.inr (.inr (aq8_4 q0)))))]) ++ [.inl (κ.2.2.1.1, 10, .inl (fun _ => 0))]) ++ [.inl (κ.2.2.1.1, 10, .inl (fun _ => 0))]) ++ Lo_4 κ (q0 + 4)) ++ Lo_4 κ (q0 + 13)) ++ Lo_4 κ (q0 + 22)) ++ Lo_4 κ (q0 + 31))) d_X8_init_49 rfl rfl (by decide) (by decide) rfl ?_
  refine x_iinc (x := 3) (y := 4) (ls' := [some (.ref (q0 + 0)), some (vi 4)]) d_X8_init_50 rfl rfl rfl rfl ?_
  refine x_goto d_X8_init_53 ?_
  refine x_iload_n (x := 4) d_X8_init_31 rfl ?_
  refine x_bipush d_X8_init_32 rfl ?_
  refine x_gtN d_X8_init_34 rfl rfl rfl ?_
  refine x_aload_n d_X8_init_37 rfl ?_
  refine x_get (i := 0) (j := 0) (v := .ref (q0 + 1)) d_X8_init_38 fi_8_11 rfl rfl ?_
  refine x_iload_n (x := 4) d_X8_init_41 rfl ?_
  refine x_new (ci := 4) (dn := 17) (i := 40) (C := RX4) (fs := [.null, .null, .null, .null, .null, .null, .null, .null, .int 0, .int 0, .int 0, .int 0, .int 0, .int 0, .int 0, .int 0, .int 0]) d_X8_init_42 cl_8_9 nw_4 nq_4 rfl rfl (by simp only [List.length_append, List.length_cons, List.length_nil, len_4]) ?_
  refine x_dup d_X8_init_45 rfl ?_
  refine x_call (R' := R_X4_init) (i := 40) (Lc := Lo_4 κ (q0 + 40)) d_X8_init_46 cw_X4_init ml_8_24 im_X4_init rfl rfl (c_X4_init κ (q0 + 40)) ⟨rfl, rfl⟩ (Nat.le_of_ble_eq_true rfl) ⟨rfl, rfl⟩ (by simp only [List.length_append, List.length_cons, List.length_nil, len_4]) ?_
  refine x_aast (ci := 4) (i := 1) (iv := 40) (N := 11) (f := (aq8_4 q0)) (L' := (((((((([.inr (8, [.ref (q0 + 1), .ref (q0 + 2), .ref (q0 + 3)])] ++ [.inl (κ.2.2.1.2.1, 11, .inr (.inr (.inr (.inr (aq8_5 q0)))))]) ++ [.inl (κ.2.2.1.1, 10, .inl (fun _ => 0))]) ++ [.inl (κ.2.2.1.1, 10, .inl (fun _ => 0))]) ++ Lo_4 κ (q0 + 4)) ++ Lo_4 κ (q0 + 13)) ++ Lo_4 κ (q0 + 22)) ++ Lo_4 κ (q0 + 31)) ++ Lo_4 κ (q0 + 40))) d_X8_init_49 rfl rfl (by decide) (by decide) rfl ?_
  refine x_iinc (x := 4) (y := 5) (ls' := [some (.ref (q0 + 0)), some (vi 5)]) d_X8_init_50 rfl rfl rfl rfl ?_
  refine x_goto d_X8_init_53 ?_
  refine x_iload_n (x := 5) d_X8_init_31 rfl ?_
  refine x_bipush d_X8_init_32 rfl ?_
  refine x_gtN d_X8_init_34 rfl rfl rfl ?_
  refine x_aload_n d_X8_init_37 rfl ?_
  refine x_get (i := 0) (j := 0) (v := .ref (q0 + 1)) d_X8_init_38 fi_8_11 rfl rfl ?_
  refine x_iload_n (x := 5) d_X8_init_41 rfl ?_
  refine x_new (ci := 4) (dn := 17) (i := 49) (C := RX4) (fs := [.null, .null, .null, .null, .null, .null, .null, .null, .int 0, .int 0, .int 0, .int 0, .int 0, .int 0, .int 0, .int 0, .int 0]) d_X8_init_42 cl_8_9 nw_4 nq_4 rfl rfl (by simp only [List.length_append, List.length_cons, List.length_nil, len_4]) ?_
  refine x_dup d_X8_init_45 rfl ?_
  refine x_call (R' := R_X4_init) (i := 49) (Lc := Lo_4 κ (q0 + 49)) d_X8_init_46 cw_X4_init ml_8_24 im_X4_init rfl rfl (c_X4_init κ (q0 + 49)) ⟨rfl, rfl⟩ (Nat.le_of_ble_eq_true rfl) ⟨rfl, rfl⟩ (by simp only [List.length_append, List.length_cons, List.length_nil, len_4]) ?_
  refine x_aast (ci := 4) (i := 1) (iv := 49) (N := 11) (f := (aq8_5 q0)) (L' := ((((((((([.inr (8, [.ref (q0 + 1), .ref (q0 + 2), .ref (q0 + 3)])] ++ [.inl (κ.2.2.1.2.1, 11, .inr (.inr (.inr (.inr (aq8_6 q0)))))]) ++ [.inl (κ.2.2.1.1, 10, .inl (fun _ => 0))]) ++ [.inl (κ.2.2.1.1, 10, .inl (fun _ => 0))]) ++ Lo_4 κ (q0 + 4)) ++ Lo_4 κ (q0 + 13)) ++ Lo_4 κ (q0 + 22)) ++ Lo_4 κ (q0 + 31)) ++ Lo_4 κ (q0 + 40)) ++ Lo_4 κ (q0 + 49))) d_X8_init_49 rfl rfl (by decide) (by decide) rfl ?_
  refine x_iinc (x := 5) (y := 6) (ls' := [some (.ref (q0 + 0)), some (vi 6)]) d_X8_init_50 rfl rfl rfl rfl ?_
  refine x_goto d_X8_init_53 ?_
  refine x_iload_n (x := 6) d_X8_init_31 rfl ?_
  refine x_bipush d_X8_init_32 rfl ?_
  refine x_gtN d_X8_init_34 rfl rfl rfl ?_
  refine x_aload_n d_X8_init_37 rfl ?_
  refine x_get (i := 0) (j := 0) (v := .ref (q0 + 1)) d_X8_init_38 fi_8_11 rfl rfl ?_
  refine x_iload_n (x := 6) d_X8_init_41 rfl ?_
  refine x_new (ci := 4) (dn := 17) (i := 58) (C := RX4) (fs := [.null, .null, .null, .null, .null, .null, .null, .null, .int 0, .int 0, .int 0, .int 0, .int 0, .int 0, .int 0, .int 0, .int 0]) d_X8_init_42 cl_8_9 nw_4 nq_4 rfl rfl (by simp only [List.length_append, List.length_cons, List.length_nil, len_4]) ?_
  refine x_dup d_X8_init_45 rfl ?_
  refine x_call (R' := R_X4_init) (i := 58) (Lc := Lo_4 κ (q0 + 58)) d_X8_init_46 cw_X4_init ml_8_24 im_X4_init rfl rfl (c_X4_init κ (q0 + 58)) ⟨rfl, rfl⟩ (Nat.le_of_ble_eq_true rfl) ⟨rfl, rfl⟩ (by simp only [List.length_append, List.length_cons, List.length_nil, len_4]) ?_
  refine x_aast (ci := 4) (i := 1) (iv := 58) (N := 11) (f := (aq8_6 q0)) (L' := (((((((((([.inr (8, [.ref (q0 + 1), .ref (q0 + 2), .ref (q0 + 3)])] ++ [.inl (κ.2.2.1.2.1, 11, .inr (.inr (.inr (.inr (aq8_7 q0)))))]) ++ [.inl (κ.2.2.1.1, 10, .inl (fun _ => 0))]) ++ [.inl (κ.2.2.1.1, 10, .inl (fun _ => 0))]) ++ Lo_4 κ (q0 + 4)) ++ Lo_4 κ (q0 + 13)) ++ Lo_4 κ (q0 + 22)) ++ Lo_4 κ (q0 + 31)) ++ Lo_4 κ (q0 + 40)) ++ Lo_4 κ (q0 + 49)) ++ Lo_4 κ (q0 + 58))) d_X8_init_49 rfl rfl (by decide) (by decide) rfl ?_
  refine x_iinc (x := 6) (y := 7) (ls' := [some (.ref (q0 + 0)), some (vi 7)]) d_X8_init_50 rfl rfl rfl rfl ?_
  refine x_goto d_X8_init_53 ?_
  refine x_iload_n (x := 7) d_X8_init_31 rfl ?_
  refine x_bipush d_X8_init_32 rfl ?_
  refine x_gtN d_X8_init_34 rfl rfl rfl ?_
  refine x_aload_n d_X8_init_37 rfl ?_
  refine x_get (i := 0) (j := 0) (v := .ref (q0 + 1)) d_X8_init_38 fi_8_11 rfl rfl ?_
  refine x_iload_n (x := 7) d_X8_init_41 rfl ?_
  refine x_new (ci := 4) (dn := 17) (i := 67) (C := RX4) (fs := [.null, .null, .null, .null, .null, .null, .null, .null, .int 0, .int 0, .int 0, .int 0, .int 0, .int 0, .int 0, .int 0, .int 0]) d_X8_init_42 cl_8_9 nw_4 nq_4 rfl rfl (by simp only [List.length_append, List.length_cons, List.length_nil, len_4]) ?_
  refine x_dup d_X8_init_45 rfl ?_
  refine x_call (R' := R_X4_init) (i := 67) (Lc := Lo_4 κ (q0 + 67)) d_X8_init_46 cw_X4_init ml_8_24 im_X4_init rfl rfl (c_X4_init κ (q0 + 67)) ⟨rfl, rfl⟩ (Nat.le_of_ble_eq_true rfl) ⟨rfl, rfl⟩ (by simp only [List.length_append, List.length_cons, List.length_nil, len_4]) ?_
  refine x_aast (ci := 4) (i := 1) (iv := 67) (N := 11) (f := (aq8_7 q0)) (L' := ((((((((((([.inr (8, [.ref (q0 + 1), .ref (q0 + 2), .ref (q0 + 3)])] ++ [.inl (κ.2.2.1.2.1, 11, .inr (.inr (.inr (.inr (aq8_8 q0)))))]) ++ [.inl (κ.2.2.1.1, 10, .inl (fun _ => 0))]) ++ [.inl (κ.2.2.1.1, 10, .inl (fun _ => 0))]) ++ Lo_4 κ (q0 + 4)) ++ Lo_4 κ (q0 + 13)) ++ Lo_4 κ (q0 + 22)) ++ Lo_4 κ (q0 + 31)) ++ Lo_4 κ (q0 + 40)) ++ Lo_4 κ (q0 + 49)) ++ Lo_4 κ (q0 + 58)) ++ Lo_4 κ (q0 + 67))) d_X8_init_49 rfl rfl (by decide) (by decide) rfl ?_
  refine x_iinc (x := 7) (y := 8) (ls' := [some (.ref (q0 + 0)), some (vi 8)]) d_X8_init_50 rfl rfl rfl rfl ?_
  refine x_goto d_X8_init_53 ?_
  refine x_iload_n (x := 8) d_X8_init_31 rfl ?_
  refine x_bipush d_X8_init_32 rfl ?_
  refine x_gtN d_X8_init_34 rfl rfl rfl ?_
  refine x_aload_n d_X8_init_37 rfl ?_
  refine x_get (i := 0) (j := 0) (v := .ref (q0 + 1)) d_X8_init_38 fi_8_11 rfl rfl ?_
  refine x_iload_n (x := 8) d_X8_init_41 rfl ?_
  refine x_new (ci := 4) (dn := 17) (i := 76) (C := RX4) (fs := [.null, .null, .null, .null, .null, .null, .null, .null, .int 0, .int 0, .int 0, .int 0, .int 0, .int 0, .int 0, .int 0, .int 0]) d_X8_init_42 cl_8_9 nw_4 nq_4 rfl rfl (by simp only [List.length_append, List.length_cons, List.length_nil, len_4]) ?_
  refine x_dup d_X8_init_45 rfl ?_
  refine x_call (R' := R_X4_init) (i := 76) (Lc := Lo_4 κ (q0 + 76)) d_X8_init_46 cw_X4_init ml_8_24 im_X4_init rfl rfl (c_X4_init κ (q0 + 76)) ⟨rfl, rfl⟩ (Nat.le_of_ble_eq_true rfl) ⟨rfl, rfl⟩ (by simp only [List.length_append, List.length_cons, List.length_nil, len_4]) ?_
  refine x_aast (ci := 4) (i := 1) (iv := 76) (N := 11) (f := (aq8_8 q0)) (L' := (((((((((((([.inr (8, [.ref (q0 + 1), .ref (q0 + 2), .ref (q0 + 3)])] ++ [.inl (κ.2.2.1.2.1, 11, .inr (.inr (.inr (.inr (aq8_9 q0)))))]) ++ [.inl (κ.2.2.1.1, 10, .inl (fun _ => 0))]) ++ [.inl (κ.2.2.1.1, 10, .inl (fun _ => 0))]) ++ Lo_4 κ (q0 + 4)) ++ Lo_4 κ (q0 + 13)) ++ Lo_4 κ (q0 + 22)) ++ Lo_4 κ (q0 + 31)) ++ Lo_4 κ (q0 + 40)) ++ Lo_4 κ (q0 + 49)) ++ Lo_4 κ (q0 + 58)) ++ Lo_4 κ (q0 + 67)) ++ Lo_4 κ (q0 + 76))) d_X8_init_49 rfl rfl (by decide) (by decide) rfl ?_
  refine x_iinc (x := 8) (y := 9) (ls' := [some (.ref (q0 + 0)), some (vi 9)]) d_X8_init_50 rfl rfl rfl rfl ?_
  refine x_goto d_X8_init_53 ?_
  refine x_iload_n (x := 9) d_X8_init_31 rfl ?_
  refine x_bipush d_X8_init_32 rfl ?_
  refine x_gtN d_X8_init_34 rfl rfl rfl ?_
  refine x_aload_n d_X8_init_37 rfl ?_
  refine x_get (i := 0) (j := 0) (v := .ref (q0 + 1)) d_X8_init_38 fi_8_11 rfl rfl ?_
  refine x_iload_n (x := 9) d_X8_init_41 rfl ?_
  refine x_new (ci := 4) (dn := 17) (i := 85) (C := RX4) (fs := [.null, .null, .null, .null, .null, .null, .null, .null, .int 0, .int 0, .int 0, .int 0, .int 0, .int 0, .int 0, .int 0, .int 0]) d_X8_init_42 cl_8_9 nw_4 nq_4 rfl rfl (by simp only [List.length_append, List.length_cons, List.length_nil, len_4]) ?_
  refine x_dup d_X8_init_45 rfl ?_
  refine x_call (R' := R_X4_init) (i := 85) (Lc := Lo_4 κ (q0 + 85)) d_X8_init_46 cw_X4_init ml_8_24 im_X4_init rfl rfl (c_X4_init κ (q0 + 85)) ⟨rfl, rfl⟩ (Nat.le_of_ble_eq_true rfl) ⟨rfl, rfl⟩ (by simp only [List.length_append, List.length_cons, List.length_nil, len_4]) ?_
  refine x_aast (ci := 4) (i := 1) (iv := 85) (N := 11) (f := (aq8_9 q0)) (L' := ((((((((((((([.inr (8, [.ref (q0 + 1), .ref (q0 + 2), .ref (q0 + 3)])] ++ [.inl (κ.2.2.1.2.1, 11, .inr (.inr (.inr (.inr (aq8_10 q0)))))]) ++ [.inl (κ.2.2.1.1, 10, .inl (fun _ => 0))]) ++ [.inl (κ.2.2.1.1, 10, .inl (fun _ => 0))]) ++ Lo_4 κ (q0 + 4)) ++ Lo_4 κ (q0 + 13)) ++ Lo_4 κ (q0 + 22)) ++ Lo_4 κ (q0 + 31)) ++ Lo_4 κ (q0 + 40)) ++ Lo_4 κ (q0 + 49)) ++ Lo_4 κ (q0 + 58)) ++ Lo_4 κ (q0 + 67)) ++ Lo_4 κ (q0 + 76)) ++ Lo_4 κ (q0 + 85))) d_X8_init_49 rfl rfl (by decide) (by decide) rfl ?_
  refine x_iinc (x := 9) (y := 10) (ls' := [some (.ref (q0 + 0)), some (vi 10)]) d_X8_init_50 rfl rfl rfl rfl ?_
  refine x_goto d_X8_init_53 ?_
  refine x_iload_n (x := 10) d_X8_init_31 rfl ?_
  refine x_bipush d_X8_init_32 rfl ?_
  refine x_gtN d_X8_init_34 rfl rfl rfl ?_
  refine x_aload_n d_X8_init_37 rfl ?_
  refine x_get (i := 0) (j := 0) (v := .ref (q0 + 1)) d_X8_init_38 fi_8_11 rfl rfl ?_
  refine x_iload_n (x := 10) d_X8_init_41 rfl ?_
  refine x_new (ci := 4) (dn := 17) (i := 94) (C := RX4) (fs := [.null, .null, .null, .null, .null, .null, .null, .null, .int 0, .int 0, .int 0, .int 0, .int 0, .int 0, .int 0, .int 0, .int 0]) d_X8_init_42 cl_8_9 nw_4 nq_4 rfl rfl (by simp only [List.length_append, List.length_cons, List.length_nil, len_4]) ?_
  refine x_dup d_X8_init_45 rfl ?_
  refine x_call (R' := R_X4_init) (i := 94) (Lc := Lo_4 κ (q0 + 94)) d_X8_init_46 cw_X4_init ml_8_24 im_X4_init rfl rfl (c_X4_init κ (q0 + 94)) ⟨rfl, rfl⟩ (Nat.le_of_ble_eq_true rfl) ⟨rfl, rfl⟩ (by simp only [List.length_append, List.length_cons, List.length_nil, len_4]) ?_
  refine x_aast (ci := 4) (i := 1) (iv := 94) (N := 11) (f := (aq8_10 q0)) (L' := (((((((((((((([.inr (8, [.ref (q0 + 1), .ref (q0 + 2), .ref (q0 + 3)])] ++ [.inl (κ.2.2.1.2.1, 11, .inr (.inr (.inr (.inr (aq8_11 q0)))))]) ++ [.inl (κ.2.2.1.1, 10, .inl (fun _ => 0))]) ++ [.inl (κ.2.2.1.1, 10, .inl (fun _ => 0))]) ++ Lo_4 κ (q0 + 4)) ++ Lo_4 κ (q0 + 13)) ++ Lo_4 κ (q0 + 22)) ++ Lo_4 κ (q0 + 31)) ++ Lo_4 κ (q0 + 40)) ++ Lo_4 κ (q0 + 49)) ++ Lo_4 κ (q0 + 58)) ++ Lo_4 κ (q0 + 67)) ++ Lo_4 κ (q0 + 76)) ++ Lo_4 κ (q0 + 85)) ++ Lo_4 κ (q0 + 94))) d_X8_init_49 rfl rfl (by decide) (by decide) rfl ?_
  refine x_iinc (x := 10) (y := 11) (ls' := [some (.ref (q0 + 0)), some (vi 11)]) d_X8_init_50 rfl rfl rfl rfl ?_
  refine x_goto d_X8_init_53 ?_
  refine x_iload_n (x := 11) d_X8_init_31 rfl ?_
  refine x_bipush d_X8_init_32 rfl ?_
  refine x_gtY d_X8_init_34 rfl rfl rfl ?_
  refine x_sameq (i := 1) (N := 11) (f := aq8_11 q0) (L' := (((((((((((((([.inr (8, [.ref (q0 + 1), .ref (q0 + 2), .ref (q0 + 3)])] ++ [.inl (κ.2.2.1.2.1, 11, .inr (.inr (.inr (.inr (fun j => some (q0 + (1 + 3 + 9 * j)))))))]) ++ [.inl (κ.2.2.1.1, 10, .inl (fun _ => 0))]) ++ [.inl (κ.2.2.1.1, 10, .inl (fun _ => 0))]) ++ Lo_4 κ (q0 + 4)) ++ Lo_4 κ (q0 + 13)) ++ Lo_4 κ (q0 + 22)) ++ Lo_4 κ (q0 + 31)) ++ Lo_4 κ (q0 + 40)) ++ Lo_4 κ (q0 + 49)) ++ Lo_4 κ (q0 + 58)) ++ Lo_4 κ (q0 + 67)) ++ Lo_4 κ (q0 + 76)) ++ Lo_4 κ (q0 + 85)) ++ Lo_4 κ (q0 + 94))) (g := fun j => some (q0 + (1 + 3 + 9 * j))) rfl (by
    intro j hj
    rcases (show j = 0 ∨ j = 1 ∨ j = 2 ∨ j = 3 ∨ j = 4 ∨ j = 5 ∨ j = 6 ∨ j = 7 ∨ j = 8 ∨ j = 9 ∨ j = 10 by omega) with rfl | rfl | rfl | rfl | rfl | rfl | rfl | rfl | rfl | rfl | rfl <;> rfl) rfl ?_
  exact x_ret d_X8_init_56 rfl rfl rfl rfl

def Lo_11 (κ : Kp) (q : Nat) : List va_E := ((((([.inr (11, [.ref (q + 1), .ref (q + 39), .ref (q + 77), .ref (q + 133), .ref (q + 236), vi 0])] ++ Lo_10 κ (q + 1)) ++ Lo_10 κ (q + 39)) ++ Lo_5 κ (q + 77)) ++ Lo_8 κ (q + 133)) ++ Lo_7 κ (q + 236))
theorem len_11 (κ : Kp) (q : Nat) : (Lo_11 κ q).length = 261 := by simp only [Lo_11, List.length_append, List.length_cons, List.length_nil, len_10, len_5, len_7, len_8]
abbrev R_X11_init : Room := { frames := 3, cells := 260, slots := 8923, locals := 72 }
set_option maxHeartbeats 8000000 in
set_option maxRecDepth 20000 in
theorem c_X11_init (κ : Kp) (q0 : Nat) : CtC κ M_X11_init R_X11_init q0 (.inr (11, [.null, .null, .null, .null, .null, .int 0])) (Lo_11 κ q0) := by
  refine CtC.of (by decide) rfl rfl (Nat.le_of_ble_eq_true rfl) ?_
  refine x_ls (ls' := [some (.ref q0)]) ⟨rfl, trivial⟩ ?_
  show EC κ M_X11_init R_X11_init q0 0 [some (.ref (q0 + 0))] [] _ 0 0 _
  refine x_aload_n d_X11_init_0 rfl ?_
  refine x_obj d_X11_init_1 ml_11_1 ow_1 ⟨by decide, Nat.le_of_ble_eq_true rfl⟩ ?_
  refine x_aload_n d_X11_init_4 rfl ?_
  refine x_new (ci := 10) (dn := 8) (i := 1) (C := RX10) (fs := [.null, .null, .null, .null, .null, .null, .null, .null]) d_X11_init_5 cl_11_7 nw_10 nq_10 rfl rfl (by simp only [List.length_append, List.length_cons, List.length_nil, len_10, len_5, len_7, len_8]) ?_
  refine x_dup d_X11_init_8 rfl ?_
  refine x_callN (R' := R_X10_init) (i := 1) (Lc := Lo_10 κ (q0 + 1)) d_X11_init_9 cw_X10_init ml_11_9 im_X10_init rfl rfl (c_X10_init κ (q0 + 1)) ⟨rfl, rfl⟩ (Nat.le_of_ble_eq_true rfl) ⟨rfl, rfl⟩ (by simp only [List.length_append, List.length_cons, List.length_nil, len_10, len_5, len_7, len_8]) ?_
  refine x_putF (i := 0) (j := 0) (L' := ([.inr (11, [.ref (q0 + 1), .null, .null, .null, .null, .int 0])] ++ Lo_10 κ (q0 + 1))) d_X11_init_12 ff_11_10 rfl rfl rfl (Nat.le_of_ble_eq_true rfl) rfl ?_
  refine x_aload_n d_X11_init_15 rfl ?_
  refine x_new (ci := 10) (dn := 8) (i := 39) (C := RX10) (fs := [.null, .null, .null, .null, .null, .null, .null, .null]) d_X11_init_16 cl_11_7 nw_10 nq_10 rfl rfl (by simp only [List.length_append, List.length_cons, List.length_nil, len_10, len_5, len_7, len_8]) ?_
  refine x_dup d_X11_init_19 rfl ?_
  refine x_callN (R' := R_X10_init) (i := 39) (Lc := Lo_10 κ (q0 + 39)) d_X11_init_20 cw_X10_init ml_11_9 im_X10_init rfl rfl (c_X10_init κ (q0 + 39)) ⟨rfl, rfl⟩ (Nat.le_of_ble_eq_true rfl) ⟨rfl, rfl⟩ (by simp only [List.length_append, List.length_cons, List.length_nil, len_10, len_5, len_7, len_8]) ?_
  refine x_putF (i := 0) (j := 1) (L' := (([.inr (11, [.ref (q0 + 1), .ref (q0 + 39), .null, .null, .null, .int 0])] ++ Lo_10 κ (q0 + 1)) ++ Lo_10 κ (q0 + 39))) d_X11_init_23 ff_11_16 rfl rfl rfl (Nat.le_of_ble_eq_true rfl) rfl ?_
  refine x_aload_n d_X11_init_26 rfl ?_
  refine x_new (ci := 5) (dn := 3) (i := 77) (C := RX5) (fs := [.null, .int 0, .int 0]) d_X11_init_27 cl_11_19 nw_5 nq_5 rfl rfl (by simp only [List.length_append, List.length_cons, List.length_nil, len_10, len_5, len_7, len_8]) ?_
  refine x_dup d_X11_init_30 rfl ?_
  refine x_call (R' := R_X5_init) (i := 77) (Lc := Lo_5 κ (q0 + 77)) d_X11_init_31 cw_X5_init ml_11_21 im_X5_init rfl rfl (c_X5_init κ (q0 + 77)) ⟨rfl, rfl⟩ (Nat.le_of_ble_eq_true rfl) ⟨rfl, rfl⟩ (by simp only [List.length_append, List.length_cons, List.length_nil, len_10, len_5, len_7, len_8]) ?_
  refine x_putF (i := 0) (j := 2) (L' := ((([.inr (11, [.ref (q0 + 1), .ref (q0 + 39), .ref (q0 + 77), .null, .null, .int 0])] ++ Lo_10 κ (q0 + 1)) ++ Lo_10 κ (q0 + 39)) ++ Lo_5 κ (q0 + 77))) d_X11_init_34 ff_11_22 rfl rfl rfl (Nat.le_of_ble_eq_true rfl) rfl ?_
  refine x_aload_n d_X11_init_37 rfl ?_
  refine x_new (ci := 8) (dn := 3) (i := 133) (C := RX8) (fs := [.null, .null, .null]) d_X11_init_38 cl_11_26 nw_8 nq_8 rfl rfl (by simp only [List.length_append, List.length_cons, List.length_nil, len_10, len_5, len_7, len_8]) ?_
  refine x_dup d_X11_init_41 rfl ?_
  refine x_call (R' := R_X8_init) (i := 133) (Lc := Lo_8 κ (q0 + 133)) d_X11_init_42 cw_X8_init ml_11_28 im_X8_init rfl rfl (c_X8_init κ (q0 + 133)) ⟨rfl, rfl⟩ (Nat.le_of_ble_eq_true rfl) ⟨rfl, rfl⟩ (by simp only [List.length_append, List.length_cons, List.length_nil, len_10, len_5, len_7, len_8]) ?_
  refine x_putF (i := 0) (j := 3) (L' := (((([.inr (11, [.ref (q0 + 1), .ref (q0 + 39), .ref (q0 + 77), .ref (q0 + 133), .null, .int 0])] ++ Lo_10 κ (q0 + 1)) ++ Lo_10 κ (q0 + 39)) ++ Lo_5 κ (q0 + 77)) ++ Lo_8 κ (q0 + 133))) d_X11_init_45 ff_11_29 rfl rfl rfl (Nat.le_of_ble_eq_true rfl) rfl ?_
  refine x_aload_n d_X11_init_48 rfl ?_
  refine x_new (ci := 7) (dn := 18) (i := 236) (C := RX7) (fs := [.null, .null, .null, .null, .int 0, .int 0, .int 0, .null, .null, .null, .null, .int 0, .int 0, .int 0, .null, .int 0, .int 0, .int 0]) d_X11_init_49 cl_11_33 nw_7 nq_7 rfl rfl (by simp only [List.length_append, List.length_cons, List.length_nil, len_10, len_5, len_7, len_8]) ?_
  refine x_dup d_X11_init_52 rfl ?_
  refine x_callN (R' := R_X7_init) (i := 236) (Lc := Lo_7 κ (q0 + 236)) d_X11_init_53 cw_X7_init ml_11_35 im_X7_init rfl rfl (c_X7_init κ (q0 + 236)) ⟨rfl, rfl⟩ (Nat.le_of_ble_eq_true rfl) ⟨rfl, rfl⟩ (by simp only [List.length_append, List.length_cons, List.length_nil, len_10, len_5, len_7, len_8]) ?_
  refine x_putF (i := 0) (j := 4) (L' := ((((([.inr (11, [.ref (q0 + 1), .ref (q0 + 39), .ref (q0 + 77), .ref (q0 + 133), .ref (q0 + 236), .int 0])] ++ Lo_10 κ (q0 + 1)) ++ Lo_10 κ (q0 + 39)) ++ Lo_5 κ (q0 + 77)) ++ Lo_8 κ (q0 + 133)) ++ Lo_7 κ (q0 + 236))) d_X11_init_56 ff_11_36 rfl rfl rfl (Nat.le_of_ble_eq_true rfl) rfl ?_
  refine x_aload_n d_X11_init_59 rfl ?_
  refine x_iconst d_X11_init_60 ?_
  refine x_put (i := 0) (j := 5) (L' := ((((([.inr (11, [.ref (q0 + 1), .ref (q0 + 39), .ref (q0 + 77), .ref (q0 + 133), .ref (q0 + 236), vi 0])] ++ Lo_10 κ (q0 + 1)) ++ Lo_10 κ (q0 + 39)) ++ Lo_5 κ (q0 + 77)) ++ Lo_8 κ (q0 + 133)) ++ Lo_7 κ (q0 + 236))) d_X11_init_61 fp_11_40 rfl rfl rfl (Nat.le_of_ble_eq_true rfl) rfl ?_
  exact x_ret d_X11_init_64 rfl rfl rfl rfl
def Lo_12 (κ : Kp) (q : Nat) : List va_E := [.inr (12, [.ref (q + 1), .ref (q + 2), .ref (q + 3), .ref (q + 4), .int 0, .int 0, .ref (q + 5), .ref (q + 6), .ref (q + 7), .ref (q + 8), .ref (q + 9), .ref (q + 10), .int 0, .int 0, .int 0, .int 0, .int 0, .int 0, .int 0, .int 0, .int 0, .int 0, .int 0, .int 0, .int 0, vi (-1), .int 0, .ref (q + 11), .ref (q + 12), .ref (q + 13)]), .inl (κ.2.2.1.1, 1732, .inl (fun j => Int32.ofInt (ini_w j))), .inl (κ.2.2.1.1, 1732, .inl (fun _ => 0)), .inl (κ.2.2.1.1, 342, .inl (fun _ => 0)), .inl (κ.2.2.1.1, 57, .inl (fun _ => 0)), .inl (κ.2.2.1.1, 64, .inl (fun _ => 0)), .inl (κ.2.2.1.1, 820, .inl (fun _ => 0)), .inl (κ.2.2.1.1, 64, .inl (fun _ => 0)), .inl (κ.2.2.1.1, 400, .inl (fun _ => 0)), .inl (κ.2.2.1.1, 420, .inl (fun _ => 0)), .inl (κ.2.2.1.1, 11, .inl (fun _ => 0)), .inl (κ.2.2.1.1, 10, .inl (fun _ => 0)), .inl (κ.2.2.1.1, 10, .inl (fun _ => 0)), .inl (κ.2.2.1.1, 30, .inl (fun _ => 0))]
theorem len_12 (κ : Kp) (q : Nat) : (Lo_12 κ q).length = 14 := rfl
def ar12_1 : Nat → Int32 := upd (fun _ => 0) 85 (Int32.ofInt 10)
def ar12_2 : Nat → Int32 := upd ar12_1 86 (Int32.ofInt 10)
def ar12_3 : Nat → Int32 := upd ar12_2 87 (Int32.ofInt 10)
def ar12_4 : Nat → Int32 := upd ar12_3 88 (Int32.ofInt 10)
def ar12_5 : Nat → Int32 := upd ar12_4 89 (Int32.ofInt 10)
def ar12_6 : Nat → Int32 := upd ar12_5 90 (Int32.ofInt 10)
def ar12_7 : Nat → Int32 := upd ar12_6 91 (Int32.ofInt 10)
def ar12_8 : Nat → Int32 := upd ar12_7 92 (Int32.ofInt 10)
def ar12_9 : Nat → Int32 := upd ar12_8 93 (Int32.ofInt 10)
def ar12_10 : Nat → Int32 := upd ar12_9 94 (Int32.ofInt 10)
def ar12_11 : Nat → Int32 := upd ar12_10 95 (Int32.ofInt 10)
def ar12_12 : Nat → Int32 := upd ar12_11 96 (Int32.ofInt 10)
def ar12_13 : Nat → Int32 := upd ar12_12 97 (Int32.ofInt 10)
def ar12_14 : Nat → Int32 := upd ar12_13 98 (Int32.ofInt 10)
def ar12_15 : Nat → Int32 := upd ar12_14 99 (Int32.ofInt 10)
def ar12_16 : Nat → Int32 := upd ar12_15 100 (Int32.ofInt 10)
def ar12_17 : Nat → Int32 := upd ar12_16 1 (Int32.ofInt 5)
def ar12_18 : Nat → Int32 := upd ar12_17 2 (Int32.ofInt 3)
abbrev R_X12_init : Room := { frames := 1, cells := 13, slots := 5692, locals := 30 }
set_option maxHeartbeats 8000000 in
set_option maxRecDepth 20000 in
theorem c_X12_init (κ : Kp) (q0 : Nat) : CtC κ M_X12_init R_X12_init q0 (.inr (12, [.null, .null, .null, .null, .int 0, .int 0, .null, .null, .null, .null, .null, .null, .int 0, .int 0, .int 0, .int 0, .int 0, .int 0, .int 0, .int 0, .int 0, .int 0, .int 0, .int 0, .int 0, .int 0, .int 0, .null, .null, .null])) (Lo_12 κ q0) := by
  refine CtC.of (by decide) rfl rfl (Nat.le_of_ble_eq_true rfl) ?_
  refine x_ls (ls' := [some (.ref q0), none]) ⟨rfl, trivial⟩ ?_
  show EC κ M_X12_init R_X12_init q0 0 [some (.ref (q0 + 0)), none] [] _ 0 0 _
  refine x_aload_n d_X12_init_0 rfl ?_
  refine x_obj d_X12_init_1 ml_12_1 ow_1 ⟨by decide, Nat.le_of_ble_eq_true rfl⟩ ?_
  refine x_aload_n d_X12_init_4 rfl ?_
  refine x_sipush d_X12_init_5 rfl ?_
  refine x_newa (N := 1732) (i := 1) (L' := [.inr (12, [.null, .null, .null, .null, .int 0, .int 0, .null, .null, .null, .null, .null, .null, .int 0, .int 0, .int 0, .int 0, .int 0, .int 0, .int 0, .int 0, .int 0, .int 0, .int 0, .int 0, .int 0, .int 0, .int 0, .null, .null, .null]), .inl (κ.2.2.1.1, 1732, .inl (fun _ => 0))]) d_X12_init_8 ow_2 rfl rfl rfl rfl rfl rfl ?_
  refine x_putF (i := 0) (j := 0) (L' := [.inr (12, [.ref (q0 + 1), .null, .null, .null, .int 0, .int 0, .null, .null, .null, .null, .null, .null, .int 0, .int 0, .int 0, .int 0, .int 0, .int 0, .int 0, .int 0, .int 0, .int 0, .int 0, .int 0, .int 0, .int 0, .int 0, .null, .null, .null]), .inl (κ.2.2.1.1, 1732, .inl (fun _ => 0))]) d_X12_init_10 ff_12_7 rfl rfl rfl (Nat.le_of_ble_eq_true rfl) rfl ?_
  refine x_aload_n d_X12_init_13 rfl ?_
  refine x_sipush d_X12_init_14 rfl ?_
  refine x_newa (N := 1732) (i := 2) (L' := [.inr (12, [.ref (q0 + 1), .null, .null, .null, .int 0, .int 0, .null, .null, .null, .null, .null, .null, .int 0, .int 0, .int 0, .int 0, .int 0, .int 0, .int 0, .int 0, .int 0, .int 0, .int 0, .int 0, .int 0, .int 0, .int 0, .null, .null, .null]), .inl (κ.2.2.1.1, 1732, .inl (fun _ => 0)), .inl (κ.2.2.1.1, 1732, .inl (fun _ => 0))]) d_X12_init_17 ow_2 rfl rfl rfl rfl rfl rfl ?_
  refine x_putF (i := 0) (j := 1) (L' := [.inr (12, [.ref (q0 + 1), .ref (q0 + 2), .null, .null, .int 0, .int 0, .null, .null, .null, .null, .null, .null, .int 0, .int 0, .int 0, .int 0, .int 0, .int 0, .int 0, .int 0, .int 0, .int 0, .int 0, .int 0, .int 0, .int 0, .int 0, .null, .null, .null]), .inl (κ.2.2.1.1, 1732, .inl (fun _ => 0)), .inl (κ.2.2.1.1, 1732, .inl (fun _ => 0))]) d_X12_init_19 ff_12_13 rfl rfl rfl (Nat.le_of_ble_eq_true rfl) rfl ?_
  refine x_aload_n d_X12_init_22 rfl ?_
  refine x_sipush d_X12_init_23 rfl ?_
  refine x_newa (N := 342) (i := 3) (L' := [.inr (12, [.ref (q0 + 1), .ref (q0 + 2), .null, .null, .int 0, .int 0, .null, .null, .null, .null, .null, .null, .int 0, .int 0, .int 0, .int 0, .int 0, .int 0, .int 0, .int 0, .int 0, .int 0, .int 0, .int 0, .int 0, .int 0, .int 0, .null, .null, .null]), .inl (κ.2.2.1.1, 1732, .inl (fun _ => 0)), .inl (κ.2.2.1.1, 1732, .inl (fun _ => 0)), .inl (κ.2.2.1.1, 342, .inl (fun _ => 0))]) d_X12_init_26 ow_2 rfl rfl rfl rfl rfl rfl ?_
  refine x_putF (i := 0) (j := 2) (L' := [.inr (12, [.ref (q0 + 1), .ref (q0 + 2), .ref (q0 + 3), .null, .int 0, .int 0, .null, .null, .null, .null, .null, .null, .int 0, .int 0, .int 0, .int 0, .int 0, .int 0, .int 0, .int 0, .int 0, .int 0, .int 0, .int 0, .int 0, .int 0, .int 0, .null, .null, .null]), .inl (κ.2.2.1.1, 1732, .inl (fun _ => 0)), .inl (κ.2.2.1.1, 1732, .inl (fun _ => 0)), .inl (κ.2.2.1.1, 342, .inl (fun _ => 0))]) d_X12_init_28 ff_12_16 rfl rfl rfl (Nat.le_of_ble_eq_true rfl) rfl ?_
  refine x_aload_n d_X12_init_31 rfl ?_
  refine x_bipush d_X12_init_32 rfl ?_
  refine x_newa (N := 57) (i := 4) (L' := [.inr (12, [.ref (q0 + 1), .ref (q0 + 2), .ref (q0 + 3), .null, .int 0, .int 0, .null, .null, .null, .null, .null, .null, .int 0, .int 0, .int 0, .int 0, .int 0, .int 0, .int 0, .int 0, .int 0, .int 0, .int 0, .int 0, .int 0, .int 0, .int 0, .null, .null, .null]), .inl (κ.2.2.1.1, 1732, .inl (fun _ => 0)), .inl (κ.2.2.1.1, 1732, .inl (fun _ => 0)), .inl (κ.2.2.1.1, 342, .inl (fun _ => 0)), .inl (κ.2.2.1.1, 57, .inl (fun _ => 0))]) d_X12_init_34 ow_2 rfl rfl rfl rfl rfl rfl ?_
  refine x_putF (i := 0) (j := 3) (L' := [.inr (12, [.ref (q0 + 1), .ref (q0 + 2), .ref (q0 + 3), .ref (q0 + 4), .int 0, .int 0, .null, .null, .null, .null, .null, .null, .int 0, .int 0, .int 0, .int 0, .int 0, .int 0, .int 0, .int 0, .int 0, .int 0, .int 0, .int 0, .int 0, .int 0, .int 0, .null, .null, .null]), .inl (κ.2.2.1.1, 1732, .inl (fun _ => 0)), .inl (κ.2.2.1.1, 1732, .inl (fun _ => 0)), .inl (κ.2.2.1.1, 342, .inl (fun _ => 0)), .inl (κ.2.2.1.1, 57, .inl (fun _ => 0))]) d_X12_init_36 ff_12_19 rfl rfl rfl (Nat.le_of_ble_eq_true rfl) rfl ?_
  refine x_aload_n d_X12_init_39 rfl ?_
  refine x_bipush d_X12_init_40 rfl ?_
  refine x_newa (N := 64) (i := 5) (L' := [.inr (12, [.ref (q0 + 1), .ref (q0 + 2), .ref (q0 + 3), .ref (q0 + 4), .int 0, .int 0, .null, .null, .null, .null, .null, .null, .int 0, .int 0, .int 0, .int 0, .int 0, .int 0, .int 0, .int 0, .int 0, .int 0, .int 0, .int 0, .int 0, .int 0, .int 0, .null, .null, .null]), .inl (κ.2.2.1.1, 1732, .inl (fun _ => 0)), .inl (κ.2.2.1.1, 1732, .inl (fun _ => 0)), .inl (κ.2.2.1.1, 342, .inl (fun _ => 0)), .inl (κ.2.2.1.1, 57, .inl (fun _ => 0)), .inl (κ.2.2.1.1, 64, .inl (fun _ => 0))]) d_X12_init_42 ow_2 rfl rfl rfl rfl rfl rfl ?_
  refine x_putF (i := 0) (j := 6) (L' := [.inr (12, [.ref (q0 + 1), .ref (q0 + 2), .ref (q0 + 3), .ref (q0 + 4), .int 0, .int 0, .ref (q0 + 5), .null, .null, .null, .null, .null, .int 0, .int 0, .int 0, .int 0, .int 0, .int 0, .int 0, .int 0, .int 0, .int 0, .int 0, .int 0, .int 0, .int 0, .int 0, .null, .null, .null]), .inl (κ.2.2.1.1, 1732, .inl (fun _ => 0)), .inl (κ.2.2.1.1, 1732, .inl (fun _ => 0)), .inl (κ.2.2.1.1, 342, .inl (fun _ => 0)), .inl (κ.2.2.1.1, 57, .inl (fun _ => 0)), .inl (κ.2.2.1.1, 64, .inl (fun _ => 0))]) d_X12_init_44 ff_12_22 rfl rfl rfl (Nat.le_of_ble_eq_true rfl) rfl ?_
  refine x_aload_n d_X12_init_47 rfl ?_
  refine x_sipush d_X12_init_48 rfl ?_
  refine x_newa (N := 820) (i := 6) (L' := [.inr (12, [.ref (q0 + 1), .ref (q0 + 2), .ref (q0 + 3), .ref (q0 + 4), .int 0, .int 0, .ref (q0 + 5), .null, .null, .null, .null, .null, .int 0, .int 0, .int 0, .int 0, .int 0, .int 0, .int 0, .int 0, .int 0, .int 0, .int 0, .int 0, .int 0, .int 0, .int 0, .null, .null, .null]), .inl (κ.2.2.1.1, 1732, .inl (fun _ => 0)), .inl (κ.2.2.1.1, 1732, .inl (fun _ => 0)), .inl (κ.2.2.1.1, 342, .inl (fun _ => 0)), .inl (κ.2.2.1.1, 57, .inl (fun _ => 0)), .inl (κ.2.2.1.1, 64, .inl (fun _ => 0)), .inl (κ.2.2.1.1, 820, .inl (fun _ => 0))]) d_X12_init_51 ow_2 rfl rfl rfl rfl rfl rfl ?_
  refine x_putF (i := 0) (j := 7) (L' := [.inr (12, [.ref (q0 + 1), .ref (q0 + 2), .ref (q0 + 3), .ref (q0 + 4), .int 0, .int 0, .ref (q0 + 5), .ref (q0 + 6), .null, .null, .null, .null, .int 0, .int 0, .int 0, .int 0, .int 0, .int 0, .int 0, .int 0, .int 0, .int 0, .int 0, .int 0, .int 0, .int 0, .int 0, .null, .null, .null]), .inl (κ.2.2.1.1, 1732, .inl (fun _ => 0)), .inl (κ.2.2.1.1, 1732, .inl (fun _ => 0)), .inl (κ.2.2.1.1, 342, .inl (fun _ => 0)), .inl (κ.2.2.1.1, 57, .inl (fun _ => 0)), .inl (κ.2.2.1.1, 64, .inl (fun _ => 0)), .inl (κ.2.2.1.1, 820, .inl (fun _ => 0))]) d_X12_init_53 ff_12_25 rfl rfl rfl (Nat.le_of_ble_eq_true rfl) rfl ?_
  refine x_aload_n d_X12_init_56 rfl ?_
  refine x_bipush d_X12_init_57 rfl ?_
  refine x_newa (N := 64) (i := 7) (L' := [.inr (12, [.ref (q0 + 1), .ref (q0 + 2), .ref (q0 + 3), .ref (q0 + 4), .int 0, .int 0, .ref (q0 + 5), .ref (q0 + 6), .null, .null, .null, .null, .int 0, .int 0, .int 0, .int 0, .int 0, .int 0, .int 0, .int 0, .int 0, .int 0, .int 0, .int 0, .int 0, .int 0, .int 0, .null, .null, .null]), .inl (κ.2.2.1.1, 1732, .inl (fun _ => 0)), .inl (κ.2.2.1.1, 1732, .inl (fun _ => 0)), .inl (κ.2.2.1.1, 342, .inl (fun _ => 0)), .inl (κ.2.2.1.1, 57, .inl (fun _ => 0)), .inl (κ.2.2.1.1, 64, .inl (fun _ => 0)), .inl (κ.2.2.1.1, 820, .inl (fun _ => 0)), .inl (κ.2.2.1.1, 64, .inl (fun _ => 0))]) d_X12_init_59 ow_2 rfl rfl rfl rfl rfl rfl ?_
  refine x_putF (i := 0) (j := 8) (L' := [.inr (12, [.ref (q0 + 1), .ref (q0 + 2), .ref (q0 + 3), .ref (q0 + 4), .int 0, .int 0, .ref (q0 + 5), .ref (q0 + 6), .ref (q0 + 7), .null, .null, .null, .int 0, .int 0, .int 0, .int 0, .int 0, .int 0, .int 0, .int 0, .int 0, .int 0, .int 0, .int 0, .int 0, .int 0, .int 0, .null, .null, .null]), .inl (κ.2.2.1.1, 1732, .inl (fun _ => 0)), .inl (κ.2.2.1.1, 1732, .inl (fun _ => 0)), .inl (κ.2.2.1.1, 342, .inl (fun _ => 0)), .inl (κ.2.2.1.1, 57, .inl (fun _ => 0)), .inl (κ.2.2.1.1, 64, .inl (fun _ => 0)), .inl (κ.2.2.1.1, 820, .inl (fun _ => 0)), .inl (κ.2.2.1.1, 64, .inl (fun _ => 0))]) d_X12_init_61 ff_12_28 rfl rfl rfl (Nat.le_of_ble_eq_true rfl) rfl ?_
  refine x_aload_n d_X12_init_64 rfl ?_
  refine x_sipush d_X12_init_65 rfl ?_
  refine x_newa (N := 400) (i := 8) (L' := [.inr (12, [.ref (q0 + 1), .ref (q0 + 2), .ref (q0 + 3), .ref (q0 + 4), .int 0, .int 0, .ref (q0 + 5), .ref (q0 + 6), .ref (q0 + 7), .null, .null, .null, .int 0, .int 0, .int 0, .int 0, .int 0, .int 0, .int 0, .int 0, .int 0, .int 0, .int 0, .int 0, .int 0, .int 0, .int 0, .null, .null, .null]), .inl (κ.2.2.1.1, 1732, .inl (fun _ => 0)), .inl (κ.2.2.1.1, 1732, .inl (fun _ => 0)), .inl (κ.2.2.1.1, 342, .inl (fun _ => 0)), .inl (κ.2.2.1.1, 57, .inl (fun _ => 0)), .inl (κ.2.2.1.1, 64, .inl (fun _ => 0)), .inl (κ.2.2.1.1, 820, .inl (fun _ => 0)), .inl (κ.2.2.1.1, 64, .inl (fun _ => 0)), .inl (κ.2.2.1.1, 400, .inl (fun _ => 0))]) d_X12_init_68 ow_2 rfl rfl rfl rfl rfl rfl ?_
  refine x_putF (i := 0) (j := 9) (L' := [.inr (12, [.ref (q0 + 1), .ref (q0 + 2), .ref (q0 + 3), .ref (q0 + 4), .int 0, .int 0, .ref (q0 + 5), .ref (q0 + 6), .ref (q0 + 7), .ref (q0 + 8), .null, .null, .int 0, .int 0, .int 0, .int 0, .int 0, .int 0, .int 0, .int 0, .int 0, .int 0, .int 0, .int 0, .int 0, .int 0, .int 0, .null, .null, .null]), .inl (κ.2.2.1.1, 1732, .inl (fun _ => 0)), .inl (κ.2.2.1.1, 1732, .inl (fun _ => 0)), .inl (κ.2.2.1.1, 342, .inl (fun _ => 0)), .inl (κ.2.2.1.1, 57, .inl (fun _ => 0)), .inl (κ.2.2.1.1, 64, .inl (fun _ => 0)), .inl (κ.2.2.1.1, 820, .inl (fun _ => 0)), .inl (κ.2.2.1.1, 64, .inl (fun _ => 0)), .inl (κ.2.2.1.1, 400, .inl (fun _ => 0))]) d_X12_init_70 ff_12_31 rfl rfl rfl (Nat.le_of_ble_eq_true rfl) rfl ?_
  refine x_aload_n d_X12_init_73 rfl ?_
  refine x_sipush d_X12_init_74 rfl ?_
  refine x_newa (N := 420) (i := 9) (L' := [.inr (12, [.ref (q0 + 1), .ref (q0 + 2), .ref (q0 + 3), .ref (q0 + 4), .int 0, .int 0, .ref (q0 + 5), .ref (q0 + 6), .ref (q0 + 7), .ref (q0 + 8), .null, .null, .int 0, .int 0, .int 0, .int 0, .int 0, .int 0, .int 0, .int 0, .int 0, .int 0, .int 0, .int 0, .int 0, .int 0, .int 0, .null, .null, .null]), .inl (κ.2.2.1.1, 1732, .inl (fun _ => 0)), .inl (κ.2.2.1.1, 1732, .inl (fun _ => 0)), .inl (κ.2.2.1.1, 342, .inl (fun _ => 0)), .inl (κ.2.2.1.1, 57, .inl (fun _ => 0)), .inl (κ.2.2.1.1, 64, .inl (fun _ => 0)), .inl (κ.2.2.1.1, 820, .inl (fun _ => 0)), .inl (κ.2.2.1.1, 64, .inl (fun _ => 0)), .inl (κ.2.2.1.1, 400, .inl (fun _ => 0)), .inl (κ.2.2.1.1, 420, .inl (fun _ => 0))]) d_X12_init_77 ow_2 rfl rfl rfl rfl rfl rfl ?_
  refine x_putF (i := 0) (j := 10) (L' := [.inr (12, [.ref (q0 + 1), .ref (q0 + 2), .ref (q0 + 3), .ref (q0 + 4), .int 0, .int 0, .ref (q0 + 5), .ref (q0 + 6), .ref (q0 + 7), .ref (q0 + 8), .ref (q0 + 9), .null, .int 0, .int 0, .int 0, .int 0, .int 0, .int 0, .int 0, .int 0, .int 0, .int 0, .int 0, .int 0, .int 0, .int 0, .int 0, .null, .null, .null]), .inl (κ.2.2.1.1, 1732, .inl (fun _ => 0)), .inl (κ.2.2.1.1, 1732, .inl (fun _ => 0)), .inl (κ.2.2.1.1, 342, .inl (fun _ => 0)), .inl (κ.2.2.1.1, 57, .inl (fun _ => 0)), .inl (κ.2.2.1.1, 64, .inl (fun _ => 0)), .inl (κ.2.2.1.1, 820, .inl (fun _ => 0)), .inl (κ.2.2.1.1, 64, .inl (fun _ => 0)), .inl (κ.2.2.1.1, 400, .inl (fun _ => 0)), .inl (κ.2.2.1.1, 420, .inl (fun _ => 0))]) d_X12_init_79 ff_12_34 rfl rfl rfl (Nat.le_of_ble_eq_true rfl) rfl ?_
  refine x_aload_n d_X12_init_82 rfl ?_
  refine x_bipush d_X12_init_83 rfl ?_
  refine x_newa (N := 11) (i := 10) (L' := [.inr (12, [.ref (q0 + 1), .ref (q0 + 2), .ref (q0 + 3), .ref (q0 + 4), .int 0, .int 0, .ref (q0 + 5), .ref (q0 + 6), .ref (q0 + 7), .ref (q0 + 8), .ref (q0 + 9), .null, .int 0, .int 0, .int 0, .int 0, .int 0, .int 0, .int 0, .int 0, .int 0, .int 0, .int 0, .int 0, .int 0, .int 0, .int 0, .null, .null, .null]), .inl (κ.2.2.1.1, 1732, .inl (fun _ => 0)), .inl (κ.2.2.1.1, 1732, .inl (fun _ => 0)), .inl (κ.2.2.1.1, 342, .inl (fun _ => 0)), .inl (κ.2.2.1.1, 57, .inl (fun _ => 0)), .inl (κ.2.2.1.1, 64, .inl (fun _ => 0)), .inl (κ.2.2.1.1, 820, .inl (fun _ => 0)), .inl (κ.2.2.1.1, 64, .inl (fun _ => 0)), .inl (κ.2.2.1.1, 400, .inl (fun _ => 0)), .inl (κ.2.2.1.1, 420, .inl (fun _ => 0)), .inl (κ.2.2.1.1, 11, .inl (fun _ => 0))]) d_X12_init_85 ow_2 rfl rfl rfl rfl rfl rfl ?_
  refine x_putF (i := 0) (j := 11) (L' := [.inr (12, [.ref (q0 + 1), .ref (q0 + 2), .ref (q0 + 3), .ref (q0 + 4), .int 0, .int 0, .ref (q0 + 5), .ref (q0 + 6), .ref (q0 + 7), .ref (q0 + 8), .ref (q0 + 9), .ref (q0 + 10), .int 0, .int 0, .int 0, .int 0, .int 0, .int 0, .int 0, .int 0, .int 0, .int 0, .int 0, .int 0, .int 0, .int 0, .int 0, .null, .null, .null]), .inl (κ.2.2.1.1, 1732, .inl (fun _ => 0)), .inl (κ.2.2.1.1, 1732, .inl (fun _ => 0)), .inl (κ.2.2.1.1, 342, .inl (fun _ => 0)), .inl (κ.2.2.1.1, 57, .inl (fun _ => 0)), .inl (κ.2.2.1.1, 64, .inl (fun _ => 0)), .inl (κ.2.2.1.1, 820, .inl (fun _ => 0)), .inl (κ.2.2.1.1, 64, .inl (fun _ => 0)), .inl (κ.2.2.1.1, 400, .inl (fun _ => 0)), .inl (κ.2.2.1.1, 420, .inl (fun _ => 0)), .inl (κ.2.2.1.1, 11, .inl (fun _ => 0))]) d_X12_init_87 ff_12_37 rfl rfl rfl (Nat.le_of_ble_eq_true rfl) rfl ?_
  refine x_aload_n d_X12_init_90 rfl ?_
  refine x_iconst d_X12_init_91 ?_
  refine x_put (i := 0) (j := 25) (L' := [.inr (12, [.ref (q0 + 1), .ref (q0 + 2), .ref (q0 + 3), .ref (q0 + 4), .int 0, .int 0, .ref (q0 + 5), .ref (q0 + 6), .ref (q0 + 7), .ref (q0 + 8), .ref (q0 + 9), .ref (q0 + 10), .int 0, .int 0, .int 0, .int 0, .int 0, .int 0, .int 0, .int 0, .int 0, .int 0, .int 0, .int 0, .int 0, vi (-1), .int 0, .null, .null, .null]), .inl (κ.2.2.1.1, 1732, .inl (fun _ => 0)), .inl (κ.2.2.1.1, 1732, .inl (fun _ => 0)), .inl (κ.2.2.1.1, 342, .inl (fun _ => 0)), .inl (κ.2.2.1.1, 57, .inl (fun _ => 0)), .inl (κ.2.2.1.1, 64, .inl (fun _ => 0)), .inl (κ.2.2.1.1, 820, .inl (fun _ => 0)), .inl (κ.2.2.1.1, 64, .inl (fun _ => 0)), .inl (κ.2.2.1.1, 400, .inl (fun _ => 0)), .inl (κ.2.2.1.1, 420, .inl (fun _ => 0)), .inl (κ.2.2.1.1, 11, .inl (fun _ => 0))]) d_X12_init_92 fp_12_40 rfl rfl rfl (Nat.le_of_ble_eq_true rfl) rfl ?_
  refine x_aload_n d_X12_init_95 rfl ?_
  refine x_bipush d_X12_init_96 rfl ?_
  refine x_newa (N := 10) (i := 11) (L' := [.inr (12, [.ref (q0 + 1), .ref (q0 + 2), .ref (q0 + 3), .ref (q0 + 4), .int 0, .int 0, .ref (q0 + 5), .ref (q0 + 6), .ref (q0 + 7), .ref (q0 + 8), .ref (q0 + 9), .ref (q0 + 10), .int 0, .int 0, .int 0, .int 0, .int 0, .int 0, .int 0, .int 0, .int 0, .int 0, .int 0, .int 0, .int 0, vi (-1), .int 0, .null, .null, .null]), .inl (κ.2.2.1.1, 1732, .inl (fun _ => 0)), .inl (κ.2.2.1.1, 1732, .inl (fun _ => 0)), .inl (κ.2.2.1.1, 342, .inl (fun _ => 0)), .inl (κ.2.2.1.1, 57, .inl (fun _ => 0)), .inl (κ.2.2.1.1, 64, .inl (fun _ => 0)), .inl (κ.2.2.1.1, 820, .inl (fun _ => 0)), .inl (κ.2.2.1.1, 64, .inl (fun _ => 0)), .inl (κ.2.2.1.1, 400, .inl (fun _ => 0)), .inl (κ.2.2.1.1, 420, .inl (fun _ => 0)), .inl (κ.2.2.1.1, 11, .inl (fun _ => 0)), .inl (κ.2.2.1.1, 10, .inl (fun _ => 0))]) d_X12_init_98 ow_2 rfl rfl rfl rfl rfl rfl ?_
  refine x_putF (i := 0) (j := 27) (L' := [.inr (12, [.ref (q0 + 1), .ref (q0 + 2), .ref (q0 + 3), .ref (q0 + 4), .int 0, .int 0, .ref (q0 + 5), .ref (q0 + 6), .ref (q0 + 7), .ref (q0 + 8), .ref (q0 + 9), .ref (q0 + 10), .int 0, .int 0, .int 0, .int 0, .int 0, .int 0, .int 0, .int 0, .int 0, .int 0, .int 0, .int 0, .int 0, vi (-1), .int 0, .ref (q0 + 11), .null, .null]), .inl (κ.2.2.1.1, 1732, .inl (fun _ => 0)), .inl (κ.2.2.1.1, 1732, .inl (fun _ => 0)), .inl (κ.2.2.1.1, 342, .inl (fun _ => 0)), .inl (κ.2.2.1.1, 57, .inl (fun _ => 0)), .inl (κ.2.2.1.1, 64, .inl (fun _ => 0)), .inl (κ.2.2.1.1, 820, .inl (fun _ => 0)), .inl (κ.2.2.1.1, 64, .inl (fun _ => 0)), .inl (κ.2.2.1.1, 400, .inl (fun _ => 0)), .inl (κ.2.2.1.1, 420, .inl (fun _ => 0)), .inl (κ.2.2.1.1, 11, .inl (fun _ => 0)), .inl (κ.2.2.1.1, 10, .inl (fun _ => 0))]) d_X12_init_100 ff_12_44 rfl rfl rfl (Nat.le_of_ble_eq_true rfl) rfl ?_
  refine x_aload_n d_X12_init_103 rfl ?_
  refine x_bipush d_X12_init_104 rfl ?_
  refine x_newa (N := 10) (i := 12) (L' := [.inr (12, [.ref (q0 + 1), .ref (q0 + 2), .ref (q0 + 3), .ref (q0 + 4), .int 0, .int 0, .ref (q0 + 5), .ref (q0 + 6), .ref (q0 + 7), .ref (q0 + 8), .ref (q0 + 9), .ref (q0 + 10), .int 0, .int 0, .int 0, .int 0, .int 0, .int 0, .int 0, .int 0, .int 0, .int 0, .int 0, .int 0, .int 0, vi (-1), .int 0, .ref (q0 + 11), .null, .null]), .inl (κ.2.2.1.1, 1732, .inl (fun _ => 0)), .inl (κ.2.2.1.1, 1732, .inl (fun _ => 0)), .inl (κ.2.2.1.1, 342, .inl (fun _ => 0)), .inl (κ.2.2.1.1, 57, .inl (fun _ => 0)), .inl (κ.2.2.1.1, 64, .inl (fun _ => 0)), .inl (κ.2.2.1.1, 820, .inl (fun _ => 0)), .inl (κ.2.2.1.1, 64, .inl (fun _ => 0)), .inl (κ.2.2.1.1, 400, .inl (fun _ => 0)), .inl (κ.2.2.1.1, 420, .inl (fun _ => 0)), .inl (κ.2.2.1.1, 11, .inl (fun _ => 0)), .inl (κ.2.2.1.1, 10, .inl (fun _ => 0)), .inl (κ.2.2.1.1, 10, .inl (fun _ => 0))]) d_X12_init_106 ow_2 rfl rfl rfl rfl rfl rfl ?_
  refine x_putF (i := 0) (j := 28) (L' := [.inr (12, [.ref (q0 + 1), .ref (q0 + 2), .ref (q0 + 3), .ref (q0 + 4), .int 0, .int 0, .ref (q0 + 5), .ref (q0 + 6), .ref (q0 + 7), .ref (q0 + 8), .ref (q0 + 9), .ref (q0 + 10), .int 0, .int 0, .int 0, .int 0, .int 0, .int 0, .int 0, .int 0, .int 0, .int 0, .int 0, .int 0, .int 0, vi (-1), .int 0, .ref (q0 + 11), .ref (q0 + 12), .null]), .inl (κ.2.2.1.1, 1732, .inl (fun _ => 0)), .inl (κ.2.2.1.1, 1732, .inl (fun _ => 0)), .inl (κ.2.2.1.1, 342, .inl (fun _ => 0)), .inl (κ.2.2.1.1, 57, .inl (fun _ => 0)), .inl (κ.2.2.1.1, 64, .inl (fun _ => 0)), .inl (κ.2.2.1.1, 820, .inl (fun _ => 0)), .inl (κ.2.2.1.1, 64, .inl (fun _ => 0)), .inl (κ.2.2.1.1, 400, .inl (fun _ => 0)), .inl (κ.2.2.1.1, 420, .inl (fun _ => 0)), .inl (κ.2.2.1.1, 11, .inl (fun _ => 0)), .inl (κ.2.2.1.1, 10, .inl (fun _ => 0)), .inl (κ.2.2.1.1, 10, .inl (fun _ => 0))]) d_X12_init_108 ff_12_47 rfl rfl rfl (Nat.le_of_ble_eq_true rfl) rfl ?_
  refine x_aload_n d_X12_init_111 rfl ?_
  refine x_bipush d_X12_init_112 rfl ?_
  refine x_newa (N := 30) (i := 13) (L' := [.inr (12, [.ref (q0 + 1), .ref (q0 + 2), .ref (q0 + 3), .ref (q0 + 4), .int 0, .int 0, .ref (q0 + 5), .ref (q0 + 6), .ref (q0 + 7), .ref (q0 + 8), .ref (q0 + 9), .ref (q0 + 10), .int 0, .int 0, .int 0, .int 0, .int 0, .int 0, .int 0, .int 0, .int 0, .int 0, .int 0, .int 0, .int 0, vi (-1), .int 0, .ref (q0 + 11), .ref (q0 + 12), .null]), .inl (κ.2.2.1.1, 1732, .inl (fun _ => 0)), .inl (κ.2.2.1.1, 1732, .inl (fun _ => 0)), .inl (κ.2.2.1.1, 342, .inl (fun _ => 0)), .inl (κ.2.2.1.1, 57, .inl (fun _ => 0)), .inl (κ.2.2.1.1, 64, .inl (fun _ => 0)), .inl (κ.2.2.1.1, 820, .inl (fun _ => 0)), .inl (κ.2.2.1.1, 64, .inl (fun _ => 0)), .inl (κ.2.2.1.1, 400, .inl (fun _ => 0)), .inl (κ.2.2.1.1, 420, .inl (fun _ => 0)), .inl (κ.2.2.1.1, 11, .inl (fun _ => 0)), .inl (κ.2.2.1.1, 10, .inl (fun _ => 0)), .inl (κ.2.2.1.1, 10, .inl (fun _ => 0)), .inl (κ.2.2.1.1, 30, .inl (fun _ => 0))]) d_X12_init_114 ow_2 rfl rfl rfl rfl rfl rfl ?_
  refine x_putF (i := 0) (j := 29) (L' := [.inr (12, [.ref (q0 + 1), .ref (q0 + 2), .ref (q0 + 3), .ref (q0 + 4), .int 0, .int 0, .ref (q0 + 5), .ref (q0 + 6), .ref (q0 + 7), .ref (q0 + 8), .ref (q0 + 9), .ref (q0 + 10), .int 0, .int 0, .int 0, .int 0, .int 0, .int 0, .int 0, .int 0, .int 0, .int 0, .int 0, .int 0, .int 0, vi (-1), .int 0, .ref (q0 + 11), .ref (q0 + 12), .ref (q0 + 13)]), .inl (κ.2.2.1.1, 1732, .inl (fun _ => 0)), .inl (κ.2.2.1.1, 1732, .inl (fun _ => 0)), .inl (κ.2.2.1.1, 342, .inl (fun _ => 0)), .inl (κ.2.2.1.1, 57, .inl (fun _ => 0)), .inl (κ.2.2.1.1, 64, .inl (fun _ => 0)), .inl (κ.2.2.1.1, 820, .inl (fun _ => 0)), .inl (κ.2.2.1.1, 64, .inl (fun _ => 0)), .inl (κ.2.2.1.1, 400, .inl (fun _ => 0)), .inl (κ.2.2.1.1, 420, .inl (fun _ => 0)), .inl (κ.2.2.1.1, 11, .inl (fun _ => 0)), .inl (κ.2.2.1.1, 10, .inl (fun _ => 0)), .inl (κ.2.2.1.1, 10, .inl (fun _ => 0)), .inl (κ.2.2.1.1, 30, .inl (fun _ => 0))]) d_X12_init_116 ff_12_50 rfl rfl rfl (Nat.le_of_ble_eq_true rfl) rfl ?_
  refine x_iconst d_X12_init_119 ?_
  refine x_istore_n (ls' := [some (.ref (q0 + 0)), some (vi 0)]) d_X12_init_120 rfl rfl ?_
  refine x_iload_n (x := 0) d_X12_init_121 rfl ?_
  refine x_bipush d_X12_init_122 rfl ?_
  refine x_geN d_X12_init_124 rfl rfl rfl ?_
  refine x_aload_n d_X12_init_127 rfl ?_
  refine x_get (i := 0) (j := 0) (v := .ref (q0 + 1)) d_X12_init_128 fi_12_7 rfl rfl ?_
  refine x_bipush d_X12_init_131 rfl ?_
  refine x_iload_n (x := 0) d_X12_init_133 rfl ?_
  refine x_iadd (z := 85) d_X12_init_134 rfl ?_
  refine x_bipush d_X12_init_135 rfl ?_
  refine x_iast (i := 1) (N := 1732) (f := (fun _ => 0)) (L' := [.inr (12, [.ref (q0 + 1), .ref (q0 + 2), .ref (q0 + 3), .ref (q0 + 4), .int 0, .int 0, .ref (q0 + 5), .ref (q0 + 6), .ref (q0 + 7), .ref (q0 + 8), .ref (q0 + 9), .ref (q0 + 10), .int 0, .int 0, .int 0, .int 0, .int 0, .int 0, .int 0, .int 0, .int 0, .int 0, .int 0, .int 0, .int 0, vi (-1), .int 0, .ref (q0 + 11), .ref (q0 + 12), .ref (q0 + 13)]), .inl (κ.2.2.1.1, 1732, .inl ar12_1), .inl (κ.2.2.1.1, 1732, .inl (fun _ => 0)), .inl (κ.2.2.1.1, 342, .inl (fun _ => 0)), .inl (κ.2.2.1.1, 57, .inl (fun _ => 0)), .inl (κ.2.2.1.1, 64, .inl (fun _ => 0)), .inl (κ.2.2.1.1, 820, .inl (fun _ => 0)), .inl (κ.2.2.1.1, 64, .inl (fun _ => 0)), .inl (κ.2.2.1.1, 400, .inl (fun _ => 0)), .inl (κ.2.2.1.1, 420, .inl (fun _ => 0)), .inl (κ.2.2.1.1, 11, .inl (fun _ => 0)), .inl (κ.2.2.1.1, 10, .inl (fun _ => 0)), .inl (κ.2.2.1.1, 10, .inl (fun _ => 0)), .inl (κ.2.2.1.1, 30, .inl (fun _ => 0))]) d_X12_init_137 rfl (by decide) (by decide) rfl ?_
  refine x_iinc (x := 0) (y := 1) (ls' := [some (.ref (q0 + 0)), some (vi 1)]) d_X12_init_138 rfl rfl rfl rfl ?_
  refine x_goto d_X12_init_141 ?_
  refine x_iload_n (x := 1) d_X12_init_121 rfl ?_
  refine x_bipush d_X12_init_122 rfl ?_
  refine x_geN d_X12_init_124 rfl rfl rfl ?_
  refine x_aload_n d_X12_init_127 rfl ?_
  refine x_get (i := 0) (j := 0) (v := .ref (q0 + 1)) d_X12_init_128 fi_12_7 rfl rfl ?_
  refine x_bipush d_X12_init_131 rfl ?_
  refine x_iload_n (x := 1) d_X12_init_133 rfl ?_
  refine x_iadd (z := 86) d_X12_init_134 rfl ?_
  refine x_bipush d_X12_init_135 rfl ?_
  refine x_iast (i := 1) (N := 1732) (f := ar12_1) (L' := [.inr (12, [.ref (q0 + 1), .ref (q0 + 2), .ref (q0 + 3), .ref (q0 + 4), .int 0, .int 0, .ref (q0 + 5), .ref (q0 + 6), .ref (q0 + 7), .ref (q0 + 8), .ref (q0 + 9), .ref (q0 + 10), .int 0, .int 0, .int 0, .int 0, .int 0, .int 0, .int 0, .int 0, .int 0, .int 0, .int 0, .int 0, .int 0, vi (-1), .int 0, .ref (q0 + 11), .ref (q0 + 12), .ref (q0 + 13)]), .inl (κ.2.2.1.1, 1732, .inl ar12_2), .inl (κ.2.2.1.1, 1732, .inl (fun _ => 0)), .inl (κ.2.2.1.1, 342, .inl (fun _ => 0)), .inl (κ.2.2.1.1, 57, .inl (fun _ => 0)), .inl (κ.2.2.1.1, 64, .inl (fun _ => 0)), .inl (κ.2.2.1.1, 820, .inl (fun _ => 0)), .inl (κ.2.2.1.1, 64, .inl (fun _ => 0)), .inl (κ.2.2.1.1, 400, .inl (fun _ => 0)), .inl (κ.2.2.1.1, 420, .inl (fun _ => 0)), .inl (κ.2.2.1.1, 11, .inl (fun _ => 0)), .inl (κ.2.2.1.1, 10, .inl (fun _ => 0)), .inl (κ.2.2.1.1, 10, .inl (fun _ => 0)), .inl (κ.2.2.1.1, 30, .inl (fun _ => 0))]) d_X12_init_137 rfl (by decide) (by decide) rfl ?_
  refine x_iinc (x := 1) (y := 2) (ls' := [some (.ref (q0 + 0)), some (vi 2)]) d_X12_init_138 rfl rfl rfl rfl ?_
  refine x_goto d_X12_init_141 ?_
  refine x_iload_n (x := 2) d_X12_init_121 rfl ?_
  refine x_bipush d_X12_init_122 rfl ?_
  refine x_geN d_X12_init_124 rfl rfl rfl ?_
  refine x_aload_n d_X12_init_127 rfl ?_
  refine x_get (i := 0) (j := 0) (v := .ref (q0 + 1)) d_X12_init_128 fi_12_7 rfl rfl ?_
  refine x_bipush d_X12_init_131 rfl ?_
  refine x_iload_n (x := 2) d_X12_init_133 rfl ?_
  refine x_iadd (z := 87) d_X12_init_134 rfl ?_
  refine x_bipush d_X12_init_135 rfl ?_
  refine x_iast (i := 1) (N := 1732) (f := ar12_2) (L' := [.inr (12, [.ref (q0 + 1), .ref (q0 + 2), .ref (q0 + 3), .ref (q0 + 4), .int 0, .int 0, .ref (q0 + 5), .ref (q0 + 6), .ref (q0 + 7), .ref (q0 + 8), .ref (q0 + 9), .ref (q0 + 10), .int 0, .int 0, .int 0, .int 0, .int 0, .int 0, .int 0, .int 0, .int 0, .int 0, .int 0, .int 0, .int 0, vi (-1), .int 0, .ref (q0 + 11), .ref (q0 + 12), .ref (q0 + 13)]), .inl (κ.2.2.1.1, 1732, .inl ar12_3), .inl (κ.2.2.1.1, 1732, .inl (fun _ => 0)), .inl (κ.2.2.1.1, 342, .inl (fun _ => 0)), .inl (κ.2.2.1.1, 57, .inl (fun _ => 0)), .inl (κ.2.2.1.1, 64, .inl (fun _ => 0)), .inl (κ.2.2.1.1, 820, .inl (fun _ => 0)), .inl (κ.2.2.1.1, 64, .inl (fun _ => 0)), .inl (κ.2.2.1.1, 400, .inl (fun _ => 0)), .inl (κ.2.2.1.1, 420, .inl (fun _ => 0)), .inl (κ.2.2.1.1, 11, .inl (fun _ => 0)), .inl (κ.2.2.1.1, 10, .inl (fun _ => 0)), .inl (κ.2.2.1.1, 10, .inl (fun _ => 0)), .inl (κ.2.2.1.1, 30, .inl (fun _ => 0))]) d_X12_init_137 rfl (by decide) (by decide) rfl ?_
  refine x_iinc (x := 2) (y := 3) (ls' := [some (.ref (q0 + 0)), some (vi 3)]) d_X12_init_138 rfl rfl rfl rfl ?_
  refine x_goto d_X12_init_141 ?_
  refine x_iload_n (x := 3) d_X12_init_121 rfl ?_
  refine x_bipush d_X12_init_122 rfl ?_
  refine x_geN d_X12_init_124 rfl rfl rfl ?_
  refine x_aload_n d_X12_init_127 rfl ?_
  refine x_get (i := 0) (j := 0) (v := .ref (q0 + 1)) d_X12_init_128 fi_12_7 rfl rfl ?_
  refine x_bipush d_X12_init_131 rfl ?_
  refine x_iload_n (x := 3) d_X12_init_133 rfl ?_
  refine x_iadd (z := 88) d_X12_init_134 rfl ?_
  refine x_bipush d_X12_init_135 rfl ?_
  refine x_iast (i := 1) (N := 1732) (f := ar12_3) (L' := [.inr (12, [.ref (q0 + 1), .ref (q0 + 2), .ref (q0 + 3), .ref (q0 + 4), .int 0, .int 0, .ref (q0 + 5), .ref (q0 + 6), .ref (q0 + 7), .ref (q0 + 8), .ref (q0 + 9), .ref (q0 + 10), .int 0, .int 0, .int 0, .int 0, .int 0, .int 0, .int 0, .int 0, .int 0, .int 0, .int 0, .int 0, .int 0, vi (-1), .int 0, .ref (q0 + 11), .ref (q0 + 12), .ref (q0 + 13)]), .inl (κ.2.2.1.1, 1732, .inl ar12_4), .inl (κ.2.2.1.1, 1732, .inl (fun _ => 0)), .inl (κ.2.2.1.1, 342, .inl (fun _ => 0)), .inl (κ.2.2.1.1, 57, .inl (fun _ => 0)), .inl (κ.2.2.1.1, 64, .inl (fun _ => 0)), .inl (κ.2.2.1.1, 820, .inl (fun _ => 0)), .inl (κ.2.2.1.1, 64, .inl (fun _ => 0)), .inl (κ.2.2.1.1, 400, .inl (fun _ => 0)), .inl (κ.2.2.1.1, 420, .inl (fun _ => 0)), .inl (κ.2.2.1.1, 11, .inl (fun _ => 0)), .inl (κ.2.2.1.1, 10, .inl (fun _ => 0)), .inl (κ.2.2.1.1, 10, .inl (fun _ => 0)), .inl (κ.2.2.1.1, 30, .inl (fun _ => 0))]) d_X12_init_137 rfl (by decide) (by decide) rfl ?_
  refine x_iinc (x := 3) (y := 4) (ls' := [some (.ref (q0 + 0)), some (vi 4)]) d_X12_init_138 rfl rfl rfl rfl ?_
  refine x_goto d_X12_init_141 ?_
  refine x_iload_n (x := 4) d_X12_init_121 rfl ?_
  refine x_bipush d_X12_init_122 rfl ?_
  refine x_geN d_X12_init_124 rfl rfl rfl ?_
  refine x_aload_n d_X12_init_127 rfl ?_
  refine x_get (i := 0) (j := 0) (v := .ref (q0 + 1)) d_X12_init_128 fi_12_7 rfl rfl ?_
  refine x_bipush d_X12_init_131 rfl ?_
  refine x_iload_n (x := 4) d_X12_init_133 rfl ?_
  refine x_iadd (z := 89) d_X12_init_134 rfl ?_
  refine x_bipush d_X12_init_135 rfl ?_
  refine x_iast (i := 1) (N := 1732) (f := ar12_4) (L' := [.inr (12, [.ref (q0 + 1), .ref (q0 + 2), .ref (q0 + 3), .ref (q0 + 4), .int 0, .int 0, .ref (q0 + 5), .ref (q0 + 6), .ref (q0 + 7), .ref (q0 + 8), .ref (q0 + 9), .ref (q0 + 10), .int 0, .int 0, .int 0, .int 0, .int 0, .int 0, .int 0, .int 0, .int 0, .int 0, .int 0, .int 0, .int 0, vi (-1), .int 0, .ref (q0 + 11), .ref (q0 + 12), .ref (q0 + 13)]), .inl (κ.2.2.1.1, 1732, .inl ar12_5), .inl (κ.2.2.1.1, 1732, .inl (fun _ => 0)), .inl (κ.2.2.1.1, 342, .inl (fun _ => 0)), .inl (κ.2.2.1.1, 57, .inl (fun _ => 0)), .inl (κ.2.2.1.1, 64, .inl (fun _ => 0)), .inl (κ.2.2.1.1, 820, .inl (fun _ => 0)), .inl (κ.2.2.1.1, 64, .inl (fun _ => 0)), .inl (κ.2.2.1.1, 400, .inl (fun _ => 0)), .inl (κ.2.2.1.1, 420, .inl (fun _ => 0)), .inl (κ.2.2.1.1, 11, .inl (fun _ => 0)), .inl (κ.2.2.1.1, 10, .inl (fun _ => 0)), .inl (κ.2.2.1.1, 10, .inl (fun _ => 0)), .inl (κ.2.2.1.1, 30, .inl (fun _ => 0))]) d_X12_init_137 rfl (by decide) (by decide) rfl ?_
  refine x_iinc (x := 4) (y := 5) (ls' := [some (.ref (q0 + 0)), some (vi 5)]) d_X12_init_138 rfl rfl rfl rfl ?_
  refine x_goto d_X12_init_141 ?_
  refine x_iload_n (x := 5) d_X12_init_121 rfl ?_
  refine x_bipush d_X12_init_122 rfl ?_
  refine x_geN d_X12_init_124 rfl rfl rfl ?_
  refine x_aload_n d_X12_init_127 rfl ?_
  refine x_get (i := 0) (j := 0) (v := .ref (q0 + 1)) d_X12_init_128 fi_12_7 rfl rfl ?_
  refine x_bipush d_X12_init_131 rfl ?_
  refine x_iload_n (x := 5) d_X12_init_133 rfl ?_
  refine x_iadd (z := 90) d_X12_init_134 rfl ?_
  refine x_bipush d_X12_init_135 rfl ?_
  refine x_iast (i := 1) (N := 1732) (f := ar12_5) (L' := [.inr (12, [.ref (q0 + 1), .ref (q0 + 2), .ref (q0 + 3), .ref (q0 + 4), .int 0, .int 0, .ref (q0 + 5), .ref (q0 + 6), .ref (q0 + 7), .ref (q0 + 8), .ref (q0 + 9), .ref (q0 + 10), .int 0, .int 0, .int 0, .int 0, .int 0, .int 0, .int 0, .int 0, .int 0, .int 0, .int 0, .int 0, .int 0, vi (-1), .int 0, .ref (q0 + 11), .ref (q0 + 12), .ref (q0 + 13)]), .inl (κ.2.2.1.1, 1732, .inl ar12_6), .inl (κ.2.2.1.1, 1732, .inl (fun _ => 0)), .inl (κ.2.2.1.1, 342, .inl (fun _ => 0)), .inl (κ.2.2.1.1, 57, .inl (fun _ => 0)), .inl (κ.2.2.1.1, 64, .inl (fun _ => 0)), .inl (κ.2.2.1.1, 820, .inl (fun _ => 0)), .inl (κ.2.2.1.1, 64, .inl (fun _ => 0)), .inl (κ.2.2.1.1, 400, .inl (fun _ => 0)), .inl (κ.2.2.1.1, 420, .inl (fun _ => 0)), .inl (κ.2.2.1.1, 11, .inl (fun _ => 0)), .inl (κ.2.2.1.1, 10, .inl (fun _ => 0)), .inl (κ.2.2.1.1, 10, .inl (fun _ => 0)), .inl (κ.2.2.1.1, 30, .inl (fun _ => 0))]) d_X12_init_137 rfl (by decide) (by decide) rfl ?_
  refine x_iinc (x := 5) (y := 6) (ls' := [some (.ref (q0 + 0)), some (vi 6)]) d_X12_init_138 rfl rfl rfl rfl ?_
  refine x_goto d_X12_init_141 ?_
  refine x_iload_n (x := 6) d_X12_init_121 rfl ?_
  refine x_bipush d_X12_init_122 rfl ?_
  refine x_geN d_X12_init_124 rfl rfl rfl ?_
  refine x_aload_n d_X12_init_127 rfl ?_
  refine x_get (i := 0) (j := 0) (v := .ref (q0 + 1)) d_X12_init_128 fi_12_7 rfl rfl ?_
  refine x_bipush d_X12_init_131 rfl ?_
  refine x_iload_n (x := 6) d_X12_init_133 rfl ?_
  refine x_iadd (z := 91) d_X12_init_134 rfl ?_
  refine x_bipush d_X12_init_135 rfl ?_
  refine x_iast (i := 1) (N := 1732) (f := ar12_6) (L' := [.inr (12, [.ref (q0 + 1), .ref (q0 + 2), .ref (q0 + 3), .ref (q0 + 4), .int 0, .int 0, .ref (q0 + 5), .ref (q0 + 6), .ref (q0 + 7), .ref (q0 + 8), .ref (q0 + 9), .ref (q0 + 10), .int 0, .int 0, .int 0, .int 0, .int 0, .int 0, .int 0, .int 0, .int 0, .int 0, .int 0, .int 0, .int 0, vi (-1), .int 0, .ref (q0 + 11), .ref (q0 + 12), .ref (q0 + 13)]), .inl (κ.2.2.1.1, 1732, .inl ar12_7), .inl (κ.2.2.1.1, 1732, .inl (fun _ => 0)), .inl (κ.2.2.1.1, 342, .inl (fun _ => 0)), .inl (κ.2.2.1.1, 57, .inl (fun _ => 0)), .inl (κ.2.2.1.1, 64, .inl (fun _ => 0)), .inl (κ.2.2.1.1, 820, .inl (fun _ => 0)), .inl (κ.2.2.1.1, 64, .inl (fun _ => 0)), .inl (κ.2.2.1.1, 400, .inl (fun _ => 0)), .inl (κ.2.2.1.1, 420, .inl (fun _ => 0)), .inl (κ.2.2.1.1, 11, .inl (fun _ => 0)), .inl (κ.2.2.1.1, 10, .inl (fun _ => 0)), .inl (κ.2.2.1.1, 10, .inl (fun _ => 0)), .inl (κ.2.2.1.1, 30, .inl (fun _ => 0))]) d_X12_init_137 rfl (by decide) (by decide) rfl ?_
  refine x_iinc (x := 6) (y := 7) (ls' := [some (.ref (q0 + 0)), some (vi 7)]) d_X12_init_138 rfl rfl rfl rfl ?_
  refine x_goto d_X12_init_141 ?_
  refine x_iload_n (x := 7) d_X12_init_121 rfl ?_
  refine x_bipush d_X12_init_122 rfl ?_
  refine x_geN d_X12_init_124 rfl rfl rfl ?_
  refine x_aload_n d_X12_init_127 rfl ?_
  refine x_get (i := 0) (j := 0) (v := .ref (q0 + 1)) d_X12_init_128 fi_12_7 rfl rfl ?_
  refine x_bipush d_X12_init_131 rfl ?_
  refine x_iload_n (x := 7) d_X12_init_133 rfl ?_
  refine x_iadd (z := 92) d_X12_init_134 rfl ?_
  refine x_bipush d_X12_init_135 rfl ?_
  refine x_iast (i := 1) (N := 1732) (f := ar12_7) (L' := [.inr (12, [.ref (q0 + 1), .ref (q0 + 2), .ref (q0 + 3), .ref (q0 + 4), .int 0, .int 0, .ref (q0 + 5), .ref (q0 + 6), .ref (q0 + 7), .ref (q0 + 8), .ref (q0 + 9), .ref (q0 + 10), .int 0, .int 0, .int 0, .int 0, .int 0, .int 0, .int 0, .int 0, .int 0, .int 0, .int 0, .int 0, .int 0, vi (-1), .int 0, .ref (q0 + 11), .ref (q0 + 12), .ref (q0 + 13)]), .inl (κ.2.2.1.1, 1732, .inl ar12_8), .inl (κ.2.2.1.1, 1732, .inl (fun _ => 0)), .inl (κ.2.2.1.1, 342, .inl (fun _ => 0)), .inl (κ.2.2.1.1, 57, .inl (fun _ => 0)), .inl (κ.2.2.1.1, 64, .inl (fun _ => 0)), .inl (κ.2.2.1.1, 820, .inl (fun _ => 0)), .inl (κ.2.2.1.1, 64, .inl (fun _ => 0)), .inl (κ.2.2.1.1, 400, .inl (fun _ => 0)), .inl (κ.2.2.1.1, 420, .inl (fun _ => 0)), .inl (κ.2.2.1.1, 11, .inl (fun _ => 0)), .inl (κ.2.2.1.1, 10, .inl (fun _ => 0)), .inl (κ.2.2.1.1, 10, .inl (fun _ => 0)), .inl (κ.2.2.1.1, 30, .inl (fun _ => 0))]) d_X12_init_137 rfl (by decide) (by decide) rfl ?_
  refine x_iinc (x := 7) (y := 8) (ls' := [some (.ref (q0 + 0)), some (vi 8)]) d_X12_init_138 rfl rfl rfl rfl ?_
  refine x_goto d_X12_init_141 ?_
  refine x_iload_n (x := 8) d_X12_init_121 rfl ?_
  refine x_bipush d_X12_init_122 rfl ?_
  refine x_geN d_X12_init_124 rfl rfl rfl ?_
  refine x_aload_n d_X12_init_127 rfl ?_
  refine x_get (i := 0) (j := 0) (v := .ref (q0 + 1)) d_X12_init_128 fi_12_7 rfl rfl ?_
  refine x_bipush d_X12_init_131 rfl ?_
  refine x_iload_n (x := 8) d_X12_init_133 rfl ?_
  refine x_iadd (z := 93) d_X12_init_134 rfl ?_
  refine x_bipush d_X12_init_135 rfl ?_
  refine x_iast (i := 1) (N := 1732) (f := ar12_8) (L' := [.inr (12, [.ref (q0 + 1), .ref (q0 + 2), .ref (q0 + 3), .ref (q0 + 4), .int 0, .int 0, .ref (q0 + 5), .ref (q0 + 6), .ref (q0 + 7), .ref (q0 + 8), .ref (q0 + 9), .ref (q0 + 10), .int 0, .int 0, .int 0, .int 0, .int 0, .int 0, .int 0, .int 0, .int 0, .int 0, .int 0, .int 0, .int 0, vi (-1), .int 0, .ref (q0 + 11), .ref (q0 + 12), .ref (q0 + 13)]), .inl (κ.2.2.1.1, 1732, .inl ar12_9), .inl (κ.2.2.1.1, 1732, .inl (fun _ => 0)), .inl (κ.2.2.1.1, 342, .inl (fun _ => 0)), .inl (κ.2.2.1.1, 57, .inl (fun _ => 0)), .inl (κ.2.2.1.1, 64, .inl (fun _ => 0)), .inl (κ.2.2.1.1, 820, .inl (fun _ => 0)), .inl (κ.2.2.1.1, 64, .inl (fun _ => 0)), .inl (κ.2.2.1.1, 400, .inl (fun _ => 0)), .inl (κ.2.2.1.1, 420, .inl (fun _ => 0)), .inl (κ.2.2.1.1, 11, .inl (fun _ => 0)), .inl (κ.2.2.1.1, 10, .inl (fun _ => 0)), .inl (κ.2.2.1.1, 10, .inl (fun _ => 0)), .inl (κ.2.2.1.1, 30, .inl (fun _ => 0))]) d_X12_init_137 rfl (by decide) (by decide) rfl ?_
  refine x_iinc (x := 8) (y := 9) (ls' := [some (.ref (q0 + 0)), some (vi 9)]) d_X12_init_138 rfl rfl rfl rfl ?_
  refine x_goto d_X12_init_141 ?_
  refine x_iload_n (x := 9) d_X12_init_121 rfl ?_
  refine x_bipush d_X12_init_122 rfl ?_
  refine x_geN d_X12_init_124 rfl rfl rfl ?_
  refine x_aload_n d_X12_init_127 rfl ?_
  refine x_get (i := 0) (j := 0) (v := .ref (q0 + 1)) d_X12_init_128 fi_12_7 rfl rfl ?_
  refine x_bipush d_X12_init_131 rfl ?_
  refine x_iload_n (x := 9) d_X12_init_133 rfl ?_
  refine x_iadd (z := 94) d_X12_init_134 rfl ?_
  refine x_bipush d_X12_init_135 rfl ?_
  refine x_iast (i := 1) (N := 1732) (f := ar12_9) (L' := [.inr (12, [.ref (q0 + 1), .ref (q0 + 2), .ref (q0 + 3), .ref (q0 + 4), .int 0, .int 0, .ref (q0 + 5), .ref (q0 + 6), .ref (q0 + 7), .ref (q0 + 8), .ref (q0 + 9), .ref (q0 + 10), .int 0, .int 0, .int 0, .int 0, .int 0, .int 0, .int 0, .int 0, .int 0, .int 0, .int 0, .int 0, .int 0, vi (-1), .int 0, .ref (q0 + 11), .ref (q0 + 12), .ref (q0 + 13)]), .inl (κ.2.2.1.1, 1732, .inl ar12_10), .inl (κ.2.2.1.1, 1732, .inl (fun _ => 0)), .inl (κ.2.2.1.1, 342, .inl (fun _ => 0)), .inl (κ.2.2.1.1, 57, .inl (fun _ => 0)), .inl (κ.2.2.1.1, 64, .inl (fun _ => 0)), .inl (κ.2.2.1.1, 820, .inl (fun _ => 0)), .inl (κ.2.2.1.1, 64, .inl (fun _ => 0)), .inl (κ.2.2.1.1, 400, .inl (fun _ => 0)), .inl (κ.2.2.1.1, 420, .inl (fun _ => 0)), .inl (κ.2.2.1.1, 11, .inl (fun _ => 0)), .inl (κ.2.2.1.1, 10, .inl (fun _ => 0)), .inl (κ.2.2.1.1, 10, .inl (fun _ => 0)), .inl (κ.2.2.1.1, 30, .inl (fun _ => 0))]) d_X12_init_137 rfl (by decide) (by decide) rfl ?_
  refine x_iinc (x := 9) (y := 10) (ls' := [some (.ref (q0 + 0)), some (vi 10)]) d_X12_init_138 rfl rfl rfl rfl ?_
  refine x_goto d_X12_init_141 ?_
  refine x_iload_n (x := 10) d_X12_init_121 rfl ?_
  refine x_bipush d_X12_init_122 rfl ?_
  refine x_geN d_X12_init_124 rfl rfl rfl ?_
  refine x_aload_n d_X12_init_127 rfl ?_
  refine x_get (i := 0) (j := 0) (v := .ref (q0 + 1)) d_X12_init_128 fi_12_7 rfl rfl ?_
  refine x_bipush d_X12_init_131 rfl ?_
  refine x_iload_n (x := 10) d_X12_init_133 rfl ?_
  refine x_iadd (z := 95) d_X12_init_134 rfl ?_
  refine x_bipush d_X12_init_135 rfl ?_
  refine x_iast (i := 1) (N := 1732) (f := ar12_10) (L' := [.inr (12, [.ref (q0 + 1), .ref (q0 + 2), .ref (q0 + 3), .ref (q0 + 4), .int 0, .int 0, .ref (q0 + 5), .ref (q0 + 6), .ref (q0 + 7), .ref (q0 + 8), .ref (q0 + 9), .ref (q0 + 10), .int 0, .int 0, .int 0, .int 0, .int 0, .int 0, .int 0, .int 0, .int 0, .int 0, .int 0, .int 0, .int 0, vi (-1), .int 0, .ref (q0 + 11), .ref (q0 + 12), .ref (q0 + 13)]), .inl (κ.2.2.1.1, 1732, .inl ar12_11), .inl (κ.2.2.1.1, 1732, .inl (fun _ => 0)), .inl (κ.2.2.1.1, 342, .inl (fun _ => 0)), .inl (κ.2.2.1.1, 57, .inl (fun _ => 0)), .inl (κ.2.2.1.1, 64, .inl (fun _ => 0)), .inl (κ.2.2.1.1, 820, .inl (fun _ => 0)), .inl (κ.2.2.1.1, 64, .inl (fun _ => 0)), .inl (κ.2.2.1.1, 400, .inl (fun _ => 0)), .inl (κ.2.2.1.1, 420, .inl (fun _ => 0)), .inl (κ.2.2.1.1, 11, .inl (fun _ => 0)), .inl (κ.2.2.1.1, 10, .inl (fun _ => 0)), .inl (κ.2.2.1.1, 10, .inl (fun _ => 0)), .inl (κ.2.2.1.1, 30, .inl (fun _ => 0))]) d_X12_init_137 rfl (by decide) (by decide) rfl ?_
  refine x_iinc (x := 10) (y := 11) (ls' := [some (.ref (q0 + 0)), some (vi 11)]) d_X12_init_138 rfl rfl rfl rfl ?_
  refine x_goto d_X12_init_141 ?_
  refine x_iload_n (x := 11) d_X12_init_121 rfl ?_
  refine x_bipush d_X12_init_122 rfl ?_
  refine x_geN d_X12_init_124 rfl rfl rfl ?_
  refine x_aload_n d_X12_init_127 rfl ?_
  refine x_get (i := 0) (j := 0) (v := .ref (q0 + 1)) d_X12_init_128 fi_12_7 rfl rfl ?_
  refine x_bipush d_X12_init_131 rfl ?_
  refine x_iload_n (x := 11) d_X12_init_133 rfl ?_
  refine x_iadd (z := 96) d_X12_init_134 rfl ?_
  refine x_bipush d_X12_init_135 rfl ?_
  refine x_iast (i := 1) (N := 1732) (f := ar12_11) (L' := [.inr (12, [.ref (q0 + 1), .ref (q0 + 2), .ref (q0 + 3), .ref (q0 + 4), .int 0, .int 0, .ref (q0 + 5), .ref (q0 + 6), .ref (q0 + 7), .ref (q0 + 8), .ref (q0 + 9), .ref (q0 + 10), .int 0, .int 0, .int 0, .int 0, .int 0, .int 0, .int 0, .int 0, .int 0, .int 0, .int 0, .int 0, .int 0, vi (-1), .int 0, .ref (q0 + 11), .ref (q0 + 12), .ref (q0 + 13)]), .inl (κ.2.2.1.1, 1732, .inl ar12_12), .inl (κ.2.2.1.1, 1732, .inl (fun _ => 0)), .inl (κ.2.2.1.1, 342, .inl (fun _ => 0)), .inl (κ.2.2.1.1, 57, .inl (fun _ => 0)), .inl (κ.2.2.1.1, 64, .inl (fun _ => 0)), .inl (κ.2.2.1.1, 820, .inl (fun _ => 0)), .inl (κ.2.2.1.1, 64, .inl (fun _ => 0)), .inl (κ.2.2.1.1, 400, .inl (fun _ => 0)), .inl (κ.2.2.1.1, 420, .inl (fun _ => 0)), .inl (κ.2.2.1.1, 11, .inl (fun _ => 0)), .inl (κ.2.2.1.1, 10, .inl (fun _ => 0)), .inl (κ.2.2.1.1, 10, .inl (fun _ => 0)), .inl (κ.2.2.1.1, 30, .inl (fun _ => 0))]) d_X12_init_137 rfl (by decide) (by decide) rfl ?_
  refine x_iinc (x := 11) (y := 12) (ls' := [some (.ref (q0 + 0)), some (vi 12)]) d_X12_init_138 rfl rfl rfl rfl ?_
  refine x_goto d_X12_init_141 ?_
  refine x_iload_n (x := 12) d_X12_init_121 rfl ?_
  refine x_bipush d_X12_init_122 rfl ?_
  refine x_geN d_X12_init_124 rfl rfl rfl ?_
  refine x_aload_n d_X12_init_127 rfl ?_
  refine x_get (i := 0) (j := 0) (v := .ref (q0 + 1)) d_X12_init_128 fi_12_7 rfl rfl ?_
  refine x_bipush d_X12_init_131 rfl ?_
  refine x_iload_n (x := 12) d_X12_init_133 rfl ?_
  refine x_iadd (z := 97) d_X12_init_134 rfl ?_
  refine x_bipush d_X12_init_135 rfl ?_
  refine x_iast (i := 1) (N := 1732) (f := ar12_12) (L' := [.inr (12, [.ref (q0 + 1), .ref (q0 + 2), .ref (q0 + 3), .ref (q0 + 4), .int 0, .int 0, .ref (q0 + 5), .ref (q0 + 6), .ref (q0 + 7), .ref (q0 + 8), .ref (q0 + 9), .ref (q0 + 10), .int 0, .int 0, .int 0, .int 0, .int 0, .int 0, .int 0, .int 0, .int 0, .int 0, .int 0, .int 0, .int 0, vi (-1), .int 0, .ref (q0 + 11), .ref (q0 + 12), .ref (q0 + 13)]), .inl (κ.2.2.1.1, 1732, .inl ar12_13), .inl (κ.2.2.1.1, 1732, .inl (fun _ => 0)), .inl (κ.2.2.1.1, 342, .inl (fun _ => 0)), .inl (κ.2.2.1.1, 57, .inl (fun _ => 0)), .inl (κ.2.2.1.1, 64, .inl (fun _ => 0)), .inl (κ.2.2.1.1, 820, .inl (fun _ => 0)), .inl (κ.2.2.1.1, 64, .inl (fun _ => 0)), .inl (κ.2.2.1.1, 400, .inl (fun _ => 0)), .inl (κ.2.2.1.1, 420, .inl (fun _ => 0)), .inl (κ.2.2.1.1, 11, .inl (fun _ => 0)), .inl (κ.2.2.1.1, 10, .inl (fun _ => 0)), .inl (κ.2.2.1.1, 10, .inl (fun _ => 0)), .inl (κ.2.2.1.1, 30, .inl (fun _ => 0))]) d_X12_init_137 rfl (by decide) (by decide) rfl ?_
  refine x_iinc (x := 12) (y := 13) (ls' := [some (.ref (q0 + 0)), some (vi 13)]) d_X12_init_138 rfl rfl rfl rfl ?_
  refine x_goto d_X12_init_141 ?_
  refine x_iload_n (x := 13) d_X12_init_121 rfl ?_
  refine x_bipush d_X12_init_122 rfl ?_
  refine x_geN d_X12_init_124 rfl rfl rfl ?_
  refine x_aload_n d_X12_init_127 rfl ?_
  refine x_get (i := 0) (j := 0) (v := .ref (q0 + 1)) d_X12_init_128 fi_12_7 rfl rfl ?_
  refine x_bipush d_X12_init_131 rfl ?_
  refine x_iload_n (x := 13) d_X12_init_133 rfl ?_
  refine x_iadd (z := 98) d_X12_init_134 rfl ?_
  refine x_bipush d_X12_init_135 rfl ?_
  refine x_iast (i := 1) (N := 1732) (f := ar12_13) (L' := [.inr (12, [.ref (q0 + 1), .ref (q0 + 2), .ref (q0 + 3), .ref (q0 + 4), .int 0, .int 0, .ref (q0 + 5), .ref (q0 + 6), .ref (q0 + 7), .ref (q0 + 8), .ref (q0 + 9), .ref (q0 + 10), .int 0, .int 0, .int 0, .int 0, .int 0, .int 0, .int 0, .int 0, .int 0, .int 0, .int 0, .int 0, .int 0, vi (-1), .int 0, .ref (q0 + 11), .ref (q0 + 12), .ref (q0 + 13)]), .inl (κ.2.2.1.1, 1732, .inl ar12_14), .inl (κ.2.2.1.1, 1732, .inl (fun _ => 0)), .inl (κ.2.2.1.1, 342, .inl (fun _ => 0)), .inl (κ.2.2.1.1, 57, .inl (fun _ => 0)), .inl (κ.2.2.1.1, 64, .inl (fun _ => 0)), .inl (κ.2.2.1.1, 820, .inl (fun _ => 0)), .inl (κ.2.2.1.1, 64, .inl (fun _ => 0)), .inl (κ.2.2.1.1, 400, .inl (fun _ => 0)), .inl (κ.2.2.1.1, 420, .inl (fun _ => 0)), .inl (κ.2.2.1.1, 11, .inl (fun _ => 0)), .inl (κ.2.2.1.1, 10, .inl (fun _ => 0)), .inl (κ.2.2.1.1, 10, .inl (fun _ => 0)), .inl (κ.2.2.1.1, 30, .inl (fun _ => 0))]) d_X12_init_137 rfl (by decide) (by decide) rfl ?_
  refine x_iinc (x := 13) (y := 14) (ls' := [some (.ref (q0 + 0)), some (vi 14)]) d_X12_init_138 rfl rfl rfl rfl ?_
  refine x_goto d_X12_init_141 ?_
  refine x_iload_n (x := 14) d_X12_init_121 rfl ?_
  refine x_bipush d_X12_init_122 rfl ?_
  refine x_geN d_X12_init_124 rfl rfl rfl ?_
  refine x_aload_n d_X12_init_127 rfl ?_
  refine x_get (i := 0) (j := 0) (v := .ref (q0 + 1)) d_X12_init_128 fi_12_7 rfl rfl ?_
  refine x_bipush d_X12_init_131 rfl ?_
  refine x_iload_n (x := 14) d_X12_init_133 rfl ?_
  refine x_iadd (z := 99) d_X12_init_134 rfl ?_
  refine x_bipush d_X12_init_135 rfl ?_
  refine x_iast (i := 1) (N := 1732) (f := ar12_14) (L' := [.inr (12, [.ref (q0 + 1), .ref (q0 + 2), .ref (q0 + 3), .ref (q0 + 4), .int 0, .int 0, .ref (q0 + 5), .ref (q0 + 6), .ref (q0 + 7), .ref (q0 + 8), .ref (q0 + 9), .ref (q0 + 10), .int 0, .int 0, .int 0, .int 0, .int 0, .int 0, .int 0, .int 0, .int 0, .int 0, .int 0, .int 0, .int 0, vi (-1), .int 0, .ref (q0 + 11), .ref (q0 + 12), .ref (q0 + 13)]), .inl (κ.2.2.1.1, 1732, .inl ar12_15), .inl (κ.2.2.1.1, 1732, .inl (fun _ => 0)), .inl (κ.2.2.1.1, 342, .inl (fun _ => 0)), .inl (κ.2.2.1.1, 57, .inl (fun _ => 0)), .inl (κ.2.2.1.1, 64, .inl (fun _ => 0)), .inl (κ.2.2.1.1, 820, .inl (fun _ => 0)), .inl (κ.2.2.1.1, 64, .inl (fun _ => 0)), .inl (κ.2.2.1.1, 400, .inl (fun _ => 0)), .inl (κ.2.2.1.1, 420, .inl (fun _ => 0)), .inl (κ.2.2.1.1, 11, .inl (fun _ => 0)), .inl (κ.2.2.1.1, 10, .inl (fun _ => 0)), .inl (κ.2.2.1.1, 10, .inl (fun _ => 0)), .inl (κ.2.2.1.1, 30, .inl (fun _ => 0))]) d_X12_init_137 rfl (by decide) (by decide) rfl ?_
  refine x_iinc (x := 14) (y := 15) (ls' := [some (.ref (q0 + 0)), some (vi 15)]) d_X12_init_138 rfl rfl rfl rfl ?_
  refine x_goto d_X12_init_141 ?_
  refine x_iload_n (x := 15) d_X12_init_121 rfl ?_
  refine x_bipush d_X12_init_122 rfl ?_
  refine x_geN d_X12_init_124 rfl rfl rfl ?_
  refine x_aload_n d_X12_init_127 rfl ?_
  refine x_get (i := 0) (j := 0) (v := .ref (q0 + 1)) d_X12_init_128 fi_12_7 rfl rfl ?_
  refine x_bipush d_X12_init_131 rfl ?_
  refine x_iload_n (x := 15) d_X12_init_133 rfl ?_
  refine x_iadd (z := 100) d_X12_init_134 rfl ?_
  refine x_bipush d_X12_init_135 rfl ?_
  refine x_iast (i := 1) (N := 1732) (f := ar12_15) (L' := [.inr (12, [.ref (q0 + 1), .ref (q0 + 2), .ref (q0 + 3), .ref (q0 + 4), .int 0, .int 0, .ref (q0 + 5), .ref (q0 + 6), .ref (q0 + 7), .ref (q0 + 8), .ref (q0 + 9), .ref (q0 + 10), .int 0, .int 0, .int 0, .int 0, .int 0, .int 0, .int 0, .int 0, .int 0, .int 0, .int 0, .int 0, .int 0, vi (-1), .int 0, .ref (q0 + 11), .ref (q0 + 12), .ref (q0 + 13)]), .inl (κ.2.2.1.1, 1732, .inl ar12_16), .inl (κ.2.2.1.1, 1732, .inl (fun _ => 0)), .inl (κ.2.2.1.1, 342, .inl (fun _ => 0)), .inl (κ.2.2.1.1, 57, .inl (fun _ => 0)), .inl (κ.2.2.1.1, 64, .inl (fun _ => 0)), .inl (κ.2.2.1.1, 820, .inl (fun _ => 0)), .inl (κ.2.2.1.1, 64, .inl (fun _ => 0)), .inl (κ.2.2.1.1, 400, .inl (fun _ => 0)), .inl (κ.2.2.1.1, 420, .inl (fun _ => 0)), .inl (κ.2.2.1.1, 11, .inl (fun _ => 0)), .inl (κ.2.2.1.1, 10, .inl (fun _ => 0)), .inl (κ.2.2.1.1, 10, .inl (fun _ => 0)), .inl (κ.2.2.1.1, 30, .inl (fun _ => 0))]) d_X12_init_137 rfl (by decide) (by decide) rfl ?_
  refine x_iinc (x := 15) (y := 16) (ls' := [some (.ref (q0 + 0)), some (vi 16)]) d_X12_init_138 rfl rfl rfl rfl ?_
  refine x_goto d_X12_init_141 ?_
  refine x_iload_n (x := 16) d_X12_init_121 rfl ?_
  refine x_bipush d_X12_init_122 rfl ?_
  refine x_geY d_X12_init_124 rfl rfl rfl ?_
  refine x_aload_n d_X12_init_144 rfl ?_
  refine x_get (i := 0) (j := 0) (v := .ref (q0 + 1)) d_X12_init_145 fi_12_7 rfl rfl ?_
  refine x_iconst d_X12_init_148 ?_
  refine x_iconst d_X12_init_149 ?_
  refine x_iast (i := 1) (N := 1732) (f := ar12_16) (L' := [.inr (12, [.ref (q0 + 1), .ref (q0 + 2), .ref (q0 + 3), .ref (q0 + 4), .int 0, .int 0, .ref (q0 + 5), .ref (q0 + 6), .ref (q0 + 7), .ref (q0 + 8), .ref (q0 + 9), .ref (q0 + 10), .int 0, .int 0, .int 0, .int 0, .int 0, .int 0, .int 0, .int 0, .int 0, .int 0, .int 0, .int 0, .int 0, vi (-1), .int 0, .ref (q0 + 11), .ref (q0 + 12), .ref (q0 + 13)]), .inl (κ.2.2.1.1, 1732, .inl ar12_17), .inl (κ.2.2.1.1, 1732, .inl (fun _ => 0)), .inl (κ.2.2.1.1, 342, .inl (fun _ => 0)), .inl (κ.2.2.1.1, 57, .inl (fun _ => 0)), .inl (κ.2.2.1.1, 64, .inl (fun _ => 0)), .inl (κ.2.2.1.1, 820, .inl (fun _ => 0)), .inl (κ.2.2.1.1, 64, .inl (fun _ => 0)), .inl (κ.2.2.1.1, 400, .inl (fun _ => 0)), .inl (κ.2.2.1.1, 420, .inl (fun _ => 0)), .inl (κ.2.2.1.1, 11, .inl (fun _ => 0)), .inl (κ.2.2.1.1, 10, .inl (fun _ => 0)), .inl (κ.2.2.1.1, 10, .inl (fun _ => 0)), .inl (κ.2.2.1.1, 30, .inl (fun _ => 0))]) d_X12_init_150 rfl (by decide) (by decide) rfl ?_
  refine x_aload_n d_X12_init_151 rfl ?_
  refine x_get (i := 0) (j := 0) (v := .ref (q0 + 1)) d_X12_init_152 fi_12_7 rfl rfl ?_
  refine x_iconst d_X12_init_155 ?_
  refine x_iconst d_X12_init_156 ?_
  refine x_iast (i := 1) (N := 1732) (f := ar12_17) (L' := [.inr (12, [.ref (q0 + 1), .ref (q0 + 2), .ref (q0 + 3), .ref (q0 + 4), .int 0, .int 0, .ref (q0 + 5), .ref (q0 + 6), .ref (q0 + 7), .ref (q0 + 8), .ref (q0 + 9), .ref (q0 + 10), .int 0, .int 0, .int 0, .int 0, .int 0, .int 0, .int 0, .int 0, .int 0, .int 0, .int 0, .int 0, .int 0, vi (-1), .int 0, .ref (q0 + 11), .ref (q0 + 12), .ref (q0 + 13)]), .inl (κ.2.2.1.1, 1732, .inl ar12_18), .inl (κ.2.2.1.1, 1732, .inl (fun _ => 0)), .inl (κ.2.2.1.1, 342, .inl (fun _ => 0)), .inl (κ.2.2.1.1, 57, .inl (fun _ => 0)), .inl (κ.2.2.1.1, 64, .inl (fun _ => 0)), .inl (κ.2.2.1.1, 820, .inl (fun _ => 0)), .inl (κ.2.2.1.1, 64, .inl (fun _ => 0)), .inl (κ.2.2.1.1, 400, .inl (fun _ => 0)), .inl (κ.2.2.1.1, 420, .inl (fun _ => 0)), .inl (κ.2.2.1.1, 11, .inl (fun _ => 0)), .inl (κ.2.2.1.1, 10, .inl (fun _ => 0)), .inl (κ.2.2.1.1, 10, .inl (fun _ => 0)), .inl (κ.2.2.1.1, 30, .inl (fun _ => 0))]) d_X12_init_157 rfl (by decide) (by decide) rfl ?_
  refine x_same (i := 1) (N := 1732) (f := ar12_18) (g := fun j => Int32.ofInt (ini_w j)) (L' := [.inr (12, [.ref (q0 + 1), .ref (q0 + 2), .ref (q0 + 3), .ref (q0 + 4), .int 0, .int 0, .ref (q0 + 5), .ref (q0 + 6), .ref (q0 + 7), .ref (q0 + 8), .ref (q0 + 9), .ref (q0 + 10), .int 0, .int 0, .int 0, .int 0, .int 0, .int 0, .int 0, .int 0, .int 0, .int 0, .int 0, .int 0, .int 0, vi (-1), .int 0, .ref (q0 + 11), .ref (q0 + 12), .ref (q0 + 13)]), .inl (κ.2.2.1.1, 1732, .inl (fun j => Int32.ofInt (ini_w j))), .inl (κ.2.2.1.1, 1732, .inl (fun _ => 0)), .inl (κ.2.2.1.1, 342, .inl (fun _ => 0)), .inl (κ.2.2.1.1, 57, .inl (fun _ => 0)), .inl (κ.2.2.1.1, 64, .inl (fun _ => 0)), .inl (κ.2.2.1.1, 820, .inl (fun _ => 0)), .inl (κ.2.2.1.1, 64, .inl (fun _ => 0)), .inl (κ.2.2.1.1, 400, .inl (fun _ => 0)), .inl (κ.2.2.1.1, 420, .inl (fun _ => 0)), .inl (κ.2.2.1.1, 11, .inl (fun _ => 0)), .inl (κ.2.2.1.1, 10, .inl (fun _ => 0)), .inl (κ.2.2.1.1, 10, .inl (fun _ => 0)), .inl (κ.2.2.1.1, 30, .inl (fun _ => 0))]) rfl (by decide +kernel) rfl ?_
  exact x_ret d_X12_init_158 rfl rfl rfl rfl

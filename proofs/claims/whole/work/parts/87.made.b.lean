def Lo_5 (κ : Kp) (q : Nat) : List va_E := ((((((([.inr (5, [.ref (q + 1), .int 0, .int 0])] ++ [.inl (κ.2.2.1.2.1, 6, .inr (.inr (.inr (.inr (fun j => some (q + (1 + 1 + 9 * j)))))))]) ++ Lo_4 κ (q + 2)) ++ Lo_4 κ (q + 11)) ++ Lo_4 κ (q + 20)) ++ Lo_4 κ (q + 29)) ++ Lo_4 κ (q + 38)) ++ Lo_4 κ (q + 47))
theorem len_5 (κ : Kp) (q : Nat) : (Lo_5 κ q).length = 56 := by simp only [Lo_5, List.length_append, List.length_cons, List.length_nil, len_4]
def aq5_1 (q0 : Nat) : Nat → Option Nat := va_up (fun _ => none) 0 (some (q0 + 2))
def aq5_2 (q0 : Nat) : Nat → Option Nat := va_up (aq5_1 q0) 1 (some (q0 + 11))
def aq5_3 (q0 : Nat) : Nat → Option Nat := va_up (aq5_2 q0) 2 (some (q0 + 20))
def aq5_4 (q0 : Nat) : Nat → Option Nat := va_up (aq5_3 q0) 3 (some (q0 + 29))
def aq5_5 (q0 : Nat) : Nat → Option Nat := va_up (aq5_4 q0) 4 (some (q0 + 38))
def aq5_6 (q0 : Nat) : Nat → Option Nat := va_up (aq5_5 q0) 5 (some (q0 + 47))
abbrev R_X5_init : Room := { frames := 2, cells := 55, slots := 624, locals := 51 }
set_option maxHeartbeats 8000000 in
set_option maxRecDepth 20000 in
theorem c_X5_init (κ : Kp) (q0 : Nat) : CtC κ M_X5_init R_X5_init q0 (.inr (5, [.null, .int 0, .int 0])) (Lo_5 κ q0) := by
  refine CtC.of (by decide) rfl rfl (Nat.le_of_ble_eq_true rfl) ?_
  refine x_ls (ls' := [some (.ref q0), none]) ⟨rfl, trivial⟩ ?_
  show EC κ M_X5_init R_X5_init q0 0 [some (.ref (q0 + 0)), none] [] _ 0 0 _
  refine x_aload_n d_X5_init_0 rfl ?_
  refine x_obj d_X5_init_1 ml_5_3 ow_1 ⟨by decide, Nat.le_of_ble_eq_true rfl⟩ ?_
  refine x_aload_n d_X5_init_4 rfl ?_
  refine x_bipush d_X5_init_5 rfl ?_
  refine x_anew (N := 6) (i := 1) (L' := ([.inr (5, [.null, .int 0, .int 0])] ++ [.inl (κ.2.2.1.2.1, 6, .inr (.inr (.inr (.inr (fun _ => none)))))])) d_X5_init_7 cl_5_9 rfl rfl rfl rfl (by simp only [List.length_append, List.length_cons, List.length_nil, len_4]) rfl ?_
  refine x_putF (i := 0) (j := 0) (L' := ([.inr (5, [.ref (q0 + 1), .int 0, .int 0])] ++ [.inl (κ.2.2.1.2.1, 6, .inr (.inr (.inr (.inr (fun _ => none)))))])) d_X5_init_10 ff_5_11 rfl rfl rfl (Nat.le_of_ble_eq_true rfl) rfl ?_
  refine x_iconst d_X5_init_13 ?_
  refine x_istore_n (ls' := [some (.ref (q0 + 0)), some (vi 0)]) d_X5_init_14 rfl rfl ?_
  refine x_iload_n (x := 0) d_X5_init_15 rfl ?_
  refine x_bipush d_X5_init_16 rfl ?_
  refine x_geN d_X5_init_18 rfl rfl rfl ?_
  refine x_aload_n d_X5_init_21 rfl ?_
  refine x_get (i := 0) (j := 0) (v := .ref (q0 + 1)) d_X5_init_22 fi_5_11 rfl rfl ?_
  refine x_iload_n (x := 0) d_X5_init_25 rfl ?_
  refine x_new (ci := 4) (dn := 17) (i := 2) (C := RX4) (fs := [.null, .null, .null, .null, .null, .null, .null, .null, .int 0, .int 0, .int 0, .int 0, .int 0, .int 0, .int 0, .int 0, .int 0]) d_X5_init_26 cl_5_9 nw_4 nq_4 rfl rfl (by simp only [List.length_append, List.length_cons, List.length_nil, len_4]) ?_
  refine x_dup d_X5_init_29 rfl ?_
  refine x_call (R' := R_X4_init) (i := 2) (Lc := Lo_4 κ (q0 + 2)) d_X5_init_30 cw_X4_init ml_5_17 im_X4_init rfl rfl (c_X4_init κ (q0 + 2)) ⟨rfl, rfl⟩ (Nat.le_of_ble_eq_true rfl) ⟨rfl, rfl⟩ (by simp only [List.length_append, List.length_cons, List.length_nil, len_4]) ?_
  refine x_aast (ci := 4) (i := 1) (iv := 2) (N := 6) (f := (fun _ => none)) (L' := (([.inr (5, [.ref (q0 + 1), .int 0, .int 0])] ++ [.inl (κ.2.2.1.2.1, 6, .inr (.inr (.inr (.inr (aq5_1 q0)))))]) ++ Lo_4 κ (q0 + 2))) d_X5_init_33 rfl rfl (by decide) (by decide) rfl ?_
  refine x_iinc (x := 0) (y := 1) (ls' := [some (.ref (q0 + 0)), some (vi 1)]) d_X5_init_34 rfl rfl rfl rfl ?_
  refine x_goto d_X5_init_37 ?_
  refine x_iload_n (x := 1) d_X5_init_15 rfl ?_
  refine x_bipush d_X5_init_16 rfl ?_
  refine x_geN d_X5_init_18 rfl rfl rfl ?_
  refine x_aload_n d_X5_init_21 rfl ?_
  refine x_get (i := 0) (j := 0) (v := .ref (q0 + 1)) d_X5_init_22 fi_5_11 rfl rfl ?_
  refine x_iload_n (x := 1) d_X5_init_25 rfl ?_
  refine x_new (ci := 4) (dn := 17) (i := 11) (C := RX4) (fs := [.null, .null, .null, .null, .null, .null, .null, .null, .int 0, .int 0, .int 0, .int 0, .int 0, .int 0, .int 0, .int 0, .int 0]) d_X5_init_26 cl_5_9 nw_4 nq_4 rfl rfl (by simp only [List.length_append, List.length_cons, List.length_nil, len_4]) ?_
  refine x_dup d_X5_init_29 rfl ?_
  refine x_call (R' := R_X4_init) (i := 11) (Lc := Lo_4 κ (q0 + 11)) d_X5_init_30 cw_X4_init ml_5_17 im_X4_init rfl rfl (c_X4_init κ (q0 + 11)) ⟨rfl, rfl⟩ (Nat.le_of_ble_eq_true rfl) ⟨rfl, rfl⟩ (by simp only [List.length_append, List.length_cons, List.length_nil, len_4]) ?_
  refine x_aast (ci := 4) (i := 1) (iv := 11) (N := 6) (f := (aq5_1 q0)) (L' := ((([.inr (5, [.ref (q0 + 1), .int 0, .int 0])] ++ [.inl (κ.2.2.1.2.1, 6, .inr (.inr (.inr (.inr (aq5_2 q0)))))]) ++ Lo_4 κ (q0 + 2)) ++ Lo_4 κ (q0 + 11))) d_X5_init_33 rfl rfl (by decide) (by decide) rfl ?_
  refine x_iinc (x := 1) (y := 2) (ls' := [some (.ref (q0 + 0)), some (vi 2)]) d_X5_init_34 rfl rfl rfl rfl ?_
  refine x_goto d_X5_init_37 ?_
  refine x_iload_n (x := 2) d_X5_init_15 rfl ?_
  refine x_bipush d_X5_init_16 rfl ?_
  refine x_geN d_X5_init_18 rfl rfl rfl ?_
  refine x_aload_n d_X5_init_21 rfl ?_
  refine x_get (i := 0) (j := 0) (v := .ref (q0 + 1)) d_X5_init_22 fi_5_11 rfl rfl ?_
  refine x_iload_n (x := 2) d_X5_init_25 rfl ?_
  refine x_new (ci := 4) (dn := 17) (i := 20) (C := RX4) (fs := [.null, .null, .null, .null, .null, .null, .null, .null, .int 0, .int 0, .int 0, .int 0, .int 0, .int 0, .int 0, .int 0, .int 0]) d_X5_init_26 cl_5_9 nw_4 nq_4 rfl rfl (by simp only [List.length_append, List.length_cons, List.length_nil, len_4]) ?_
  refine x_dup d_X5_init_29 rfl ?_
  refine x_call (R' := R_X4_init) (i := 20) (Lc := Lo_4 κ (q0 + 20)) d_X5_init_30 cw_X4_init ml_5_17 im_X4_init rfl rfl (c_X4_init κ (q0 + 20)) ⟨rfl, rfl⟩ (Nat.le_of_ble_eq_true rfl) ⟨rfl, rfl⟩ (by simp only [List.length_append, List.length_cons, List.length_nil, len_4]) ?_
  refine x_aast (ci := 4) (i := 1) (iv := 20) (N := 6) (f := (aq5_2 q0)) (L' := (((([.inr (5, [.ref (q0 + 1), .int 0, .int 0])] ++ [.inl (κ.2.2.1.2.1, 6, .inr (.inr (.inr (.inr (aq5_3 q0)))))]) ++ Lo_4 κ (q0 + 2)) ++ Lo_4 κ (q0 + 11)) ++ Lo_4 κ (q0 + 20))) d_X5_init_33 rfl rfl (by decide) (by decide) rfl ?_
  refine x_iinc (x := 2) (y := 3) (ls' := [some (.ref (q0 + 0)), some (vi 3)]) d_X5_init_34 rfl rfl rfl rfl ?_
  refine x_goto d_X5_init_37 ?_
  refine x_iload_n (x := 3) d_X5_init_15 rfl ?_
  refine x_bipush d_X5_init_16 rfl ?_
  refine x_geN d_X5_init_18 rfl rfl rfl ?_
  refine x_aload_n d_X5_init_21 rfl ?_
  refine x_get (i := 0) (j := 0) (v := .ref (q0 + 1)) d_X5_init_22 fi_5_11 rfl rfl ?_
  refine x_iload_n (x := 3) d_X5_init_25 rfl ?_
  refine x_new (ci := 4) (dn := 17) (i := 29) (C := RX4) (fs := [.null, .null, .null, .null, .null, .null, .null, .null, .int 0, .int 0, .int 0, .int 0, .int 0, .int 0, .int 0, .int 0, .int 0]) d_X5_init_26 cl_5_9 nw_4 nq_4 rfl rfl (by simp only [List.length_append, List.length_cons, List.length_nil, len_4]) ?_
  refine x_dup d_X5_init_29 rfl ?_
  refine x_call (R' := R_X4_init) (i := 29) (Lc := Lo_4 κ (q0 + 29)) d_X5_init_30 cw_X4_init ml_5_17 im_X4_init rfl rfl (c_X4_init κ (q0 + 29)) ⟨rfl, rfl⟩ (Nat.le_of_ble_eq_true rfl) ⟨rfl, rfl⟩ (by simp only [List.length_append, List.length_cons, List.length_nil, len_4]) ?_
  refine x_aast (ci := 4) (i := 1) (iv := 29) (N := 6) (f := (aq5_3 q0)) (L' := ((((([.inr (5, [.ref (q0 + 1), .int 0, .int 0])] ++ [.inl (κ.2.2.1.2.1, 6, .inr (.inr (.inr (.inr (aq5_4 q0)))))]) ++ Lo_4 κ (q0 + 2)) ++ Lo_4 κ (q0 + 11)) ++ Lo_4 κ (q0 + 20)) ++ Lo_4 κ (q0 + 29))) d_X5_init_33 rfl rfl (by decide) (by decide) rfl ?_
  refine x_iinc (x := 3) (y := 4) (ls' := [some (.ref (q0 + 0)), some (vi 4)]) d_X5_init_34 rfl rfl rfl rfl ?_
  refine x_goto d_X5_init_37 ?_
  refine x_iload_n (x := 4) d_X5_init_15 rfl ?_
  refine x_bipush d_X5_init_16 rfl ?_
  refine x_geN d_X5_init_18 rfl rfl rfl ?_
  refine x_aload_n d_X5_init_21 rfl ?_
  refine x_get (i := 0) (j := 0) (v := .ref (q0 + 1)) d_X5_init_22 fi_5_11 rfl rfl ?_
  refine x_iload_n (x := 4) d_X5_init_25 rfl ?_
  refine x_new (ci := 4) (dn := 17) (i := 38) (C := RX4) (fs := [.null, .null, .null, .null, .null, .null, .null, .null, .int 0, .int 0, .int 0, .int 0, .int 0, .int 0, .int 0, .int 0, .int 0]) d_X5_init_26 cl_5_9 nw_4 nq_4 rfl rfl (by simp only [List.length_append, List.length_cons, List.length_nil, len_4]) ?_
  refine x_dup d_X5_init_29 rfl ?_
  refine x_call (R' := R_X4_init) (i := 38) (Lc := Lo_4 κ (q0 + 38)) d_X5_init_30 cw_X4_init ml_5_17 im_X4_init rfl rfl (c_X4_init κ (q0 + 38)) ⟨rfl, rfl⟩ (Nat.le_of_ble_eq_true rfl) ⟨rfl, rfl⟩ (by simp only [List.length_append, List.length_cons, List.length_nil, len_4]) ?_
  refine x_aast (ci := 4) (i := 1) (iv := 38) (N := 6) (f := (aq5_4 q0)) (L' := (((((([.inr (5, [.ref (q0 + 1), .int 0, .int 0])] ++ [.inl (κ.2.2.1.2.1, 6, .inr (.inr (.inr (.inr (aq5_5 q0)))))]) ++ Lo_4 κ (q0 + 2)) ++ Lo_4 κ (q0 + 11)) ++ Lo_4 κ (q0 + 20)) ++ Lo_4 κ (q0 + 29)) ++ Lo_4 κ (q0 + 38))) d_X5_init_33 rfl rfl (by decide) (by decide) rfl ?_
  refine x_iinc (x := 4) (y := 5) (ls' := [some (.ref (q0 + 0)), some (vi 5)]) d_X5_init_34 rfl rfl rfl rfl ?_
  refine x_goto d_X5_init_37 ?_
  refine x_iload_n (x := 5) d_X5_init_15 rfl ?_
  refine x_bipush d_X5_init_16 rfl ?_
  refine x_geN d_X5_init_18 rfl rfl rfl ?_
  refine x_aload_n d_X5_init_21 rfl ?_
  refine x_get (i := 0) (j := 0) (v := .ref (q0 + 1)) d_X5_init_22 fi_5_11 rfl rfl ?_
  refine x_iload_n (x := 5) d_X5_init_25 rfl ?_
  refine x_new (ci := 4) (dn := 17) (i := 47) (C := RX4) (fs := [.null, .null, .null, .null, .null, .null, .null, .null, .int 0, .int 0, .int 0, .int 0, .int 0, .int 0, .int 0, .int 0, .int 0]) d_X5_init_26 cl_5_9 nw_4 nq_4 rfl rfl (by simp only [List.length_append, List.length_cons, List.length_nil, len_4]) ?_
  refine x_dup d_X5_init_29 rfl ?_
  refine x_call (R' := R_X4_init) (i := 47) (Lc := Lo_4 κ (q0 + 47)) d_X5_init_30 cw_X4_init ml_5_17 im_X4_init rfl rfl (c_X4_init κ (q0 + 47)) ⟨rfl, rfl⟩ (Nat.le_of_ble_eq_true rfl) ⟨rfl, rfl⟩ (by simp only [List.length_append, List.length_cons, List.length_nil, len_4]) ?_
  refine x_aast (ci := 4) (i := 1) (iv := 47) (N := 6) (f := (aq5_5 q0)) (L' := ((((((([.inr (5, [.ref (q0 + 1), .int 0, .int 0])] ++ [.inl (κ.2.2.1.2.1, 6, .inr (.inr (.inr (.inr (aq5_6 q0)))))]) ++ Lo_4 κ (q0 + 2)) ++ Lo_4 κ (q0 + 11)) ++ Lo_4 κ (q0 + 20)) ++ Lo_4 κ (q0 + 29)) ++ Lo_4 κ (q0 + 38)) ++ Lo_4 κ (q0 + 47))) d_X5_init_33 rfl rfl (by decide) (by decide) rfl ?_
  refine x_iinc (x := 5) (y := 6) (ls' := [some (.ref (q0 + 0)), some (vi 6)]) d_X5_init_34 rfl rfl rfl rfl ?_
  refine x_goto d_X5_init_37 ?_
  refine x_iload_n (x := 6) d_X5_init_15 rfl ?_
  refine x_bipush d_X5_init_16 rfl ?_
  refine x_geY d_X5_init_18 rfl rfl rfl ?_
  refine x_sameq (i := 1) (N := 6) (f := aq5_6 q0) (L' := ((((((([.inr (5, [.ref (q0 + 1), .int 0, .int 0])] ++ [.inl (κ.2.2.1.2.1, 6, .inr (.inr (.inr (.inr (fun j => some (q0 + (1 + 1 + 9 * j)))))))]) ++ Lo_4 κ (q0 + 2)) ++ Lo_4 κ (q0 + 11)) ++ Lo_4 κ (q0 + 20)) ++ Lo_4 κ (q0 + 29)) ++ Lo_4 κ (q0 + 38)) ++ Lo_4 κ (q0 + 47))) (g := fun j => some (q0 + (1 + 1 + 9 * j))) rfl (by
    intro j hj
    rcases (show j = 0 ∨ j = 1 ∨ j = 2 ∨ j = 3 ∨ j = 4 ∨ j = 5 by omega) with rfl | rfl | rfl | rfl | rfl | rfl <;> rfl) rfl ?_
  exact x_ret d_X5_init_40 rfl rfl rfl rfl
def Lo_7 (κ : Kp) (q : Nat) : List va_E := ((((((((([.inr (7, [.ref (q + 1), .ref (q + 8), .ref (q + 11), .ref (q + 16), .int 0, .int 0, vi (-1), .ref (q + 20), .ref (q + 21), .ref (q + 22), .ref (q + 23), .int 0, .int 0, .int 0, .ref (q + 24), .int 0, .int 0, .int 0])] ++ Lo_2 κ (q + 1)) ++ Lo_1 κ (q + 8)) ++ Lo_6 κ (q + 11)) ++ Lo_9 κ (q + 16)) ++ [.inl (κ.2.2.1.1, 400, .inl (fun _ => 0))]) ++ [.inl (κ.2.2.1.1, 401, .inl (fun _ => 0))]) ++ [.inl (κ.2.2.1.1, 401, .inl (fun _ => 0))]) ++ [.inl (κ.2.2.1.1, 401, .inl (fun _ => 0))]) ++ [.inl (κ.2.2.1.1, 32, .inl (fun _ => 0))])
theorem len_7 (κ : Kp) (q : Nat) : (Lo_7 κ q).length = 25 := by simp only [Lo_7, List.length_append, List.length_cons, List.length_nil, len_1, len_2, len_6, len_9]
abbrev R_X7_init : Room := { frames := 2, cells := 24, slots := 2277, locals := 50 }
set_option maxHeartbeats 8000000 in
set_option maxRecDepth 20000 in
theorem c_X7_init (κ : Kp) (q0 : Nat) : CtC κ M_X7_init R_X7_init q0 (.inr (7, [.null, .null, .null, .null, .int 0, .int 0, .int 0, .null, .null, .null, .null, .int 0, .int 0, .int 0, .null, .int 0, .int 0, .int 0])) (Lo_7 κ q0) := by
  refine CtC.of (by decide) rfl rfl (Nat.le_of_ble_eq_true rfl) ?_
  refine x_ls (ls' := [some (.ref q0)]) ⟨rfl, trivial⟩ ?_
  show EC κ M_X7_init R_X7_init q0 0 [some (.ref (q0 + 0))] [] _ 0 0 _
  refine x_aload_n d_X7_init_0 rfl ?_
  refine x_obj d_X7_init_1 ml_7_3 ow_1 ⟨by decide, Nat.le_of_ble_eq_true rfl⟩ ?_
  refine x_aload_n d_X7_init_4 rfl ?_
  refine x_new (ci := 2) (dn := 8) (i := 1) (C := RX2) (fs := [.null, .null, .null, .null, .int 0, .int 0, .null, .null]) d_X7_init_5 cl_7_9 nw_2 nq_2 rfl rfl (by simp only [List.length_append, List.length_cons, List.length_nil, len_1, len_2, len_6, len_9]) ?_
  refine x_dup d_X7_init_8 rfl ?_
  refine x_callN (R' := R_X2_init) (i := 1) (Lc := Lo_2 κ (q0 + 1)) d_X7_init_9 cw_X2_init ml_7_11 im_X2_init rfl rfl (c_X2_init κ (q0 + 1)) ⟨rfl, rfl⟩ (Nat.le_of_ble_eq_true rfl) ⟨rfl, rfl⟩ (by simp only [List.length_append, List.length_cons, List.length_nil, len_1, len_2, len_6, len_9]) ?_
  refine x_putF (i := 0) (j := 0) (L' := ([.inr (7, [.ref (q0 + 1), .null, .null, .null, .int 0, .int 0, .int 0, .null, .null, .null, .null, .int 0, .int 0, .int 0, .null, .int 0, .int 0, .int 0])] ++ Lo_2 κ (q0 + 1))) d_X7_init_12 ff_7_12 rfl rfl rfl (Nat.le_of_ble_eq_true rfl) rfl ?_
  refine x_aload_n d_X7_init_15 rfl ?_
  refine x_new (ci := 1) (dn := 3) (i := 8) (C := RX1) (fs := [.null, .null, .int 0]) d_X7_init_16 cl_7_18 nw_1 nq_1 rfl rfl (by simp only [List.length_append, List.length_cons, List.length_nil, len_1, len_2, len_6, len_9]) ?_
  refine x_dup d_X7_init_19 rfl ?_
  refine x_callN (R' := R_X1_init) (i := 8) (Lc := Lo_1 κ (q0 + 8)) d_X7_init_20 cw_X1_init ml_7_20 im_X1_init rfl rfl (c_X1_init κ (q0 + 8)) ⟨rfl, rfl⟩ (Nat.le_of_ble_eq_true rfl) ⟨rfl, rfl⟩ (by simp only [List.length_append, List.length_cons, List.length_nil, len_1, len_2, len_6, len_9]) ?_
  refine x_putF (i := 0) (j := 1) (L' := (([.inr (7, [.ref (q0 + 1), .ref (q0 + 8), .null, .null, .int 0, .int 0, .int 0, .null, .null, .null, .null, .int 0, .int 0, .int 0, .null, .int 0, .int 0, .int 0])] ++ Lo_2 κ (q0 + 1)) ++ Lo_1 κ (q0 + 8))) d_X7_init_23 ff_7_21 rfl rfl rfl (Nat.le_of_ble_eq_true rfl) rfl ?_
  refine x_aload_n d_X7_init_26 rfl ?_
  refine x_new (ci := 6) (dn := 5) (i := 11) (C := RX6) (fs := [.null, .null, .null, .null, .int 0]) d_X7_init_27 cl_7_25 nw_6 nq_6 rfl rfl (by simp only [List.length_append, List.length_cons, List.length_nil, len_1, len_2, len_6, len_9]) ?_
  refine x_dup d_X7_init_30 rfl ?_
  refine x_callN (R' := R_X6_init) (i := 11) (Lc := Lo_6 κ (q0 + 11)) d_X7_init_31 cw_X6_init ml_7_27 im_X6_init rfl rfl (c_X6_init κ (q0 + 11)) ⟨rfl, rfl⟩ (Nat.le_of_ble_eq_true rfl) ⟨rfl, rfl⟩ (by simp only [List.length_append, List.length_cons, List.length_nil, len_1, len_2, len_6, len_9]) ?_
  refine x_putF (i := 0) (j := 2) (L' := ((([.inr (7, [.ref (q0 + 1), .ref (q0 + 8), .ref (q0 + 11), .null, .int 0, .int 0, .int 0, .null, .null, .null, .null, .int 0, .int 0, .int 0, .null, .int 0, .int 0, .int 0])] ++ Lo_2 κ (q0 + 1)) ++ Lo_1 κ (q0 + 8)) ++ Lo_6 κ (q0 + 11))) d_X7_init_34 ff_7_28 rfl rfl rfl (Nat.le_of_ble_eq_true rfl) rfl ?_
  refine x_aload_n d_X7_init_37 rfl ?_
  refine x_new (ci := 9) (dn := 4) (i := 16) (C := RX9) (fs := [.null, .null, .null, .int 0]) d_X7_init_38 cl_7_32 nw_9 nq_9 rfl rfl (by simp only [List.length_append, List.length_cons, List.length_nil, len_1, len_2, len_6, len_9]) ?_
  refine x_dup d_X7_init_41 rfl ?_
  refine x_callN (R' := R_X9_init) (i := 16) (Lc := Lo_9 κ (q0 + 16)) d_X7_init_42 cw_X9_init ml_7_34 im_X9_init rfl rfl (c_X9_init κ (q0 + 16)) ⟨rfl, rfl⟩ (Nat.le_of_ble_eq_true rfl) ⟨rfl, rfl⟩ (by simp only [List.length_append, List.length_cons, List.length_nil, len_1, len_2, len_6, len_9]) ?_
  refine x_putF (i := 0) (j := 3) (L' := (((([.inr (7, [.ref (q0 + 1), .ref (q0 + 8), .ref (q0 + 11), .ref (q0 + 16), .int 0, .int 0, .int 0, .null, .null, .null, .null, .int 0, .int 0, .int 0, .null, .int 0, .int 0, .int 0])] ++ Lo_2 κ (q0 + 1)) ++ Lo_1 κ (q0 + 8)) ++ Lo_6 κ (q0 + 11)) ++ Lo_9 κ (q0 + 16))) d_X7_init_45 ff_7_35 rfl rfl rfl (Nat.le_of_ble_eq_true rfl) rfl ?_
  refine x_aload_n d_X7_init_48 rfl ?_
  refine x_iconst d_X7_init_49 ?_
  refine x_put (i := 0) (j := 6) (L' := (((([.inr (7, [.ref (q0 + 1), .ref (q0 + 8), .ref (q0 + 11), .ref (q0 + 16), .int 0, .int 0, vi (-1), .null, .null, .null, .null, .int 0, .int 0, .int 0, .null, .int 0, .int 0, .int 0])] ++ Lo_2 κ (q0 + 1)) ++ Lo_1 κ (q0 + 8)) ++ Lo_6 κ (q0 + 11)) ++ Lo_9 κ (q0 + 16))) d_X7_init_50 fp_7_39 rfl rfl rfl (Nat.le_of_ble_eq_true rfl) rfl ?_
  refine x_aload_n d_X7_init_53 rfl ?_
  refine x_sipush d_X7_init_54 rfl ?_
  refine x_newa (N := 400) (i := 20) (L' := ((((([.inr (7, [.ref (q0 + 1), .ref (q0 + 8), .ref (q0 + 11), .ref (q0 + 16), .int 0, .int 0, vi (-1), .null, .null, .null, .null, .int 0, .int 0, .int 0, .null, .int 0, .int 0, .int 0])] ++ Lo_2 κ (q0 + 1)) ++ Lo_1 κ (q0 + 8)) ++ Lo_6 κ (q0 + 11)) ++ Lo_9 κ (q0 + 16)) ++ [.inl (κ.2.2.1.1, 400, .inl (fun _ => 0))])) d_X7_init_57 ow_2 rfl rfl rfl rfl (by simp only [List.length_append, List.length_cons, List.length_nil, len_1, len_2, len_6, len_9]) rfl ?_
  refine x_putF (i := 0) (j := 7) (L' := ((((([.inr (7, [.ref (q0 + 1), .ref (q0 + 8), .ref (q0 + 11), .ref (q0 + 16), .int 0, .int 0, vi (-1), .ref (q0 + 20), .null, .null, .null, .int 0, .int 0, .int 0, .null, .int 0, .int 0, .int 0])] ++ Lo_2 κ (q0 + 1)) ++ Lo_1 κ (q0 + 8)) ++ Lo_6 κ (q0 + 11)) ++ Lo_9 κ (q0 + 16)) ++ [.inl (κ.2.2.1.1, 400, .inl (fun _ => 0))])) d_X7_init_59 ff_7_43 rfl rfl rfl (Nat.le_of_ble_eq_true rfl) rfl ?_
  refine x_aload_n d_X7_init_62 rfl ?_
  refine x_sipush d_X7_init_63 rfl ?_
  refine x_newa (N := 401) (i := 21) (L' := (((((([.inr (7, [.ref (q0 + 1), .ref (q0 + 8), .ref (q0 + 11), .ref (q0 + 16), .int 0, .int 0, vi (-1), .ref (q0 + 20), .null, .null, .null, .int 0, .int 0, .int 0, .null, .int 0, .int 0, .int 0])] ++ Lo_2 κ (q0 + 1)) ++ Lo_1 κ (q0 + 8)) ++ Lo_6 κ (q0 + 11)) ++ Lo_9 κ (q0 + 16)) ++ [.inl (κ.2.2.1.1, 400, .inl (fun _ => 0))]) ++ [.inl (κ.2.2.1.1, 401, .inl (fun _ => 0))])) d_X7_init_66 ow_2 rfl rfl rfl rfl (by simp only [List.length_append, List.length_cons, List.length_nil, len_1, len_2, len_6, len_9]) rfl ?_
  refine x_putF (i := 0) (j := 8) (L' := (((((([.inr (7, [.ref (q0 + 1), .ref (q0 + 8), .ref (q0 + 11), .ref (q0 + 16), .int 0, .int 0, vi (-1), .ref (q0 + 20), .ref (q0 + 21), .null, .null, .int 0, .int 0, .int 0, .null, .int 0, .int 0, .int 0])] ++ Lo_2 κ (q0 + 1)) ++ Lo_1 κ (q0 + 8)) ++ Lo_6 κ (q0 + 11)) ++ Lo_9 κ (q0 + 16)) ++ [.inl (κ.2.2.1.1, 400, .inl (fun _ => 0))]) ++ [.inl (κ.2.2.1.1, 401, .inl (fun _ => 0))])) d_X7_init_68 ff_7_47 rfl rfl rfl (Nat.le_of_ble_eq_true rfl) rfl ?_
  refine x_aload_n d_X7_init_71 rfl ?_
  refine x_sipush d_X7_init_72 rfl ?_
  refine x_newa (N := 401) (i := 22) (L' := ((((((([.inr (7, [.ref (q0 + 1), .ref (q0 + 8), .ref (q0 + 11), .ref (q0 + 16), .int 0, .int 0, vi (-1), .ref (q0 + 20), .ref (q0 + 21), .null, .null, .int 0, .int 0, .int 0, .null, .int 0, .int 0, .int 0])] ++ Lo_2 κ (q0 + 1)) ++ Lo_1 κ (q0 + 8)) ++ Lo_6 κ (q0 + 11)) ++ Lo_9 κ (q0 + 16)) ++ [.inl (κ.2.2.1.1, 400, .inl (fun _ => 0))]) ++ [.inl (κ.2.2.1.1, 401, .inl (fun _ => 0))]) ++ [.inl (κ.2.2.1.1, 401, .inl (fun _ => 0))])) d_X7_init_75 ow_2 rfl rfl rfl rfl (by simp only [List.length_append, List.length_cons, List.length_nil, len_1, len_2, len_6, len_9]) rfl ?_
  refine x_putF (i := 0) (j := 9) (L' := ((((((([.inr (7, [.ref (q0 + 1), .ref (q0 + 8), .ref (q0 + 11), .ref (q0 + 16), .int 0, .int 0, vi (-1), .ref (q0 + 20), .ref (q0 + 21), .ref (q0 + 22), .null, .int 0, .int 0, .int 0, .null, .int 0, .int 0, .int 0])] ++ Lo_2 κ (q0 + 1)) ++ Lo_1 κ (q0 + 8)) ++ Lo_6 κ (q0 + 11)) ++ Lo_9 κ (q0 + 16)) ++ [.inl (κ.2.2.1.1, 400, .inl (fun _ => 0))]) ++ [.inl (κ.2.2.1.1, 401, .inl (fun _ => 0))]) ++ [.inl (κ.2.2.1.1, 401, .inl (fun _ => 0))])) d_X7_init_77 ff_7_50 rfl rfl rfl (Nat.le_of_ble_eq_true rfl) rfl ?_
  refine x_aload_n d_X7_init_80 rfl ?_
  refine x_sipush d_X7_init_81 rfl ?_
  refine x_newa (N := 401) (i := 23) (L' := (((((((([.inr (7, [.ref (q0 + 1), .ref (q0 + 8), .ref (q0 + 11), .ref (q0 + 16), .int 0, .int 0, vi (-1), .ref (q0 + 20), .ref (q0 + 21), .ref (q0 + 22), .null, .int 0, .int 0, .int 0, .null, .int 0, .int 0, .int 0])] ++ Lo_2 κ (q0 + 1)) ++ Lo_1 κ (q0 + 8)) ++ Lo_6 κ (q0 + 11)) ++ Lo_9 κ (q0 + 16)) ++ [.inl (κ.2.2.1.1, 400, .inl (fun _ => 0))]) ++ [.inl (κ.2.2.1.1, 401, .inl (fun _ => 0))]) ++ [.inl (κ.2.2.1.1, 401, .inl (fun _ => 0))]) ++ [.inl (κ.2.2.1.1, 401, .inl (fun _ => 0))])) d_X7_init_84 ow_2 rfl rfl rfl rfl (by simp only [List.length_append, List.length_cons, List.length_nil, len_1, len_2, len_6, len_9]) rfl ?_
  refine x_putF (i := 0) (j := 10) (L' := (((((((([.inr (7, [.ref (q0 + 1), .ref (q0 + 8), .ref (q0 + 11), .ref (q0 + 16), .int 0, .int 0, vi (-1), .ref (q0 + 20), .ref (q0 + 21), .ref (q0 + 22), .ref (q0 + 23), .int 0, .int 0, .int 0, .null, .int 0, .int 0, .int 0])] ++ Lo_2 κ (q0 + 1)) ++ Lo_1 κ (q0 + 8)) ++ Lo_6 κ (q0 + 11)) ++ Lo_9 κ (q0 + 16)) ++ [.inl (κ.2.2.1.1, 400, .inl (fun _ => 0))]) ++ [.inl (κ.2.2.1.1, 401, .inl (fun _ => 0))]) ++ [.inl (κ.2.2.1.1, 401, .inl (fun _ => 0))]) ++ [.inl (κ.2.2.1.1, 401, .inl (fun _ => 0))])) d_X7_init_86 ff_7_53 rfl rfl rfl (Nat.le_of_ble_eq_true rfl) rfl ?_
  refine x_aload_n d_X7_init_89 rfl ?_
  refine x_bipush d_X7_init_90 rfl ?_
  refine x_newa (N := 32) (i := 24) (L' := ((((((((([.inr (7, [.ref (q0 + 1), .ref (q0 + 8), .ref (q0 + 11), .ref (q0 + 16), .int 0, .int 0, vi (-1), .ref (q0 + 20), .ref (q0 + 21), .ref (q0 + 22), .ref (q0 + 23), .int 0, .int 0, .int 0, .null, .int 0, .int 0, .int 0])] ++ Lo_2 κ (q0 + 1)) ++ Lo_1 κ (q0 + 8)) ++ Lo_6 κ (q0 + 11)) ++ Lo_9 κ (q0 + 16)) ++ [.inl (κ.2.2.1.1, 400, .inl (fun _ => 0))]) ++ [.inl (κ.2.2.1.1, 401, .inl (fun _ => 0))]) ++ [.inl (κ.2.2.1.1, 401, .inl (fun _ => 0))]) ++ [.inl (κ.2.2.1.1, 401, .inl (fun _ => 0))]) ++ [.inl (κ.2.2.1.1, 32, .inl (fun _ => 0))])) d_X7_init_92 ow_2 rfl rfl rfl rfl (by simp only [List.length_append, List.length_cons, List.length_nil, len_1, len_2, len_6, len_9]) rfl ?_
  refine x_putF (i := 0) (j := 14) (L' := ((((((((([.inr (7, [.ref (q0 + 1), .ref (q0 + 8), .ref (q0 + 11), .ref (q0 + 16), .int 0, .int 0, vi (-1), .ref (q0 + 20), .ref (q0 + 21), .ref (q0 + 22), .ref (q0 + 23), .int 0, .int 0, .int 0, .ref (q0 + 24), .int 0, .int 0, .int 0])] ++ Lo_2 κ (q0 + 1)) ++ Lo_1 κ (q0 + 8)) ++ Lo_6 κ (q0 + 11)) ++ Lo_9 κ (q0 + 16)) ++ [.inl (κ.2.2.1.1, 400, .inl (fun _ => 0))]) ++ [.inl (κ.2.2.1.1, 401, .inl (fun _ => 0))]) ++ [.inl (κ.2.2.1.1, 401, .inl (fun _ => 0))]) ++ [.inl (κ.2.2.1.1, 401, .inl (fun _ => 0))]) ++ [.inl (κ.2.2.1.1, 32, .inl (fun _ => 0))])) d_X7_init_94 ff_7_56 rfl rfl rfl (Nat.le_of_ble_eq_true rfl) rfl ?_
  exact x_ret d_X7_init_97 rfl rfl rfl rfl
def Lo_10 (κ : Kp) (q : Nat) : List va_E := (((((((([.inr (10, [.ref (q + 1), .ref (q + 10), .ref (q + 11), .ref (q + 18), .ref (q + 21), .ref (q + 26), .ref (q + 30), .ref (q + 35)])] ++ Lo_4 κ (q + 1)) ++ [.inl (κ.2.2.1.1, 600, .inl (fun _ => 0))]) ++ Lo_2 κ (q + 11)) ++ Lo_1 κ (q + 18)) ++ Lo_6 κ (q + 21)) ++ Lo_9 κ (q + 26)) ++ Lo_0 κ (q + 30)) ++ Lo_3 κ (q + 35))
theorem len_10 (κ : Kp) (q : Nat) : (Lo_10 κ q).length = 38 := by simp only [Lo_10, List.length_append, List.length_cons, List.length_nil, len_0, len_1, len_2, len_3, len_4, len_6, len_9]
abbrev R_X10_init : Room := { frames := 2, cells := 37, slots := 2409, locals := 51 }
set_option maxHeartbeats 8000000 in
set_option maxRecDepth 20000 in
theorem c_X10_init (κ : Kp) (q0 : Nat) : CtC κ M_X10_init R_X10_init q0 (.inr (10, [.null, .null, .null, .null, .null, .null, .null, .null])) (Lo_10 κ q0) := by
  refine CtC.of (by decide) rfl rfl (Nat.le_of_ble_eq_true rfl) ?_
  refine x_ls (ls' := [some (.ref q0)]) ⟨rfl, trivial⟩ ?_
  show EC κ M_X10_init R_X10_init q0 0 [some (.ref (q0 + 0))] [] _ 0 0 _
  refine x_aload_n d_X10_init_0 rfl ?_
  refine x_obj d_X10_init_1 ml_10_3 ow_1 ⟨by decide, Nat.le_of_ble_eq_true rfl⟩ ?_
  refine x_aload_n d_X10_init_4 rfl ?_
  refine x_new (ci := 4) (dn := 17) (i := 1) (C := RX4) (fs := [.null, .null, .null, .null, .null, .null, .null, .null, .int 0, .int 0, .int 0, .int 0, .int 0, .int 0, .int 0, .int 0, .int 0]) d_X10_init_5 cl_10_9 nw_4 nq_4 rfl rfl (by simp only [List.length_append, List.length_cons, List.length_nil, len_0, len_1, len_2, len_3, len_4, len_6, len_9]) ?_
  refine x_dup d_X10_init_8 rfl ?_
  refine x_call (R' := R_X4_init) (i := 1) (Lc := Lo_4 κ (q0 + 1)) d_X10_init_9 cw_X4_init ml_10_11 im_X4_init rfl rfl (c_X4_init κ (q0 + 1)) ⟨rfl, rfl⟩ (Nat.le_of_ble_eq_true rfl) ⟨rfl, rfl⟩ (by simp only [List.length_append, List.length_cons, List.length_nil, len_0, len_1, len_2, len_3, len_4, len_6, len_9]) ?_
  refine x_putF (i := 0) (j := 0) (L' := ([.inr (10, [.ref (q0 + 1), .null, .null, .null, .null, .null, .null, .null])] ++ Lo_4 κ (q0 + 1))) d_X10_init_12 ff_10_12 rfl rfl rfl (Nat.le_of_ble_eq_true rfl) rfl ?_
  refine x_aload_n d_X10_init_15 rfl ?_
  refine x_sipush d_X10_init_16 rfl ?_
  refine x_newa (N := 600) (i := 10) (L' := (([.inr (10, [.ref (q0 + 1), .null, .null, .null, .null, .null, .null, .null])] ++ Lo_4 κ (q0 + 1)) ++ [.inl (κ.2.2.1.1, 600, .inl (fun _ => 0))])) d_X10_init_19 ow_2 rfl rfl rfl rfl (by simp only [List.length_append, List.length_cons, List.length_nil, len_0, len_1, len_2, len_3, len_4, len_6, len_9]) rfl ?_
  refine x_putF (i := 0) (j := 1) (L' := (([.inr (10, [.ref (q0 + 1), .ref (q0 + 10), .null, .null, .null, .null, .null, .null])] ++ Lo_4 κ (q0 + 1)) ++ [.inl (κ.2.2.1.1, 600, .inl (fun _ => 0))])) d_X10_init_21 ff_10_18 rfl rfl rfl (Nat.le_of_ble_eq_true rfl) rfl ?_
  refine x_aload_n d_X10_init_24 rfl ?_
  refine x_new (ci := 2) (dn := 8) (i := 11) (C := RX2) (fs := [.null, .null, .null, .null, .int 0, .int 0, .null, .null]) d_X10_init_25 cl_10_22 nw_2 nq_2 rfl rfl (by simp only [List.length_append, List.length_cons, List.length_nil, len_0, len_1, len_2, len_3, len_4, len_6, len_9]) ?_
  refine x_dup d_X10_init_28 rfl ?_
  refine x_callN (R' := R_X2_init) (i := 11) (Lc := Lo_2 κ (q0 + 11)) d_X10_init_29 cw_X2_init ml_10_24 im_X2_init rfl rfl (c_X2_init κ (q0 + 11)) ⟨rfl, rfl⟩ (Nat.le_of_ble_eq_true rfl) ⟨rfl, rfl⟩ (by simp only [List.length_append, List.length_cons, List.length_nil, len_0, len_1, len_2, len_3, len_4, len_6, len_9]) ?_
  refine x_putF (i := 0) (j := 2) (L' := ((([.inr (10, [.ref (q0 + 1), .ref (q0 + 10), .ref (q0 + 11), .null, .null, .null, .null, .null])] ++ Lo_4 κ (q0 + 1)) ++ [.inl (κ.2.2.1.1, 600, .inl (fun _ => 0))]) ++ Lo_2 κ (q0 + 11))) d_X10_init_32 ff_10_25 rfl rfl rfl (Nat.le_of_ble_eq_true rfl) rfl ?_
  refine x_aload_n d_X10_init_35 rfl ?_
  refine x_new (ci := 1) (dn := 3) (i := 18) (C := RX1) (fs := [.null, .null, .int 0]) d_X10_init_36 cl_10_29 nw_1 nq_1 rfl rfl (by simp only [List.length_append, List.length_cons, List.length_nil, len_0, len_1, len_2, len_3, len_4, len_6, len_9]) ?_
  refine x_dup d_X10_init_39 rfl ?_
  refine x_callN (R' := R_X1_init) (i := 18) (Lc := Lo_1 κ (q0 + 18)) d_X10_init_40 cw_X1_init ml_10_31 im_X1_init rfl rfl (c_X1_init κ (q0 + 18)) ⟨rfl, rfl⟩ (Nat.le_of_ble_eq_true rfl) ⟨rfl, rfl⟩ (by simp only [List.length_append, List.length_cons, List.length_nil, len_0, len_1, len_2, len_3, len_4, len_6, len_9]) ?_
  refine x_putF (i := 0) (j := 3) (L' := (((([.inr (10, [.ref (q0 + 1), .ref (q0 + 10), .ref (q0 + 11), .ref (q0 + 18), .null, .null, .null, .null])] ++ Lo_4 κ (q0 + 1)) ++ [.inl (κ.2.2.1.1, 600, .inl (fun _ => 0))]) ++ Lo_2 κ (q0 + 11)) ++ Lo_1 κ (q0 + 18))) d_X10_init_43 ff_10_32 rfl rfl rfl (Nat.le_of_ble_eq_true rfl) rfl ?_
  refine x_aload_n d_X10_init_46 rfl ?_
  refine x_new (ci := 6) (dn := 5) (i := 21) (C := RX6) (fs := [.null, .null, .null, .null, .int 0]) d_X10_init_47 cl_10_36 nw_6 nq_6 rfl rfl (by simp only [List.length_append, List.length_cons, List.length_nil, len_0, len_1, len_2, len_3, len_4, len_6, len_9]) ?_
  refine x_dup d_X10_init_50 rfl ?_
  refine x_callN (R' := R_X6_init) (i := 21) (Lc := Lo_6 κ (q0 + 21)) d_X10_init_51 cw_X6_init ml_10_38 im_X6_init rfl rfl (c_X6_init κ (q0 + 21)) ⟨rfl, rfl⟩ (Nat.le_of_ble_eq_true rfl) ⟨rfl, rfl⟩ (by simp only [List.length_append, List.length_cons, List.length_nil, len_0, len_1, len_2, len_3, len_4, len_6, len_9]) ?_
  refine x_putF (i := 0) (j := 4) (L' := ((((([.inr (10, [.ref (q0 + 1), .ref (q0 + 10), .ref (q0 + 11), .ref (q0 + 18), .ref (q0 + 21), .null, .null, .null])] ++ Lo_4 κ (q0 + 1)) ++ [.inl (κ.2.2.1.1, 600, .inl (fun _ => 0))]) ++ Lo_2 κ (q0 + 11)) ++ Lo_1 κ (q0 + 18)) ++ Lo_6 κ (q0 + 21))) d_X10_init_54 ff_10_39 rfl rfl rfl (Nat.le_of_ble_eq_true rfl) rfl ?_
  refine x_aload_n d_X10_init_57 rfl ?_
  refine x_new (ci := 9) (dn := 4) (i := 26) (C := RX9) (fs := [.null, .null, .null, .int 0]) d_X10_init_58 cl_10_43 nw_9 nq_9 rfl rfl (by simp only [List.length_append, List.length_cons, List.length_nil, len_0, len_1, len_2, len_3, len_4, len_6, len_9]) ?_
  refine x_dup d_X10_init_61 rfl ?_
  refine x_callN (R' := R_X9_init) (i := 26) (Lc := Lo_9 κ (q0 + 26)) d_X10_init_62 cw_X9_init ml_10_45 im_X9_init rfl rfl (c_X9_init κ (q0 + 26)) ⟨rfl, rfl⟩ (Nat.le_of_ble_eq_true rfl) ⟨rfl, rfl⟩ (by simp only [List.length_append, List.length_cons, List.length_nil, len_0, len_1, len_2, len_3, len_4, len_6, len_9]) ?_
  refine x_putF (i := 0) (j := 5) (L' := (((((([.inr (10, [.ref (q0 + 1), .ref (q0 + 10), .ref (q0 + 11), .ref (q0 + 18), .ref (q0 + 21), .ref (q0 + 26), .null, .null])] ++ Lo_4 κ (q0 + 1)) ++ [.inl (κ.2.2.1.1, 600, .inl (fun _ => 0))]) ++ Lo_2 κ (q0 + 11)) ++ Lo_1 κ (q0 + 18)) ++ Lo_6 κ (q0 + 21)) ++ Lo_9 κ (q0 + 26))) d_X10_init_65 ff_10_46 rfl rfl rfl (Nat.le_of_ble_eq_true rfl) rfl ?_
  refine x_aload_n d_X10_init_68 rfl ?_
  refine x_new (ci := 0) (dn := 5) (i := 30) (C := RX0) (fs := [.null, .null, .null, .null, .int 0]) d_X10_init_69 cl_10_50 nw_0 nq_0 rfl rfl (by simp only [List.length_append, List.length_cons, List.length_nil, len_0, len_1, len_2, len_3, len_4, len_6, len_9]) ?_
  refine x_dup d_X10_init_72 rfl ?_
  refine x_callN (R' := R_X0_init) (i := 30) (Lc := Lo_0 κ (q0 + 30)) d_X10_init_73 cw_X0_init ml_10_52 im_X0_init rfl rfl (c_X0_init κ (q0 + 30)) ⟨rfl, rfl⟩ (Nat.le_of_ble_eq_true rfl) ⟨rfl, rfl⟩ (by simp only [List.length_append, List.length_cons, List.length_nil, len_0, len_1, len_2, len_3, len_4, len_6, len_9]) ?_
  refine x_putF (i := 0) (j := 6) (L' := ((((((([.inr (10, [.ref (q0 + 1), .ref (q0 + 10), .ref (q0 + 11), .ref (q0 + 18), .ref (q0 + 21), .ref (q0 + 26), .ref (q0 + 30), .null])] ++ Lo_4 κ (q0 + 1)) ++ [.inl (κ.2.2.1.1, 600, .inl (fun _ => 0))]) ++ Lo_2 κ (q0 + 11)) ++ Lo_1 κ (q0 + 18)) ++ Lo_6 κ (q0 + 21)) ++ Lo_9 κ (q0 + 26)) ++ Lo_0 κ (q0 + 30))) d_X10_init_76 ff_10_53 rfl rfl rfl (Nat.le_of_ble_eq_true rfl) rfl ?_
  refine x_aload_n d_X10_init_79 rfl ?_
  refine x_new (ci := 3) (dn := 3) (i := 35) (C := RX3) (fs := [.null, .null, .int 0]) d_X10_init_80 cl_10_57 nw_3 nq_3 rfl rfl (by simp only [List.length_append, List.length_cons, List.length_nil, len_0, len_1, len_2, len_3, len_4, len_6, len_9]) ?_
  refine x_dup d_X10_init_83 rfl ?_
  refine x_callN (R' := R_X3_init) (i := 35) (Lc := Lo_3 κ (q0 + 35)) d_X10_init_84 cw_X3_init ml_10_59 im_X3_init rfl rfl (c_X3_init κ (q0 + 35)) ⟨rfl, rfl⟩ (Nat.le_of_ble_eq_true rfl) ⟨rfl, rfl⟩ (by simp only [List.length_append, List.length_cons, List.length_nil, len_0, len_1, len_2, len_3, len_4, len_6, len_9]) ?_
  refine x_putF (i := 0) (j := 7) (L' := (((((((([.inr (10, [.ref (q0 + 1), .ref (q0 + 10), .ref (q0 + 11), .ref (q0 + 18), .ref (q0 + 21), .ref (q0 + 26), .ref (q0 + 30), .ref (q0 + 35)])] ++ Lo_4 κ (q0 + 1)) ++ [.inl (κ.2.2.1.1, 600, .inl (fun _ => 0))]) ++ Lo_2 κ (q0 + 11)) ++ Lo_1 κ (q0 + 18)) ++ Lo_6 κ (q0 + 21)) ++ Lo_9 κ (q0 + 26)) ++ Lo_0 κ (q0 + 30)) ++ Lo_3 κ (q0 + 35))) d_X10_init_87 ff_10_60 rfl rfl rfl (Nat.le_of_ble_eq_true rfl) rfl ?_
  exact x_ret d_X10_init_90 rfl rfl rfl rfl

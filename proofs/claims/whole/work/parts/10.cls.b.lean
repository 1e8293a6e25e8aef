abbrev R_X4_howManyLost : Room := { frames := 3, cells := 0, slots := 0, locals := 64 }
noncomputable def f_X4_howManyLost (a : Nat) (s0 : Mem) : Res :=
  bd (f_X4_allLost a s0) fun r1 s2 => bd (f_J6_bitCount_0f7a4 r1 s2) fun r3 s4 => some (r3, s4)
set_option maxHeartbeats 4000000 in
set_option maxRecDepth 10000 in
theorem c_X4_howManyLost (κ : Kp) (a : Nat) (hA : At4 κ a) (s0 : Mem) : ∀ r σ', f_X4_howManyLost a s0 = some (r, σ') → Ct κ M_X4_howManyLost R_X4_howManyLost [vr κ a] s0 r σ' := by
  intro r σ' ho
  refine Ct.of (by decide) (Nat.le_of_ble_eq_true rfl) (cat_ok rfl) (fun w_s0 => ?_) ⟨rfl, rfl⟩
  refine q_ent (ls' := [some (vr κ a)]) (o := f_X4_howManyLost a s0) ⟨rfl, trivial⟩ ?_ ho
  unfold f_X4_howManyLost
  refine q_aload_n d_X4_howManyLost_0 rfl ?_
  refine q_callI (R' := R_X4_allLost) (runV (As := []) (rest := []) d_X4_howManyLost_1.1 cv_4_100 rfl hA.1 rfl rfl ⟨rfl, rfl, by decide, by decide⟩ (Nat.le_of_ble_eq_true rfl) w_s0 rfl) d_X4_howManyLost_1.2 (c_X4_allLost κ a hA s0) rfl (fun r1 s2 h_r1 w_s2 => ?_)
  refine q_callI (R' := R_J6_bitCount_0f7a4) (runS (As := [vi r1]) (rest := []) d_X4_howManyLost_4.1 cv_4_104 rfl ⟨rfl, rfl, by decide, by decide⟩ (Nat.le_of_ble_eq_true rfl) w_s2 rfl) d_X4_howManyLost_4.2 (c_J6_bitCount_0f7a4 κ r1 h_r1 s2) rfl (fun r3 s4 h_r3 w_s4 => ?_)
  exact q_ireti d_X4_howManyLost_7 rfl h_r3 w_s4
abbrev R_X4_had : Room := { frames := 2, cells := 0, slots := 0, locals := 42 }
noncomputable def f_X4_had_7 (a : Nat) (k37 : Int → Mem → Res) : Nat → Int → Int → Mem → Res
  | 0, _, _, _ => none
  | n + 1, x1, x2, s0 =>
    if x2 < s0 a 8 then (bd (f_X4_afloat a x2 s0) fun r4 s5 => jn (fun (v6 : Int) (s7 : Mem) => f_X4_had_7 a k37 n v6 (wr (x2 + 1)) s7) fun j31 => if r4 = 0 then (j31 x1 s5) else (bd (f_X4_stuckIn a x2 s5) fun r9 s10 => j31 (wr (x1 + r9)) s10)) else (k37 x1 s0)
noncomputable def f_X4_had (a : Nat) (s0 : Mem) : Res :=
  jn (fun (v1 : Int) (s2 : Mem) => some (v1, s2)) fun j37 => f_X4_had_7 a j37 FU (s0 a 15) 0 s0
set_option maxHeartbeats 4000000 in
set_option maxRecDepth 10000 in
theorem l_X4_had_7 (κ : Kp) (a : Nat) (hA : At4 κ a) (k37 : Int → Mem → Res) (hk37 : ∀ (z1 : Int) (h_z1 : InR z1) (sz : Mem) (w_sz : WF sz), EO κ M_X4_had R_X4_had 37 [none, some (vi z1), none] [] sz (k37 z1 sz)) : ∀ (n : Nat) (x1 : Int) (h_x1 : InR x1) (x2 : Int) (h_x2 : InR x2) (s0 : Mem) (w_s0 : WF s0), EO κ M_X4_had R_X4_had 7 [some (vr κ a), some (vi x1), some (vi x2)] [] s0 (f_X4_had_7 a k37 n x1 x2 s0) := by
  intro n
  induction n with
  | zero => exact fun _ _ _ _ _ _ => q_none
  | succ n ih =>
    intro x1 h_x1 x2 h_x2 s0 w_s0
    rw [f_X4_had_7]
    refine q_iload_n (x := x2) d_X4_had_7 rfl ?_
    refine q_aload_n d_X4_had_8 rfl ?_
    refine q_getI (k := 8) (j := 8) d_X4_had_9 hA.1 fi_4_47 rfl rfl ?_
    refine q_icmp_ge d_X4_had_12 h_x2 (w_s0 _ _) (fun c3 => ?_) (fun c3 => ?_)
    · refine q_aload_n d_X4_had_15 rfl ?_
      refine q_iload_n (x := x2) d_X4_had_16 rfl ?_
      refine q_callZ (R' := R_X4_afloat) (runV (As := [vi x2]) (rest := []) d_X4_had_17.1 cv_4_89 rfl hA.1 rfl rfl ⟨rfl, rfl, by decide, by decide⟩ (Nat.le_of_ble_eq_true rfl) w_s0 rfl) d_X4_had_17.2 (c_X4_afloat κ a hA x2 h_x2 s0) rfl (fun r4 s5 h_r4 w_s5 => ?_)
      refine q_jn (α := Int → Mem → Res) (fun j31 => ∀ (v6 : Int) (h_v6 : InR v6) (s7 : Mem) (w_s7 : WF s7), EO κ M_X4_had R_X4_had 31 [some (vr κ a), some (vi v6), some (vi x2)] [] s7 (j31 v6 s7)) ?_ (fun j31 hj31 => ?_)
      · intro v6 h_v6 s7 w_s7
        refine q_iinc (x := x2) d_X4_had_31 rfl rfl ?_
        refine q_goto d_X4_had_34 ?_
        refine q_sub (ls' := [some (vr κ a), some (vi v6), some (vi (wr (x2 + 1)))]) ⟨rfl, rfl, rfl, trivial⟩ ?_
        exact ih v6 h_v6 (wr (x2 + 1)) (inr_wr _) s7 w_s7
      refine q_if_eq d_X4_had_20 (inr_b h_r4) (fun c8 => ?_) (fun c8 => ?_)
      · refine q_sub (ls' := [some (vr κ a), some (vi x1), some (vi x2)]) ⟨rfl, rfl, rfl, trivial⟩ ?_
        exact hj31 x1 h_x1 s5 w_s5
      · refine q_iload_n (x := x1) d_X4_had_23 rfl ?_
        refine q_aload_n d_X4_had_24 rfl ?_
        refine q_iload_n (x := x2) d_X4_had_25 rfl ?_
        refine q_callI (R' := R_X4_stuckIn) (runV (As := [vi x2]) (rest := [vi x1]) d_X4_had_26.1 cv_4_85 rfl hA.1 rfl rfl ⟨rfl, rfl, by decide, by decide⟩ (Nat.le_of_ble_eq_true rfl) w_s5 rfl) d_X4_had_26.2 (c_X4_stuckIn κ a hA x2 h_x2 s5) rfl (fun r9 s10 h_r9 w_s10 => ?_)
        refine q_iadd d_X4_had_29 ?_
        refine q_istore_n d_X4_had_30 rfl ?_
        refine q_sub (ls' := [some (vr κ a), some (vi (wr (x1 + r9))), some (vi x2)]) ⟨rfl, rfl, rfl, trivial⟩ ?_
        exact hj31 (wr (x1 + r9)) (inr_wr _) s10 w_s10
    · refine q_sub (ls' := [none, some (vi x1), none]) ⟨rfl, trivial⟩ ?_
      exact hk37 x1 h_x1 s0 w_s0
set_option maxHeartbeats 4000000 in
set_option maxRecDepth 10000 in
theorem c_X4_had (κ : Kp) (a : Nat) (hA : At4 κ a) (s0 : Mem) : ∀ r σ', f_X4_had a s0 = some (r, σ') → Ct κ M_X4_had R_X4_had [vr κ a] s0 r σ' := by
  intro r σ' ho
  refine Ct.of (by decide) (Nat.le_of_ble_eq_true rfl) (cat_ok rfl) (fun w_s0 => ?_) ⟨rfl, rfl⟩
  refine q_ent (ls' := [some (vr κ a), none, none]) (o := f_X4_had a s0) ⟨rfl, trivial⟩ ?_ ho
  unfold f_X4_had
  refine q_aload_n d_X4_had_0 rfl ?_
  refine q_getI (k := 15) (j := 15) d_X4_had_1 hA.1 fi_4_62 rfl rfl ?_
  refine q_istore_n d_X4_had_4 rfl ?_
  refine q_iconst d_X4_had_5 ?_
  refine q_istore_n d_X4_had_6 rfl ?_
  refine q_jn (α := Int → Mem → Res) (fun j37 => ∀ (v1 : Int) (h_v1 : InR v1) (s2 : Mem) (w_s2 : WF s2), EO κ M_X4_had R_X4_had 37 [none, some (vi v1), none] [] s2 (j37 v1 s2)) ?_ (fun j37 hj37 => ?_)
  · intro v1 h_v1 s2 w_s2
    refine q_iload_n (x := v1) d_X4_had_37 rfl ?_
    exact q_ireti d_X4_had_38 rfl h_v1 w_s2
  refine q_sub (ls' := [some (vr κ a), some (vi (s0 a 15)), some (vi 0)]) ⟨rfl, rfl, rfl, trivial⟩ ?_
  exact l_X4_had_7 κ a hA j37 hj37 FU (s0 a 15) (w_s0 _ _) 0 (inr_b (Or.inl rfl)) s0 w_s0
abbrev R_X4_boatsAt : Room := { frames := 2, cells := 0, slots := 0, locals := 42 }
noncomputable def f_X4_boatsAt_4 (a : Nat) (p1 : Int) (k39 : Int → Mem → Res) : Nat → Int → Int → Mem → Res
  | 0, _, _, _ => none
  | n + 1, x2, x3, s0 =>
    if x3 < s0 a 8 then (bd (f_X4_afloat a x3 s0) fun r4 s5 => jn (fun (v6 : Int) => f_X4_boatsAt_4 a p1 k39 n v6 (wr (x3 + 1)) s5) fun j33 => if r4 = 0 then (j33 x2) else (gd ((0 : Int) ≤ x3 ∧ x3 < 10) (if s5 (a + 3) x3 = p1 then (j33 (wr (x2 + 1))) else (j33 x2)))) else (k39 x2 s0)
noncomputable def f_X4_boatsAt (a : Nat) (x1 : Int) (s0 : Mem) : Res :=
  jn (fun (v1 : Int) (s2 : Mem) => some (v1, s2)) fun j39 => f_X4_boatsAt_4 a x1 j39 FU 0 0 s0
set_option maxHeartbeats 4000000 in
set_option maxRecDepth 10000 in
theorem l_X4_boatsAt_4 (κ : Kp) (a : Nat) (hA : At4 κ a) (p1 : Int) (h_p1 : InR p1) (k39 : Int → Mem → Res) (hk39 : ∀ (z2 : Int) (h_z2 : InR z2) (sz : Mem) (w_sz : WF sz), EO κ M_X4_boatsAt R_X4_boatsAt 39 [none, none, some (vi z2), none] [] sz (k39 z2 sz)) : ∀ (n : Nat) (x2 : Int) (h_x2 : InR x2) (x3 : Int) (h_x3 : InR x3) (s0 : Mem) (w_s0 : WF s0), EO κ M_X4_boatsAt R_X4_boatsAt 4 [some (vr κ a), some (vi p1), some (vi x2), some (vi x3)] [] s0 (f_X4_boatsAt_4 a p1 k39 n x2 x3 s0) := by
  intro n
  induction n with
  | zero => exact fun _ _ _ _ _ _ => q_none
  | succ n ih =>
    intro x2 h_x2 x3 h_x3 s0 w_s0
    rw [f_X4_boatsAt_4]
    refine q_iload_n (x := x3) d_X4_boatsAt_4 rfl ?_
    refine q_aload_n d_X4_boatsAt_5 rfl ?_
    refine q_getI (k := 8) (j := 8) d_X4_boatsAt_6 hA.1 fi_4_47 rfl rfl ?_
    refine q_icmp_ge d_X4_boatsAt_9 h_x3 (w_s0 _ _) (fun c3 => ?_) (fun c3 => ?_)
    · refine q_aload_n d_X4_boatsAt_12 rfl ?_
      refine q_iload_n (x := x3) d_X4_boatsAt_13 rfl ?_
      refine q_callZ (R' := R_X4_afloat) (runV (As := [vi x3]) (rest := []) d_X4_boatsAt_14.1 cv_4_89 rfl hA.1 rfl rfl ⟨rfl, rfl, by decide, by decide⟩ (Nat.le_of_ble_eq_true rfl) w_s0 rfl) d_X4_boatsAt_14.2 (c_X4_afloat κ a hA x3 h_x3 s0) rfl (fun r4 s5 h_r4 w_s5 => ?_)
      refine q_jn (α := Int → Res) (fun j33 => ∀ (v6 : Int) (h_v6 : InR v6), EO κ M_X4_boatsAt R_X4_boatsAt 33 [some (vr κ a), some (vi p1), some (vi v6), some (vi x3)] [] s5 (j33 v6)) ?_ (fun j33 hj33 => ?_)
      · intro v6 h_v6
        refine q_iinc (x := x3) d_X4_boatsAt_33 rfl rfl ?_
        refine q_goto d_X4_boatsAt_36 ?_
        refine q_sub (ls' := [some (vr κ a), some (vi p1), some (vi v6), some (vi (wr (x3 + 1)))]) ⟨rfl, rfl, rfl, rfl, trivial⟩ ?_
        exact ih v6 h_v6 (wr (x3 + 1)) (inr_wr _) s5 w_s5
      refine q_if_eq d_X4_boatsAt_17 (inr_b h_r4) (fun c7 => ?_) (fun c7 => ?_)
      · refine q_sub (ls' := [some (vr κ a), some (vi p1), some (vi x2), some (vi x3)]) ⟨rfl, rfl, rfl, rfl, trivial⟩ ?_
        exact hj33 x2 h_x2
      · refine q_aload_n d_X4_boatsAt_20 rfl ?_
        refine q_getR (n := 3) d_X4_boatsAt_21 hA.1 fi_4_18 rfl (Nat.le_of_ble_eq_true rfl) ?_
        refine q_iload_n (x := x3) d_X4_boatsAt_24 rfl ?_
        refine q_iaload (m := 10) d_X4_boatsAt_25 hA.2.2.2.1 (by decide) rfl (fun g8 => ?_)
        refine q_iload_n (x := p1) d_X4_boatsAt_26 rfl ?_
        refine q_icmp_ne d_X4_boatsAt_27 (w_s5 _ _) h_p1 (fun c9 => ?_) (fun c9 => ?_)
        · refine q_iinc (x := x2) d_X4_boatsAt_30 rfl rfl ?_
          refine q_sub (ls' := [some (vr κ a), some (vi p1), some (vi (wr (x2 + 1))), some (vi x3)]) ⟨rfl, rfl, rfl, rfl, trivial⟩ ?_
          exact hj33 (wr (x2 + 1)) (inr_wr _)
        · refine q_sub (ls' := [some (vr κ a), some (vi p1), some (vi x2), some (vi x3)]) ⟨rfl, rfl, rfl, rfl, trivial⟩ ?_
          exact hj33 x2 h_x2
    · refine q_sub (ls' := [none, none, some (vi x2), none]) ⟨rfl, trivial⟩ ?_
      exact hk39 x2 h_x2 s0 w_s0
set_option maxHeartbeats 4000000 in
set_option maxRecDepth 10000 in
theorem c_X4_boatsAt (κ : Kp) (a : Nat) (hA : At4 κ a) (x1 : Int) (h_x1 : InR x1) (s0 : Mem) : ∀ r σ', f_X4_boatsAt a x1 s0 = some (r, σ') → Ct κ M_X4_boatsAt R_X4_boatsAt [vr κ a, vi x1] s0 r σ' := by
  intro r σ' ho
  refine Ct.of (by decide) (Nat.le_of_ble_eq_true rfl) (cat_ok rfl) (fun w_s0 => ?_) ⟨rfl, rfl⟩
  refine q_ent (ls' := [some (vr κ a), some (vi x1), none, none]) (o := f_X4_boatsAt a x1 s0) ⟨rfl, rfl, trivial⟩ ?_ ho
  unfold f_X4_boatsAt
  refine q_iconst d_X4_boatsAt_0 ?_
  refine q_istore_n d_X4_boatsAt_1 rfl ?_
  refine q_iconst d_X4_boatsAt_2 ?_
  refine q_istore_n d_X4_boatsAt_3 rfl ?_
  refine q_jn (α := Int → Mem → Res) (fun j39 => ∀ (v1 : Int) (h_v1 : InR v1) (s2 : Mem) (w_s2 : WF s2), EO κ M_X4_boatsAt R_X4_boatsAt 39 [none, none, some (vi v1), none] [] s2 (j39 v1 s2)) ?_ (fun j39 hj39 => ?_)
  · intro v1 h_v1 s2 w_s2
    refine q_iload_n (x := v1) d_X4_boatsAt_39 rfl ?_
    exact q_ireti d_X4_boatsAt_40 rfl h_v1 w_s2
  refine q_sub (ls' := [some (vr κ a), some (vi x1), some (vi 0), some (vi 0)]) ⟨rfl, rfl, rfl, rfl, trivial⟩ ?_
  exact l_X4_boatsAt_4 κ a hA x1 h_x1 j39 hj39 FU 0 (inr_b (Or.inl rfl)) 0 (inr_b (Or.inl rfl)) s0 w_s0
abbrev R_X4_fullestReach : Room := { frames := 3, cells := 0, slots := 0, locals := 65 }
noncomputable def f_X4_fullestReach_6 (a : Nat) (k36 : Int → Mem → Res) : Nat → Int → Int → Int → Mem → Res
  | 0, _, _, _, _ => none
  | n + 1, x1, x2, x3, s0 =>
    if x3 < 16 then (bd (f_X4_boatsAt a x3 s0) fun r4 s5 => jn (fun (v6 : Int) (v7 : Int) => f_X4_fullestReach_6 a k36 n v6 v7 (wr (x3 + 1)) s5) fun j30 => if x2 < r4 then (j30 x3 r4) else (j30 x1 x2)) else (k36 x1 s0)
noncomputable def f_X4_fullestReach (a : Nat) (s0 : Mem) : Res :=
  jn (fun (v1 : Int) (s2 : Mem) => some (v1, s2)) fun j36 => f_X4_fullestReach_6 a j36 FU (-1) 0 0 s0
set_option maxHeartbeats 4000000 in
set_option maxRecDepth 10000 in
theorem l_X4_fullestReach_6 (κ : Kp) (a : Nat) (hA : At4 κ a) (k36 : Int → Mem → Res) (hk36 : ∀ (z1 : Int) (h_z1 : InR z1) (sz : Mem) (w_sz : WF sz), EO κ M_X4_fullestReach R_X4_fullestReach 36 [none, some (vi z1), none, none, none] [] sz (k36 z1 sz)) : ∀ (n : Nat) (x1 : Int) (h_x1 : InR x1) (x2 : Int) (h_x2 : InR x2) (x3 : Int) (h_x3 : InR x3) (s0 : Mem) (w_s0 : WF s0), EO κ M_X4_fullestReach R_X4_fullestReach 6 [some (vr κ a), some (vi x1), some (vi x2), some (vi x3), none] [] s0 (f_X4_fullestReach_6 a k36 n x1 x2 x3 s0) := by
  intro n
  induction n with
  | zero => exact fun _ _ _ _ _ _ _ _ => q_none
  | succ n ih =>
    intro x1 h_x1 x2 h_x2 x3 h_x3 s0 w_s0
    rw [f_X4_fullestReach_6]
    refine q_iload_n (x := x3) d_X4_fullestReach_6 rfl ?_
    refine q_bipush d_X4_fullestReach_7 rfl ?_
    refine q_icmp_ge d_X4_fullestReach_9 h_x3 (inr_d rfl) (fun c3 => ?_) (fun c3 => ?_)
    · refine q_aload_n d_X4_fullestReach_12 rfl ?_
      refine q_iload_n (x := x3) d_X4_fullestReach_13 rfl ?_
      refine q_callI (R' := R_X4_boatsAt) (runV (As := [vi x3]) (rest := []) d_X4_fullestReach_14.1 cv_4_109 rfl hA.1 rfl rfl ⟨rfl, rfl, by decide, by decide⟩ (Nat.le_of_ble_eq_true rfl) w_s0 rfl) d_X4_fullestReach_14.2 (c_X4_boatsAt κ a hA x3 h_x3 s0) rfl (fun r4 s5 h_r4 w_s5 => ?_)
      refine q_istore d_X4_fullestReach_17 rfl ?_
      refine q_iload (x := r4) d_X4_fullestReach_19 rfl ?_
      refine q_iload_n (x := x2) d_X4_fullestReach_21 rfl ?_
      refine q_jn (α := Int → Int → Res) (fun j30 => ∀ (v6 : Int) (h_v6 : InR v6) (v7 : Int) (h_v7 : InR v7), EO κ M_X4_fullestReach R_X4_fullestReach 30 [some (vr κ a), some (vi v6), some (vi v7), some (vi x3), none] [] s5 (j30 v6 v7)) ?_ (fun j30 hj30 => ?_)
      · intro v6 h_v6 v7 h_v7
        refine q_iinc (x := x3) d_X4_fullestReach_30 rfl rfl ?_
        refine q_goto d_X4_fullestReach_33 ?_
        refine q_sub (ls' := [some (vr κ a), some (vi v6), some (vi v7), some (vi (wr (x3 + 1))), none]) ⟨rfl, rfl, rfl, rfl, trivial⟩ ?_
        exact ih v6 h_v6 v7 h_v7 (wr (x3 + 1)) (inr_wr _) s5 w_s5
      refine q_icmp_le d_X4_fullestReach_22 h_r4 h_x2 (fun c8 => ?_) (fun c8 => ?_)
      · refine q_iload_n (x := x3) d_X4_fullestReach_25 rfl ?_
        refine q_istore_n d_X4_fullestReach_26 rfl ?_
        refine q_iload (x := r4) d_X4_fullestReach_27 rfl ?_
        refine q_istore_n d_X4_fullestReach_29 rfl ?_
        refine q_sub (ls' := [some (vr κ a), some (vi x3), some (vi r4), some (vi x3), none]) ⟨rfl, rfl, rfl, rfl, trivial⟩ ?_
        exact hj30 x3 h_x3 r4 h_r4
      · refine q_sub (ls' := [some (vr κ a), some (vi x1), some (vi x2), some (vi x3), none]) ⟨rfl, rfl, rfl, rfl, trivial⟩ ?_
        exact hj30 x1 h_x1 x2 h_x2
    · refine q_sub (ls' := [none, some (vi x1), none, none, none]) ⟨rfl, trivial⟩ ?_
      exact hk36 x1 h_x1 s0 w_s0
set_option maxHeartbeats 4000000 in
set_option maxRecDepth 10000 in
theorem c_X4_fullestReach (κ : Kp) (a : Nat) (hA : At4 κ a) (s0 : Mem) : ∀ r σ', f_X4_fullestReach a s0 = some (r, σ') → Ct κ M_X4_fullestReach R_X4_fullestReach [vr κ a] s0 r σ' := by
  intro r σ' ho
  refine Ct.of (by decide) (Nat.le_of_ble_eq_true rfl) (cat_ok rfl) (fun w_s0 => ?_) ⟨rfl, rfl⟩
  refine q_ent (ls' := [some (vr κ a), none, none, none, none]) (o := f_X4_fullestReach a s0) ⟨rfl, trivial⟩ ?_ ho
  unfold f_X4_fullestReach
  refine q_iconst d_X4_fullestReach_0 ?_
  refine q_istore_n d_X4_fullestReach_1 rfl ?_
  refine q_iconst d_X4_fullestReach_2 ?_
  refine q_istore_n d_X4_fullestReach_3 rfl ?_
  refine q_iconst d_X4_fullestReach_4 ?_
  refine q_istore_n d_X4_fullestReach_5 rfl ?_
  refine q_jn (α := Int → Mem → Res) (fun j36 => ∀ (v1 : Int) (h_v1 : InR v1) (s2 : Mem) (w_s2 : WF s2), EO κ M_X4_fullestReach R_X4_fullestReach 36 [none, some (vi v1), none, none, none] [] s2 (j36 v1 s2)) ?_ (fun j36 hj36 => ?_)
  · intro v1 h_v1 s2 w_s2
    refine q_iload_n (x := v1) d_X4_fullestReach_36 rfl ?_
    exact q_ireti d_X4_fullestReach_37 rfl h_v1 w_s2
  refine q_sub (ls' := [some (vr κ a), some (vi (-1)), some (vi 0), some (vi 0), none]) ⟨rfl, rfl, rfl, rfl, trivial⟩ ?_
  exact l_X4_fullestReach_6 κ a hA j36 hj36 FU (-1) (inr_d rfl) 0 (inr_b (Or.inl rfl)) 0 (inr_b (Or.inl rfl)) s0 w_s0
abbrev R_X4_archersNear : Room := { frames := 3, cells := 0, slots := 0, locals := 65 }
noncomputable def f_X4_archersNear_4 (a : Nat) (k33 : Int → Mem → Res) : Nat → Int → Int → Mem → Res
  | 0, _, _, _ => none
  | n + 1, x1, x2, s0 =>
    if x2 < 16 then (bd (f_X4_boatsAt a x2 s0) fun r4 s5 => jn (fun (v6 : Int) => f_X4_archersNear_4 a k33 n v6 (wr (x2 + 1)) s5) fun j27 => if 0 < r4 then (gd ((0 : Int) ≤ x2 ∧ x2 < 16) (j27 (wr (x1 + (s5 (a + 8) x2))))) else (j27 x1)) else (k33 x1 s0)
noncomputable def f_X4_archersNear (a : Nat) (s0 : Mem) : Res :=
  jn (fun (v1 : Int) (s2 : Mem) => some (v1, s2)) fun j33 => f_X4_archersNear_4 a j33 FU 0 0 s0
set_option maxHeartbeats 4000000 in
set_option maxRecDepth 10000 in
theorem l_X4_archersNear_4 (κ : Kp) (a : Nat) (hA : At4 κ a) (k33 : Int → Mem → Res) (hk33 : ∀ (z1 : Int) (h_z1 : InR z1) (sz : Mem) (w_sz : WF sz), EO κ M_X4_archersNear R_X4_archersNear 33 [none, some (vi z1), none] [] sz (k33 z1 sz)) : ∀ (n : Nat) (x1 : Int) (h_x1 : InR x1) (x2 : Int) (h_x2 : InR x2) (s0 : Mem) (w_s0 : WF s0), EO κ M_X4_archersNear R_X4_archersNear 4 [some (vr κ a), some (vi x1), some (vi x2)] [] s0 (f_X4_archersNear_4 a k33 n x1 x2 s0) := by
  intro n
  induction n with
  | zero => exact fun _ _ _ _ _ _ => q_none
  | succ n ih =>
    intro x1 h_x1 x2 h_x2 s0 w_s0
    rw [f_X4_archersNear_4]
    refine q_iload_n (x := x2) d_X4_archersNear_4 rfl ?_
    refine q_bipush d_X4_archersNear_5 rfl ?_
    refine q_icmp_ge d_X4_archersNear_7 h_x2 (inr_d rfl) (fun c3 => ?_) (fun c3 => ?_)
    · refine q_aload_n d_X4_archersNear_10 rfl ?_
      refine q_iload_n (x := x2) d_X4_archersNear_11 rfl ?_
      refine q_callI (R' := R_X4_boatsAt) (runV (As := [vi x2]) (rest := []) d_X4_archersNear_12.1 cv_4_109 rfl hA.1 rfl rfl ⟨rfl, rfl, by decide, by decide⟩ (Nat.le_of_ble_eq_true rfl) w_s0 rfl) d_X4_archersNear_12.2 (c_X4_boatsAt κ a hA x2 h_x2 s0) rfl (fun r4 s5 h_r4 w_s5 => ?_)
      refine q_jn (α := Int → Res) (fun j27 => ∀ (v6 : Int) (h_v6 : InR v6), EO κ M_X4_archersNear R_X4_archersNear 27 [some (vr κ a), some (vi v6), some (vi x2)] [] s5 (j27 v6)) ?_ (fun j27 hj27 => ?_)
      · intro v6 h_v6
        refine q_iinc (x := x2) d_X4_archersNear_27 rfl rfl ?_
        refine q_goto d_X4_archersNear_30 ?_
        refine q_sub (ls' := [some (vr κ a), some (vi v6), some (vi (wr (x2 + 1)))]) ⟨rfl, rfl, rfl, trivial⟩ ?_
        exact ih v6 h_v6 (wr (x2 + 1)) (inr_wr _) s5 w_s5
      refine q_if_le d_X4_archersNear_15 h_r4 (fun c7 => ?_) (fun c7 => ?_)
      · refine q_iload_n (x := x1) d_X4_archersNear_18 rfl ?_
        refine q_aload_n d_X4_archersNear_19 rfl ?_
        refine q_getR (n := 8) d_X4_archersNear_20 hA.1 fi_4_33 rfl (Nat.le_of_ble_eq_true rfl) ?_
        refine q_iload_n (x := x2) d_X4_archersNear_23 rfl ?_
        refine q_iaload (m := 16) d_X4_archersNear_24 hA.2.2.2.2.2.2.2.2 (by decide) rfl (fun g8 => ?_)
        refine q_iadd d_X4_archersNear_25 ?_
        refine q_istore_n d_X4_archersNear_26 rfl ?_
        refine q_sub (ls' := [some (vr κ a), some (vi (wr (x1 + (s5 (a + 8) x2)))), some (vi x2)]) ⟨rfl, rfl, rfl, trivial⟩ ?_
        exact hj27 (wr (x1 + (s5 (a + 8) x2))) (inr_wr _)
      · refine q_sub (ls' := [some (vr κ a), some (vi x1), some (vi x2)]) ⟨rfl, rfl, rfl, trivial⟩ ?_
        exact hj27 x1 h_x1
    · refine q_sub (ls' := [none, some (vi x1), none]) ⟨rfl, trivial⟩ ?_
      exact hk33 x1 h_x1 s0 w_s0
set_option maxHeartbeats 4000000 in
set_option maxRecDepth 10000 in
theorem c_X4_archersNear (κ : Kp) (a : Nat) (hA : At4 κ a) (s0 : Mem) : ∀ r σ', f_X4_archersNear a s0 = some (r, σ') → Ct κ M_X4_archersNear R_X4_archersNear [vr κ a] s0 r σ' := by
  intro r σ' ho
  refine Ct.of (by decide) (Nat.le_of_ble_eq_true rfl) (cat_ok rfl) (fun w_s0 => ?_) ⟨rfl, rfl⟩
  refine q_ent (ls' := [some (vr κ a), none, none]) (o := f_X4_archersNear a s0) ⟨rfl, trivial⟩ ?_ ho
  unfold f_X4_archersNear
  refine q_iconst d_X4_archersNear_0 ?_
  refine q_istore_n d_X4_archersNear_1 rfl ?_
  refine q_iconst d_X4_archersNear_2 ?_
  refine q_istore_n d_X4_archersNear_3 rfl ?_
  refine q_jn (α := Int → Mem → Res) (fun j33 => ∀ (v1 : Int) (h_v1 : InR v1) (s2 : Mem) (w_s2 : WF s2), EO κ M_X4_archersNear R_X4_archersNear 33 [none, some (vi v1), none] [] s2 (j33 v1 s2)) ?_ (fun j33 hj33 => ?_)
  · intro v1 h_v1 s2 w_s2
    refine q_iload_n (x := v1) d_X4_archersNear_33 rfl ?_
    exact q_ireti d_X4_archersNear_34 rfl h_v1 w_s2
  refine q_sub (ls' := [some (vr κ a), some (vi 0), some (vi 0)]) ⟨rfl, rfl, rfl, trivial⟩ ?_
  exact l_X4_archersNear_4 κ a hA j33 hj33 FU 0 (inr_b (Or.inl rfl)) 0 (inr_b (Or.inl rfl)) s0 w_s0
abbrev R_X4_takesWell : Room := { frames := 2, cells := 0, slots := 0, locals := 42 }
noncomputable def f_X4_takesWell_103 (p2 : Int) (p3 : Int) (p5 : Int) (p6 : Int) (p7 : Int) (k146 : Unit → Res) (k128 : Int → Int → Mem → Res) (s0 : Mem) : Nat → Int → Res
  | 0, _ => none
  | n + 1, x8 =>
    if p2 < x8 then (k146 ()) else (if p6 < x8 then (k146 ()) else (gd (p3 ≠ 0) (if Int.tmod (wr (p6 - x8)) p3 = p7 then (k128 p5 x8 s0) else (f_X4_takesWell_103 p2 p3 p5 p6 p7 k146 k128 s0 n (wr (x8 + 1))))))
noncomputable def f_X4_takesWell_61 (a : Nat) (p2 : Int) (p3 : Int) (p4 : Int) (k152 : Mem → Res) (k128 : Int → Int → Mem → Res) : Nat → Int → Mem → Res
  | 0, _, _ => none
  | n + 1, x5, s0 =>
    if x5 < s0 a 8 then (bd (f_X4_afloat a x5 s0) fun r9 s10 => jn (fun (y11 : Int) (s12 : Mem) => gd (p3 ≠ 0) (jn (fun (_ : Unit) => f_X4_takesWell_61 a p2 p3 p4 k152 k128 n (wr (x5 + 1)) s12) fun j146 => f_X4_takesWell_103 p2 p3 x5 y11 (ixor p4 (Int.tmod y11 p3)) j146 k128 s12 FU 1)) fun j89 => if r9 = 0 then (j89 0 s10) else (bd (f_X4_lean a x5 s10) fun r19 s20 => j89 r19 s20)) else (k152 s0)
noncomputable def f_X4_takesWell_21 (a : Nat) (p3 : Int) (k58 : Int → Mem → Res) : Nat → Int → Int → Mem → Res
  | 0, _, _, _ => none
  | n + 1, x4, x5, s0 =>
    if x5 < s0 a 8 then (bd (f_X4_afloat a x5 s0) fun r22 s23 => jn (fun (v24 : Int) (s25 : Mem) => f_X4_takesWell_21 a p3 k58 n v24 (wr (x5 + 1)) s25) fun j52 => if r22 = 0 then (j52 x4 s23) else (bd (f_X4_lean a x5 s23) fun r27 s28 => gd (p3 ≠ 0) (j52 (ixor x4 (Int.tmod r27 p3)) s28))) else (k58 x4 s0)
noncomputable def f_X4_takesWell (a : Nat) (x1 : Int) (s0 : Mem) : Res :=
  jn (fun (v1 : Int) (s2 : Mem) => jn (fun (s3 : Mem) => some ((-1), s3)) fun j152 => jn (fun (v4 : Int) (v5 : Int) (s6 : Mem) => if x1 = 0 then (some (v4, s6)) else (some (v5, s6))) fun j128 => f_X4_takesWell_61 a (wr ((s0 a 12) + 1)) (mmx 2 (wr ((wr ((s0 a 12) + 1)) + 1))) v1 j152 j128 FU 0 s2) fun j58 => f_X4_takesWell_21 a (mmx 2 (wr ((wr ((s0 a 12) + 1)) + 1))) j58 FU 0 0 s0
set_option maxHeartbeats 4000000 in
set_option maxRecDepth 10000 in
theorem l_X4_takesWell_103 (κ : Kp) (a : Nat) (hA : At4 κ a) (p1 : Int) (h_p1 : InR p1) (p2 : Int) (h_p2 : InR p2) (p3 : Int) (h_p3 : InR p3) (p4 : Int) (h_p4 : InR p4) (p5 : Int) (h_p5 : InR p5) (p6 : Int) (h_p6 : InR p6) (p7 : Int) (h_p7 : InR p7) (k146 : Unit → Res) (k128 : Int → Int → Mem → Res) (s0 : Mem) (w_s0 : WF s0) (hk146 : EO κ M_X4_takesWell R_X4_takesWell 146 [some (vr κ a), some (vi p1), some (vi p2), some (vi p3), some (vi p4), some (vi p5), none, none, none] [] s0 (k146 ())) (hk128 : ∀ (z5 : Int) (h_z5 : InR z5) (z8 : Int) (h_z8 : InR z8) (sz : Mem) (w_sz : WF sz), EO κ M_X4_takesWell R_X4_takesWell 128 [none, some (vi p1), none, none, none, some (vi z5), none, none, some (vi z8)] [] sz (k128 z5 z8 sz)) : ∀ (n : Nat) (x8 : Int) (h_x8 : InR x8), EO κ M_X4_takesWell R_X4_takesWell 103 [some (vr κ a), some (vi p1), some (vi p2), some (vi p3), some (vi p4), some (vi p5), some (vi p6), some (vi p7), some (vi x8)] [] s0 (f_X4_takesWell_103 p2 p3 p5 p6 p7 k146 k128 s0 n x8) := by
  intro n
  induction n with
  | zero => exact fun _ _ => q_none
  | succ n ih =>
    intro x8 h_x8
    rw [f_X4_takesWell_103]
    refine q_iload (x := x8) d_X4_takesWell_103 rfl ?_
    refine q_iload_n (x := p2) d_X4_takesWell_105 rfl ?_
    refine q_icmp_gt d_X4_takesWell_106 h_x8 h_p2 (fun c14 => ?_) (fun c14 => ?_)
    · refine q_sub (ls' := [some (vr κ a), some (vi p1), some (vi p2), some (vi p3), some (vi p4), some (vi p5), none, none, none]) ⟨rfl, rfl, rfl, rfl, rfl, rfl, trivial⟩ ?_
      exact hk146 
    · refine q_iload (x := x8) d_X4_takesWell_109 rfl ?_
      refine q_iload (x := p6) d_X4_takesWell_111 rfl ?_
      refine q_icmp_gt d_X4_takesWell_113 h_x8 h_p6 (fun c15 => ?_) (fun c15 => ?_)
      · refine q_sub (ls' := [some (vr κ a), some (vi p1), some (vi p2), some (vi p3), some (vi p4), some (vi p5), none, none, none]) ⟨rfl, rfl, rfl, rfl, rfl, rfl, trivial⟩ ?_
        exact hk146 
      · refine q_iload (x := p6) d_X4_takesWell_116 rfl ?_
        refine q_iload (x := x8) d_X4_takesWell_118 rfl ?_
        refine q_isub d_X4_takesWell_120 ?_
        refine q_iload_n (x := p3) d_X4_takesWell_121 rfl ?_
        refine q_irem d_X4_takesWell_122 (inr_wr _) h_p3 (fun g16 => ?_)
        refine q_iload (x := p7) d_X4_takesWell_123 rfl ?_
        refine q_icmp_ne d_X4_takesWell_125 (inr_tmod (inr_wr _) h_p3) h_p7 (fun c17 => ?_) (fun c17 => ?_)
        · refine q_sub (ls' := [none, some (vi p1), none, none, none, some (vi p5), none, none, some (vi x8)]) ⟨rfl, rfl, rfl, trivial⟩ ?_
          exact hk128 p5 h_p5 x8 h_x8 s0 w_s0
        · refine q_iinc (x := x8) d_X4_takesWell_140 rfl rfl ?_
          refine q_goto d_X4_takesWell_143 ?_
          refine q_sub (ls' := [some (vr κ a), some (vi p1), some (vi p2), some (vi p3), some (vi p4), some (vi p5), some (vi p6), some (vi p7), some (vi (wr (x8 + 1)))]) ⟨rfl, rfl, rfl, rfl, rfl, rfl, rfl, rfl, rfl, trivial⟩ ?_
          exact ih (wr (x8 + 1)) (inr_wr _)
set_option maxHeartbeats 4000000 in
set_option maxRecDepth 10000 in
theorem l_X4_takesWell_61 (κ : Kp) (a : Nat) (hA : At4 κ a) (p1 : Int) (h_p1 : InR p1) (p2 : Int) (h_p2 : InR p2) (p3 : Int) (h_p3 : InR p3) (p4 : Int) (h_p4 : InR p4) (k152 : Mem → Res) (k128 : Int → Int → Mem → Res) (hk152 : ∀ (sz : Mem) (w_sz : WF sz), EO κ M_X4_takesWell R_X4_takesWell 152 [none, none, none, none, none, none, none, none, none] [] sz (k152 sz)) (hk128 : ∀ (z5 : Int) (h_z5 : InR z5) (z8 : Int) (h_z8 : InR z8) (sz : Mem) (w_sz : WF sz), EO κ M_X4_takesWell R_X4_takesWell 128 [none, some (vi p1), none, none, none, some (vi z5), none, none, some (vi z8)] [] sz (k128 z5 z8 sz)) : ∀ (n : Nat) (x5 : Int) (h_x5 : InR x5) (s0 : Mem) (w_s0 : WF s0), EO κ M_X4_takesWell R_X4_takesWell 61 [some (vr κ a), some (vi p1), some (vi p2), some (vi p3), some (vi p4), some (vi x5), none, none, none] [] s0 (f_X4_takesWell_61 a p2 p3 p4 k152 k128 n x5 s0) := by
  intro n
  induction n with
  | zero => exact fun _ _ _ _ => q_none
  | succ n ih =>
    intro x5 h_x5 s0 w_s0
    rw [f_X4_takesWell_61]
    refine q_iload (x := x5) d_X4_takesWell_61 rfl ?_
    refine q_aload_n d_X4_takesWell_63 rfl ?_
    refine q_getI (k := 8) (j := 8) d_X4_takesWell_64 hA.1 fi_4_47 rfl rfl ?_
    refine q_icmp_ge d_X4_takesWell_67 h_x5 (w_s0 _ _) (fun c8 => ?_) (fun c8 => ?_)
    · refine q_aload_n d_X4_takesWell_70 rfl ?_
      refine q_iload (x := x5) d_X4_takesWell_71 rfl ?_
      refine q_callZ (R' := R_X4_afloat) (runV (As := [vi x5]) (rest := []) d_X4_takesWell_73.1 cv_4_89 rfl hA.1 rfl rfl ⟨rfl, rfl, by decide, by decide⟩ (Nat.le_of_ble_eq_true rfl) w_s0 rfl) d_X4_takesWell_73.2 (c_X4_afloat κ a hA x5 h_x5 s0) rfl (fun r9 s10 h_r9 w_s10 => ?_)
      refine q_jn (α := Int → Mem → Res) (fun j89 => ∀ (y11 : Int) (h_y11 : InR y11) (s12 : Mem) (w_s12 : WF s12), EO κ M_X4_takesWell R_X4_takesWell 89 [some (vr κ a), some (vi p1), some (vi p2), some (vi p3), some (vi p4), some (vi x5), none, none, none] [vi y11] s12 (j89 y11 s12)) ?_ (fun j89 hj89 => ?_)
      · intro y11 h_y11 s12 w_s12
        refine q_istore d_X4_takesWell_89 rfl ?_
        refine q_iload (x := p4) d_X4_takesWell_91 rfl ?_
        refine q_iload (x := y11) d_X4_takesWell_93 rfl ?_
        refine q_iload_n (x := p3) d_X4_takesWell_95 rfl ?_
        refine q_irem d_X4_takesWell_96 h_y11 h_p3 (fun g13 => ?_)
        refine q_ixor d_X4_takesWell_97 ?_
        refine q_istore d_X4_takesWell_98 rfl ?_
        refine q_iconst d_X4_takesWell_100 ?_
        refine q_istore d_X4_takesWell_101 rfl ?_
        refine q_jn (α := Unit → Res) (fun j146 => EO κ M_X4_takesWell R_X4_takesWell 146 [some (vr κ a), some (vi p1), some (vi p2), some (vi p3), some (vi p4), some (vi x5), none, none, none] [] s12 (j146 ())) ?_ (fun j146 hj146 => ?_)
        · refine q_iinc (x := x5) d_X4_takesWell_146 rfl rfl ?_
          refine q_goto d_X4_takesWell_149 ?_
          refine q_sub (ls' := [some (vr κ a), some (vi p1), some (vi p2), some (vi p3), some (vi p4), some (vi (wr (x5 + 1))), none, none, none]) ⟨rfl, rfl, rfl, rfl, rfl, rfl, trivial⟩ ?_
          exact ih (wr (x5 + 1)) (inr_wr _) s12 w_s12
        refine q_sub (ls' := [some (vr κ a), some (vi p1), some (vi p2), some (vi p3), some (vi p4), some (vi x5), some (vi y11), some (vi (ixor p4 (Int.tmod y11 p3))), some (vi 1)]) ⟨rfl, rfl, rfl, rfl, rfl, rfl, rfl, rfl, rfl, trivial⟩ ?_
        exact l_X4_takesWell_103 κ a hA p1 h_p1 p2 h_p2 p3 h_p3 p4 h_p4 x5 h_x5 y11 h_y11 (ixor p4 (Int.tmod y11 p3)) (inr_i32 _) j146 k128 s12 w_s12 hj146 hk128 FU 1 (inr_b (Or.inr rfl))
      refine q_if_eq d_X4_takesWell_76 (inr_b h_r9) (fun c18 => ?_) (fun c18 => ?_)
      · refine q_iconst d_X4_takesWell_88 ?_
        refine q_sub (ls' := [some (vr κ a), some (vi p1), some (vi p2), some (vi p3), some (vi p4), some (vi x5), none, none, none]) ⟨rfl, rfl, rfl, rfl, rfl, rfl, trivial⟩ ?_
        exact hj89 0 (inr_b (Or.inl rfl)) s10 w_s10
      · refine q_aload_n d_X4_takesWell_79 rfl ?_
        refine q_iload (x := x5) d_X4_takesWell_80 rfl ?_
        refine q_callI (R' := R_X4_lean) (runV (As := [vi x5]) (rest := []) d_X4_takesWell_82.1 cv_4_112 rfl hA.1 rfl rfl ⟨rfl, rfl, by decide, by decide⟩ (Nat.le_of_ble_eq_true rfl) w_s10 rfl) d_X4_takesWell_82.2 (c_X4_lean κ a hA x5 h_x5 s10) rfl (fun r19 s20 h_r19 w_s20 => ?_)
        refine q_goto d_X4_takesWell_85 ?_
        refine q_sub (ls' := [some (vr κ a), some (vi p1), some (vi p2), some (vi p3), some (vi p4), some (vi x5), none, none, none]) ⟨rfl, rfl, rfl, rfl, rfl, rfl, trivial⟩ ?_
        exact hj89 r19 h_r19 s20 w_s20
    · refine q_sub (ls' := [none, none, none, none, none, none, none, none, none]) trivial ?_
      exact hk152 s0 w_s0
set_option maxHeartbeats 4000000 in
set_option maxRecDepth 10000 in
theorem l_X4_takesWell_21 (κ : Kp) (a : Nat) (hA : At4 κ a) (p1 : Int) (h_p1 : InR p1) (p2 : Int) (h_p2 : InR p2) (p3 : Int) (h_p3 : InR p3) (k58 : Int → Mem → Res) (hk58 : ∀ (z4 : Int) (h_z4 : InR z4) (sz : Mem) (w_sz : WF sz), EO κ M_X4_takesWell R_X4_takesWell 58 [some (vr κ a), some (vi p1), some (vi p2), some (vi p3), some (vi z4), none, none, none, none] [] sz (k58 z4 sz)) : ∀ (n : Nat) (x4 : Int) (h_x4 : InR x4) (x5 : Int) (h_x5 : InR x5) (s0 : Mem) (w_s0 : WF s0), EO κ M_X4_takesWell R_X4_takesWell 21 [some (vr κ a), some (vi p1), some (vi p2), some (vi p3), some (vi x4), some (vi x5), none, none, none] [] s0 (f_X4_takesWell_21 a p3 k58 n x4 x5 s0) := by
  intro n
  induction n with
  | zero => exact fun _ _ _ _ _ _ => q_none
  | succ n ih =>
    intro x4 h_x4 x5 h_x5 s0 w_s0
    rw [f_X4_takesWell_21]
    refine q_iload (x := x5) d_X4_takesWell_21 rfl ?_
    refine q_aload_n d_X4_takesWell_23 rfl ?_
    refine q_getI (k := 8) (j := 8) d_X4_takesWell_24 hA.1 fi_4_47 rfl rfl ?_
    refine q_icmp_ge d_X4_takesWell_27 h_x5 (w_s0 _ _) (fun c21 => ?_) (fun c21 => ?_)
    · refine q_aload_n d_X4_takesWell_30 rfl ?_
      refine q_iload (x := x5) d_X4_takesWell_31 rfl ?_
      refine q_callZ (R' := R_X4_afloat) (runV (As := [vi x5]) (rest := []) d_X4_takesWell_33.1 cv_4_89 rfl hA.1 rfl rfl ⟨rfl, rfl, by decide, by decide⟩ (Nat.le_of_ble_eq_true rfl) w_s0 rfl) d_X4_takesWell_33.2 (c_X4_afloat κ a hA x5 h_x5 s0) rfl (fun r22 s23 h_r22 w_s23 => ?_)
      refine q_jn (α := Int → Mem → Res) (fun j52 => ∀ (v24 : Int) (h_v24 : InR v24) (s25 : Mem) (w_s25 : WF s25), EO κ M_X4_takesWell R_X4_takesWell 52 [some (vr κ a), some (vi p1), some (vi p2), some (vi p3), some (vi v24), some (vi x5), none, none, none] [] s25 (j52 v24 s25)) ?_ (fun j52 hj52 => ?_)
      · intro v24 h_v24 s25 w_s25
        refine q_iinc (x := x5) d_X4_takesWell_52 rfl rfl ?_
        refine q_goto d_X4_takesWell_55 ?_
        refine q_sub (ls' := [some (vr κ a), some (vi p1), some (vi p2), some (vi p3), some (vi v24), some (vi (wr (x5 + 1))), none, none, none]) ⟨rfl, rfl, rfl, rfl, rfl, rfl, trivial⟩ ?_
        exact ih v24 h_v24 (wr (x5 + 1)) (inr_wr _) s25 w_s25
      refine q_if_eq d_X4_takesWell_36 (inr_b h_r22) (fun c26 => ?_) (fun c26 => ?_)
      · refine q_sub (ls' := [some (vr κ a), some (vi p1), some (vi p2), some (vi p3), some (vi x4), some (vi x5), none, none, none]) ⟨rfl, rfl, rfl, rfl, rfl, rfl, trivial⟩ ?_
        exact hj52 x4 h_x4 s23 w_s23
      · refine q_iload (x := x4) d_X4_takesWell_39 rfl ?_
        refine q_aload_n d_X4_takesWell_41 rfl ?_
        refine q_iload (x := x5) d_X4_takesWell_42 rfl ?_
        refine q_callI (R' := R_X4_lean) (runV (As := [vi x5]) (rest := [vi x4]) d_X4_takesWell_44.1 cv_4_112 rfl hA.1 rfl rfl ⟨rfl, rfl, by decide, by decide⟩ (Nat.le_of_ble_eq_true rfl) w_s23 rfl) d_X4_takesWell_44.2 (c_X4_lean κ a hA x5 h_x5 s23) rfl (fun r27 s28 h_r27 w_s28 => ?_)
        refine q_iload_n (x := p3) d_X4_takesWell_47 rfl ?_
        refine q_irem d_X4_takesWell_48 h_r27 h_p3 (fun g29 => ?_)
        refine q_ixor d_X4_takesWell_49 ?_
        refine q_istore d_X4_takesWell_50 rfl ?_
        refine q_sub (ls' := [some (vr κ a), some (vi p1), some (vi p2), some (vi p3), some (vi (ixor x4 (Int.tmod r27 p3))), some (vi x5), none, none, none]) ⟨rfl, rfl, rfl, rfl, rfl, rfl, trivial⟩ ?_
        exact hj52 (ixor x4 (Int.tmod r27 p3)) (inr_i32 _) s28 w_s28
    · refine q_sub (ls' := [some (vr κ a), some (vi p1), some (vi p2), some (vi p3), some (vi x4), none, none, none, none]) ⟨rfl, rfl, rfl, rfl, rfl, trivial⟩ ?_
      exact hk58 x4 h_x4 s0 w_s0
set_option maxHeartbeats 4000000 in
set_option maxRecDepth 10000 in
theorem c_X4_takesWell (κ : Kp) (a : Nat) (hA : At4 κ a) (x1 : Int) (h_x1 : InR x1) (s0 : Mem) : ∀ r σ', f_X4_takesWell a x1 s0 = some (r, σ') → Ct κ M_X4_takesWell R_X4_takesWell [vr κ a, vi x1] s0 r σ' := by
  intro r σ' ho
  refine Ct.of (by decide) (Nat.le_of_ble_eq_true rfl) (cat_ok rfl) (fun w_s0 => ?_) ⟨rfl, rfl⟩
  refine q_ent (ls' := [some (vr κ a), some (vi x1), none, none, none, none, none, none, none]) (o := f_X4_takesWell a x1 s0) ⟨rfl, rfl, trivial⟩ ?_ ho
  unfold f_X4_takesWell
  refine q_aload_n d_X4_takesWell_0 rfl ?_
  refine q_getI (k := 12) (j := 12) d_X4_takesWell_1 hA.1 fi_4_40 rfl rfl ?_
  refine q_iconst d_X4_takesWell_4 ?_
  refine q_iadd d_X4_takesWell_5 ?_
  refine q_istore_n d_X4_takesWell_6 rfl ?_
  refine q_iconst d_X4_takesWell_7 ?_
  refine q_iload_n (x := wr ((s0 a 12) + 1)) d_X4_takesWell_8 rfl ?_
  refine q_iconst d_X4_takesWell_9 ?_
  refine q_iadd d_X4_takesWell_10 ?_
  refine q_mmax d_X4_takesWell_11 cv_4_92 mw_max ⟨by decide, Nat.le_of_ble_eq_true rfl⟩ (inr_d rfl) (inr_wr _) ?_
  refine q_istore_n d_X4_takesWell_14 rfl ?_
  refine q_iconst d_X4_takesWell_15 ?_
  refine q_istore d_X4_takesWell_16 rfl ?_
  refine q_iconst d_X4_takesWell_18 ?_
  refine q_istore d_X4_takesWell_19 rfl ?_
  refine q_jn (α := Int → Mem → Res) (fun j58 => ∀ (v1 : Int) (h_v1 : InR v1) (s2 : Mem) (w_s2 : WF s2), EO κ M_X4_takesWell R_X4_takesWell 58 [some (vr κ a), some (vi x1), some (vi (wr ((s0 a 12) + 1))), some (vi (mmx 2 (wr ((wr ((s0 a 12) + 1)) + 1)))), some (vi v1), none, none, none, none] [] s2 (j58 v1 s2)) ?_ (fun j58 hj58 => ?_)
  · intro v1 h_v1 s2 w_s2
    refine q_iconst d_X4_takesWell_58 ?_
    refine q_istore d_X4_takesWell_59 rfl ?_
    refine q_jn (α := Mem → Res) (fun j152 => ∀ (s3 : Mem) (w_s3 : WF s3), EO κ M_X4_takesWell R_X4_takesWell 152 [none, none, none, none, none, none, none, none, none] [] s3 (j152 s3)) ?_ (fun j152 hj152 => ?_)
    · intro s3 w_s3
      refine q_iconst d_X4_takesWell_152 ?_
      exact q_ireti d_X4_takesWell_153 rfl (inr_d rfl) w_s3
    refine q_jn (α := Int → Int → Mem → Res) (fun j128 => ∀ (v4 : Int) (h_v4 : InR v4) (v5 : Int) (h_v5 : InR v5) (s6 : Mem) (w_s6 : WF s6), EO κ M_X4_takesWell R_X4_takesWell 128 [none, some (vi x1), none, none, none, some (vi v4), none, none, some (vi v5)] [] s6 (j128 v4 v5 s6)) ?_ (fun j128 hj128 => ?_)
    · intro v4 h_v4 v5 h_v5 s6 w_s6
      refine q_iload_n (x := x1) d_X4_takesWell_128 rfl ?_
      refine q_if_ne d_X4_takesWell_129 h_x1 (fun c7 => ?_) (fun c7 => ?_)
      · refine q_iload (x := v4) d_X4_takesWell_132 rfl ?_
        refine q_goto d_X4_takesWell_134 ?_
        exact q_ireti d_X4_takesWell_139 rfl h_v4 w_s6
      · refine q_iload (x := v5) d_X4_takesWell_137 rfl ?_
        exact q_ireti d_X4_takesWell_139 rfl h_v5 w_s6
    refine q_sub (ls' := [some (vr κ a), some (vi x1), some (vi (wr ((s0 a 12) + 1))), some (vi (mmx 2 (wr ((wr ((s0 a 12) + 1)) + 1)))), some (vi v1), some (vi 0), none, none, none]) ⟨rfl, rfl, rfl, rfl, rfl, rfl, trivial⟩ ?_
    exact l_X4_takesWell_61 κ a hA x1 h_x1 (wr ((s0 a 12) + 1)) (inr_wr _) (mmx 2 (wr ((wr ((s0 a 12) + 1)) + 1))) (inr_mmx (inr_d rfl) (inr_wr _)) v1 h_v1 j152 j128 hj152 hj128 FU 0 (inr_b (Or.inl rfl)) s2 w_s2
  refine q_sub (ls' := [some (vr κ a), some (vi x1), some (vi (wr ((s0 a 12) + 1))), some (vi (mmx 2 (wr ((wr ((s0 a 12) + 1)) + 1)))), some (vi 0), some (vi 0), none, none, none]) ⟨rfl, rfl, rfl, rfl, rfl, rfl, trivial⟩ ?_
  exact l_X4_takesWell_21 κ a hA x1 h_x1 (wr ((s0 a 12) + 1)) (inr_wr _) (mmx 2 (wr ((wr ((s0 a 12) + 1)) + 1))) (inr_mmx (inr_d rfl) (inr_wr _)) j58 hj58 FU 0 (inr_b (Or.inl rfl)) 0 (inr_b (Or.inl rfl)) s0 w_s0
abbrev R_X5_keep : Room := { frames := 3, cells := 0, slots := 0, locals := 102 }
noncomputable def f_X5_keep (a : Nat) (a1 : Nat) (s0 : Mem) : Res :=
  jn (fun (s1 : Mem) => gd ((6 : Int) ≠ 0) (gd ((0 : Int) ≤ Int.tmod (wr ((s1 a 1) + (s1 a 2))) 6 ∧ Int.tmod (wr ((s1 a 1) + (s1 a 2))) 6 < 6) (bd (f_X4_become ((a + 1) + 1 + 9 * (Int.tmod (wr ((s1 a 1) + (s1 a 2))) 6).toNat) a1 s1) fun r4 s5 => lm (mup s5 a 2 (wr ((s5 a 2) + 1))) fun s6 => some (0, s6)))) fun j32 => if s0 a 2 = 6 then (gd ((6 : Int) ≠ 0) (lm (mup s0 a 1 (Int.tmod (wr ((s0 a 1) + 1)) 6)) fun s9 => lm (mup s9 a 2 (wr ((s9 a 2) - 1))) fun s10 => j32 s10)) else (j32 s0)
set_option maxHeartbeats 4000000 in
set_option maxRecDepth 10000 in
theorem c_X5_keep (κ : Kp) (a : Nat) (hA : At5 κ a) (a1 : Nat) (hA1 : At4 κ a1) (s0 : Mem) : ∀ r σ', f_X5_keep a a1 s0 = some (r, σ') → Ct κ M_X5_keep R_X5_keep [vr κ a, vr κ a1] s0 r σ' := by
  intro r σ' ho
  refine Ct.of (by decide) (Nat.le_of_ble_eq_true rfl) (cat_ok rfl) (fun w_s0 => ?_) ⟨rfl, rfl⟩
  refine q_ent (ls' := [some (vr κ a), some (vr κ a1)]) (o := f_X5_keep a a1 s0) ⟨rfl, rfl, trivial⟩ ?_ ho
  unfold f_X5_keep
  refine q_aload_n d_X5_keep_0 rfl ?_
  refine q_getI (k := 2) (j := 2) d_X5_keep_1 hA.1 fi_5_18 rfl rfl ?_
  refine q_bipush d_X5_keep_4 rfl ?_
  refine q_jn (α := Mem → Res) (fun j32 => ∀ (s1 : Mem) (w_s1 : WF s1), EO κ M_X5_keep R_X5_keep 32 [some (vr κ a), some (vr κ a1)] [] s1 (j32 s1)) ?_ (fun j32 hj32 => ?_)
  · intro s1 w_s1
    refine q_aload_n d_X5_keep_32 rfl ?_
    refine q_getR (n := 1) d_X5_keep_33 hA.1 fi_5_11 rfl (Nat.le_of_ble_eq_true rfl) ?_
    refine q_aload_n d_X5_keep_36 rfl ?_
    refine q_getI (k := 1) (j := 1) d_X5_keep_37 hA.1 fi_5_22 rfl rfl ?_
    refine q_aload_n d_X5_keep_40 rfl ?_
    refine q_getI (k := 2) (j := 2) d_X5_keep_41 hA.1 fi_5_18 rfl rfl ?_
    refine q_iadd d_X5_keep_44 ?_
    refine q_bipush d_X5_keep_45 rfl ?_
    refine q_irem d_X5_keep_47 (inr_wr _) (inr_d rfl) (fun g2 => ?_)
    refine q_aaload (m := 6) d_X5_keep_48 hA.2.1 (by decide) (by decide) rfl (fun g3 => ?_)
    refine q_aload_n d_X5_keep_49 rfl ?_
    refine q_callV (R' := R_X4_become) (runV (As := [vr κ a1]) (rest := []) d_X5_keep_50.1 cv_5_25 rfl (hA.2.2 _ (toNat_lt g3)).1 rfl rfl ⟨rfl, rfl, by decide, by decide⟩ (Nat.le_of_ble_eq_true rfl) w_s1 rfl) d_X5_keep_50.2 (c_X4_become κ ((a + 1) + 1 + 9 * (Int.tmod (wr ((s1 a 1) + (s1 a 2))) 6).toNat) (hA.2.2 _ (toNat_lt g3)) a1 hA1 s1) rfl (fun r4 s5 w_s5 => ?_)
    refine q_aload_n d_X5_keep_53 rfl ?_
    refine q_dup d_X5_keep_54 rfl ?_
    refine q_getI (k := 2) (j := 2) d_X5_keep_55 hA.1 fi_5_18 rfl rfl ?_
    refine q_iconst d_X5_keep_58 ?_
    refine q_iadd d_X5_keep_59 ?_
    refine q_putI (k := 2) (j := 2) d_X5_keep_60 hA.1 fp_5_18 rfl rfl (inr_wr _) w_s5 (fun s6 w_s6 => ?_)
    exact q_vret d_X5_keep_63 rfl w_s6
  refine q_icmp_ne d_X5_keep_6 (w_s0 _ _) (inr_d rfl) (fun c7 => ?_) (fun c7 => ?_)
  · refine q_aload_n d_X5_keep_9 rfl ?_
    refine q_aload_n d_X5_keep_10 rfl ?_
    refine q_getI (k := 1) (j := 1) d_X5_keep_11 hA.1 fi_5_22 rfl rfl ?_
    refine q_iconst d_X5_keep_14 ?_
    refine q_iadd d_X5_keep_15 ?_
    refine q_bipush d_X5_keep_16 rfl ?_
    refine q_irem d_X5_keep_18 (inr_wr _) (inr_d rfl) (fun g8 => ?_)
    refine q_putI (k := 1) (j := 1) d_X5_keep_19 hA.1 fp_5_22 rfl rfl (inr_tmod (inr_wr _) (inr_d rfl)) w_s0 (fun s9 w_s9 => ?_)
    refine q_aload_n d_X5_keep_22 rfl ?_
    refine q_dup d_X5_keep_23 rfl ?_
    refine q_getI (k := 2) (j := 2) d_X5_keep_24 hA.1 fi_5_18 rfl rfl ?_
    refine q_iconst d_X5_keep_27 ?_
    refine q_isub d_X5_keep_28 ?_
    refine q_putI (k := 2) (j := 2) d_X5_keep_29 hA.1 fp_5_18 rfl rfl (inr_wr _) w_s9 (fun s10 w_s10 => ?_)
    refine q_sub (ls' := [some (vr κ a), some (vr κ a1)]) ⟨rfl, rfl, trivial⟩ ?_
    exact hj32 s10 w_s10
  · refine q_sub (ls' := [some (vr κ a), some (vr κ a1)]) ⟨rfl, rfl, trivial⟩ ?_
    exact hj32 s0 w_s0
abbrev R_X5_forget : Room := { frames := 0, cells := 0, slots := 0, locals := 0 }
noncomputable def f_X5_forget (a : Nat) (s0 : Mem) : Res :=
  lm (mup s0 a 2 0) fun s1 => some (0, s1)
set_option maxHeartbeats 4000000 in
set_option maxRecDepth 10000 in
theorem c_X5_forget (κ : Kp) (a : Nat) (hA : At5 κ a) (s0 : Mem) : ∀ r σ', f_X5_forget a s0 = some (r, σ') → Ct κ M_X5_forget R_X5_forget [vr κ a] s0 r σ' := by
  intro r σ' ho
  refine Ct.of (by decide) (Nat.le_of_ble_eq_true rfl) (cat_ok rfl) (fun w_s0 => ?_) ⟨rfl, rfl⟩
  refine q_ent (ls' := [some (vr κ a)]) (o := f_X5_forget a s0) ⟨rfl, trivial⟩ ?_ ho
  unfold f_X5_forget
  refine q_aload_n d_X5_forget_0 rfl ?_
  refine q_iconst d_X5_forget_1 ?_
  refine q_putI (k := 2) (j := 2) d_X5_forget_2 hA.1 fp_5_18 rfl rfl (inr_b (Or.inl rfl)) w_s0 (fun s1 w_s1 => ?_)
  exact q_vret d_X5_forget_5 rfl w_s1
abbrev R_X5_bringBack : Room := { frames := 3, cells := 0, slots := 0, locals := 102 }
noncomputable def f_X5_bringBack (a : Nat) (a1 : Nat) (s0 : Mem) : Res :=
  if s0 a 2 < 1 then (some (0, s0)) else (lm (mup s0 a 2 (wr ((s0 a 2) - 1))) fun s2 => gd ((6 : Int) ≠ 0) (gd ((0 : Int) ≤ Int.tmod (wr ((s2 a 1) + (s2 a 2))) 6 ∧ Int.tmod (wr ((s2 a 1) + (s2 a 2))) 6 < 6) (bd (f_X4_become a1 ((a + 1) + 1 + 9 * (Int.tmod (wr ((s2 a 1) + (s2 a 2))) 6).toNat) s2) fun r5 s6 => some (1, s6))))
set_option maxHeartbeats 4000000 in
set_option maxRecDepth 10000 in
theorem c_X5_bringBack (κ : Kp) (a : Nat) (hA : At5 κ a) (a1 : Nat) (hA1 : At4 κ a1) (s0 : Mem) : ∀ r σ', f_X5_bringBack a a1 s0 = some (r, σ') → Ct κ M_X5_bringBack R_X5_bringBack [vr κ a, vr κ a1] s0 r σ' := by
  intro r σ' ho
  refine Ct.of (by decide) (Nat.le_of_ble_eq_true rfl) (cat_ok rfl) (fun w_s0 => ?_) ⟨rfl, rfl⟩
  refine q_ent (ls' := [some (vr κ a), some (vr κ a1)]) (o := f_X5_bringBack a a1 s0) ⟨rfl, rfl, trivial⟩ ?_ ho
  unfold f_X5_bringBack
  refine q_aload_n d_X5_bringBack_0 rfl ?_
  refine q_getI (k := 2) (j := 2) d_X5_bringBack_1 hA.1 fi_5_18 rfl rfl ?_
  refine q_iconst d_X5_bringBack_4 ?_
  refine q_icmp_ge d_X5_bringBack_5 (w_s0 _ _) (inr_b (Or.inr rfl)) (fun c1 => ?_) (fun c1 => ?_)
  · refine q_iconst d_X5_bringBack_8 ?_
    exact q_iretz d_X5_bringBack_9 rfl (Or.inl rfl) w_s0
  · refine q_aload_n d_X5_bringBack_10 rfl ?_
    refine q_dup d_X5_bringBack_11 rfl ?_
    refine q_getI (k := 2) (j := 2) d_X5_bringBack_12 hA.1 fi_5_18 rfl rfl ?_
    refine q_iconst d_X5_bringBack_15 ?_
    refine q_isub d_X5_bringBack_16 ?_
    refine q_putI (k := 2) (j := 2) d_X5_bringBack_17 hA.1 fp_5_18 rfl rfl (inr_wr _) w_s0 (fun s2 w_s2 => ?_)
    refine q_aload_n d_X5_bringBack_20 rfl ?_
    refine q_aload_n d_X5_bringBack_21 rfl ?_
    refine q_getR (n := 1) d_X5_bringBack_22 hA.1 fi_5_11 rfl (Nat.le_of_ble_eq_true rfl) ?_
    refine q_aload_n d_X5_bringBack_25 rfl ?_
    refine q_getI (k := 1) (j := 1) d_X5_bringBack_26 hA.1 fi_5_22 rfl rfl ?_
    refine q_aload_n d_X5_bringBack_29 rfl ?_
    refine q_getI (k := 2) (j := 2) d_X5_bringBack_30 hA.1 fi_5_18 rfl rfl ?_
    refine q_iadd d_X5_bringBack_33 ?_
    refine q_bipush d_X5_bringBack_34 rfl ?_
    refine q_irem d_X5_bringBack_36 (inr_wr _) (inr_d rfl) (fun g3 => ?_)
    refine q_aaload (m := 6) d_X5_bringBack_37 hA.2.1 (by decide) (by decide) rfl (fun g4 => ?_)
    refine q_callV (R' := R_X4_become) (runV (As := [vr κ ((a + 1) + 1 + 9 * (Int.tmod (wr ((s2 a 1) + (s2 a 2))) 6).toNat)]) (rest := []) d_X5_bringBack_38.1 cv_5_25 rfl hA1.1 rfl rfl ⟨rfl, rfl, by decide, by decide⟩ (Nat.le_of_ble_eq_true rfl) w_s2 rfl) d_X5_bringBack_38.2 (c_X4_become κ a1 hA1 ((a + 1) + 1 + 9 * (Int.tmod (wr ((s2 a 1) + (s2 a 2))) 6).toNat) (hA.2.2 _ (toNat_lt g4)) s2) rfl (fun r5 s6 w_s6 => ?_)
    refine q_iconst d_X5_bringBack_41 ?_
    exact q_iretz d_X5_bringBack_42 rfl (Or.inr rfl) w_s6
abbrev R_X6_become : Room := { frames := 2, cells := 0, slots := 0, locals := 81 }
noncomputable def f_X6_become (a : Nat) (a1 : Nat) (s0 : Mem) : Res :=
  bd (f_X11_copy (a1 + 1) 16 (a + 1) 16 s0) fun r1 s2 => bd (f_X11_copy (a1 + 2) 16 (a + 2) 16 s2) fun r3 s4 => bd (f_X11_copy (a1 + 3) 16 (a + 3) 16 s4) fun r5 s6 => bd (f_X11_copy (a1 + 4) 16 (a + 4) 16 s6) fun r7 s8 => lm (mup s8 a 4 (s8 a1 4)) fun s9 => some (0, s9)
set_option maxHeartbeats 4000000 in
set_option maxRecDepth 10000 in
theorem c_X6_become (κ : Kp) (a : Nat) (hA : At6 κ a) (a1 : Nat) (hA1 : At6 κ a1) (s0 : Mem) : ∀ r σ', f_X6_become a a1 s0 = some (r, σ') → Ct κ M_X6_become R_X6_become [vr κ a, vr κ a1] s0 r σ' := by
  intro r σ' ho
  refine Ct.of (by decide) (Nat.le_of_ble_eq_true rfl) (cat_ok rfl) (fun w_s0 => ?_) ⟨rfl, rfl⟩
  refine q_ent (ls' := [some (vr κ a), some (vr κ a1)]) (o := f_X6_become a a1 s0) ⟨rfl, rfl, trivial⟩ ?_ ho
  unfold f_X6_become
  refine q_aload_n d_X6_become_0 rfl ?_
  refine q_getR (n := 1) d_X6_become_1 hA1.1 fi_6_9 rfl (Nat.le_of_ble_eq_true rfl) ?_
  refine q_aload_n d_X6_become_4 rfl ?_
  refine q_getR (n := 1) d_X6_become_5 hA.1 fi_6_9 rfl (Nat.le_of_ble_eq_true rfl) ?_
  refine q_callV (R' := R_X11_copy) (runN (As := [vr κ (a1 + 1), vr κ (a + 1)]) (rest := []) d_X6_become_8.1 cv_6_24 rfl ⟨rfl, rfl, by decide, by decide⟩ (Nat.le_of_ble_eq_true rfl) w_s0 rfl) d_X6_become_8.2 (c_X11_copy κ (a1 + 1) 16 hA1.2.1 (by decide) (a + 1) 16 hA.2.1 (by decide) s0) rfl (fun r1 s2 w_s2 => ?_)
  refine q_aload_n d_X6_become_11 rfl ?_
  refine q_getR (n := 2) d_X6_become_12 hA1.1 fi_6_15 rfl (Nat.le_of_ble_eq_true rfl) ?_
  refine q_aload_n d_X6_become_15 rfl ?_
  refine q_getR (n := 2) d_X6_become_16 hA.1 fi_6_15 rfl (Nat.le_of_ble_eq_true rfl) ?_
  refine q_callV (R' := R_X11_copy) (runN (As := [vr κ (a1 + 2), vr κ (a + 2)]) (rest := []) d_X6_become_19.1 cv_6_24 rfl ⟨rfl, rfl, by decide, by decide⟩ (Nat.le_of_ble_eq_true rfl) w_s2 rfl) d_X6_become_19.2 (c_X11_copy κ (a1 + 2) 16 hA1.2.2.1 (by decide) (a + 2) 16 hA.2.2.1 (by decide) s2) rfl (fun r3 s4 w_s4 => ?_)
  refine q_aload_n d_X6_become_22 rfl ?_
  refine q_getR (n := 3) d_X6_become_23 hA1.1 fi_6_18 rfl (Nat.le_of_ble_eq_true rfl) ?_
  refine q_aload_n d_X6_become_26 rfl ?_
  refine q_getR (n := 3) d_X6_become_27 hA.1 fi_6_18 rfl (Nat.le_of_ble_eq_true rfl) ?_
  refine q_callV (R' := R_X11_copy) (runN (As := [vr κ (a1 + 3), vr κ (a + 3)]) (rest := []) d_X6_become_30.1 cv_6_24 rfl ⟨rfl, rfl, by decide, by decide⟩ (Nat.le_of_ble_eq_true rfl) w_s4 rfl) d_X6_become_30.2 (c_X11_copy κ (a1 + 3) 16 hA1.2.2.2.1 (by decide) (a + 3) 16 hA.2.2.2.1 (by decide) s4) rfl (fun r5 s6 w_s6 => ?_)
  refine q_aload_n d_X6_become_33 rfl ?_
  refine q_getR (n := 4) d_X6_become_34 hA1.1 fi_6_21 rfl (Nat.le_of_ble_eq_true rfl) ?_
  refine q_aload_n d_X6_become_37 rfl ?_
  refine q_getR (n := 4) d_X6_become_38 hA.1 fi_6_21 rfl (Nat.le_of_ble_eq_true rfl) ?_
  refine q_callV (R' := R_X11_copy) (runN (As := [vr κ (a1 + 4), vr κ (a + 4)]) (rest := []) d_X6_become_41.1 cv_6_24 rfl ⟨rfl, rfl, by decide, by decide⟩ (Nat.le_of_ble_eq_true rfl) w_s6 rfl) d_X6_become_41.2 (c_X11_copy κ (a1 + 4) 16 hA1.2.2.2.2 (by decide) (a + 4) 16 hA.2.2.2.2 (by decide) s6) rfl (fun r7 s8 w_s8 => ?_)
  refine q_aload_n d_X6_become_44 rfl ?_
  refine q_aload_n d_X6_become_45 rfl ?_
  refine q_getI (k := 4) (j := 4) d_X6_become_46 hA1.1 fi_6_28 rfl rfl ?_
  refine q_putI (k := 4) (j := 4) d_X6_become_49 hA.1 fp_6_28 rfl rfl (w_s8 _ _) w_s8 (fun s9 w_s9 => ?_)
  exact q_vret d_X6_become_52 rfl w_s9
abbrev R_X6_enter : Room := { frames := 0, cells := 0, slots := 0, locals := 0 }
noncomputable def f_X6_enter (a : Nat) (x1 : Int) (x2 : Int) (x3 : Int) (x4 : Int) (s0 : Mem) : Res :=
  if s0 a 4 < 16 then (gd ((0 : Int) ≤ s0 a 4 ∧ s0 a 4 < 16) (lm (mup s0 (a + 1) (s0 a 4) x1) fun s3 => gd ((0 : Int) ≤ s3 a 4 ∧ s3 a 4 < 16) (lm (mup s3 (a + 2) (s3 a 4) x2) fun s5 => gd ((0 : Int) ≤ s5 a 4 ∧ s5 a 4 < 16) (lm (mup s5 (a + 3) (s5 a 4) x3) fun s7 => gd ((0 : Int) ≤ s7 a 4 ∧ s7 a 4 < 16) (lm (mup s7 (a + 4) (s7 a 4) x4) fun s9 => lm (mup s9 a 4 (wr ((s9 a 4) + 1))) fun s10 => some (0, s10)))))) else (some (0, s0))
set_option maxHeartbeats 4000000 in
set_option maxRecDepth 10000 in
theorem c_X6_enter (κ : Kp) (a : Nat) (hA : At6 κ a) (x1 : Int) (h_x1 : InR x1) (x2 : Int) (h_x2 : InR x2) (x3 : Int) (h_x3 : InR x3) (x4 : Int) (h_x4 : InR x4) (s0 : Mem) : ∀ r σ', f_X6_enter a x1 x2 x3 x4 s0 = some (r, σ') → Ct κ M_X6_enter R_X6_enter [vr κ a, vi x1, vi x2, vi x3, vi x4] s0 r σ' := by
  intro r σ' ho
  refine Ct.of (by decide) (Nat.le_of_ble_eq_true rfl) (cat_ok rfl) (fun w_s0 => ?_) ⟨rfl, rfl⟩
  refine q_ent (ls' := [some (vr κ a), some (vi x1), some (vi x2), some (vi x3), some (vi x4)]) (o := f_X6_enter a x1 x2 x3 x4 s0) ⟨rfl, rfl, rfl, rfl, rfl, trivial⟩ ?_ ho
  unfold f_X6_enter
  refine q_aload_n d_X6_enter_0 rfl ?_
  refine q_getI (k := 4) (j := 4) d_X6_enter_1 hA.1 fi_6_28 rfl rfl ?_
  refine q_bipush d_X6_enter_4 rfl ?_
  refine q_icmp_ge d_X6_enter_6 (w_s0 _ _) (inr_d rfl) (fun c1 => ?_) (fun c1 => ?_)
  · refine q_aload_n d_X6_enter_9 rfl ?_
    refine q_getR (n := 1) d_X6_enter_10 hA.1 fi_6_9 rfl (Nat.le_of_ble_eq_true rfl) ?_
    refine q_aload_n d_X6_enter_13 rfl ?_
    refine q_getI (k := 4) (j := 4) d_X6_enter_14 hA.1 fi_6_28 rfl rfl ?_
    refine q_iload_n (x := x1) d_X6_enter_17 rfl ?_
    refine q_iastore (m := 16) d_X6_enter_18 hA.2.1 (by decide) rfl h_x1 w_s0 (fun g2 s3 w_s3 => ?_)
    refine q_aload_n d_X6_enter_19 rfl ?_
    refine q_getR (n := 2) d_X6_enter_20 hA.1 fi_6_15 rfl (Nat.le_of_ble_eq_true rfl) ?_
    refine q_aload_n d_X6_enter_23 rfl ?_
    refine q_getI (k := 4) (j := 4) d_X6_enter_24 hA.1 fi_6_28 rfl rfl ?_
    refine q_iload_n (x := x2) d_X6_enter_27 rfl ?_
    refine q_iastore (m := 16) d_X6_enter_28 hA.2.2.1 (by decide) rfl h_x2 w_s3 (fun g4 s5 w_s5 => ?_)
    refine q_aload_n d_X6_enter_29 rfl ?_
    refine q_getR (n := 3) d_X6_enter_30 hA.1 fi_6_18 rfl (Nat.le_of_ble_eq_true rfl) ?_
    refine q_aload_n d_X6_enter_33 rfl ?_
    refine q_getI (k := 4) (j := 4) d_X6_enter_34 hA.1 fi_6_28 rfl rfl ?_
    refine q_iload_n (x := x3) d_X6_enter_37 rfl ?_
    refine q_iastore (m := 16) d_X6_enter_38 hA.2.2.2.1 (by decide) rfl h_x3 w_s5 (fun g6 s7 w_s7 => ?_)
    refine q_aload_n d_X6_enter_39 rfl ?_
    refine q_getR (n := 4) d_X6_enter_40 hA.1 fi_6_21 rfl (Nat.le_of_ble_eq_true rfl) ?_
    refine q_aload_n d_X6_enter_43 rfl ?_
    refine q_getI (k := 4) (j := 4) d_X6_enter_44 hA.1 fi_6_28 rfl rfl ?_
    refine q_iload (x := x4) d_X6_enter_47 rfl ?_
    refine q_iastore (m := 16) d_X6_enter_49 hA.2.2.2.2 (by decide) rfl h_x4 w_s7 (fun g8 s9 w_s9 => ?_)
    refine q_aload_n d_X6_enter_50 rfl ?_
    refine q_dup d_X6_enter_51 rfl ?_
    refine q_getI (k := 4) (j := 4) d_X6_enter_52 hA.1 fi_6_28 rfl rfl ?_
    refine q_iconst d_X6_enter_55 ?_
    refine q_iadd d_X6_enter_56 ?_
    refine q_putI (k := 4) (j := 4) d_X6_enter_57 hA.1 fp_6_28 rfl rfl (inr_wr _) w_s9 (fun s10 w_s10 => ?_)
    exact q_vret d_X6_enter_60 rfl w_s10
  · exact q_vret d_X6_enter_60 rfl w_s0
abbrev R_X7_take : Room := { frames := 0, cells := 0, slots := 0, locals := 0 }
noncomputable def f_X7_take_3 (a : Nat) (p1 : Int) (k49 : Mem → Res) : Nat → Int → Mem → Res
  | 0, _, _ => none
  | n + 1, x2, s0 =>
    if x2 < 0 then (k49 s0) else (jn (fun (s3 : Mem) => f_X7_take_3 a p1 k49 n (wr (x2 + (-8))) s3) fun j43 => if s0 a 4 < 400 then (gd ((0 : Int) ≤ s0 a 4 ∧ s0 a 4 < 400) (lm (mup s0 (a + 20) (s0 a 4) (iand (iushr p1 x2) 255)) fun s6 => lm (mup s6 a 4 (wr ((s6 a 4) + 1))) fun s7 => j43 s7)) else (j43 s0))
noncomputable def f_X7_take (a : Nat) (x1 : Int) (s0 : Mem) : Res :=
  jn (fun (s1 : Mem) => some (0, s1)) fun j49 => f_X7_take_3 a x1 j49 FU 24 s0
set_option maxHeartbeats 4000000 in
set_option maxRecDepth 10000 in
theorem l_X7_take_3 (κ : Kp) (a : Nat) (hA : At7 κ a) (p1 : Int) (h_p1 : InR p1) (k49 : Mem → Res) (hk49 : ∀ (sz : Mem) (w_sz : WF sz), EO κ M_X7_take R_X7_take 49 [none, none, none] [] sz (k49 sz)) : ∀ (n : Nat) (x2 : Int) (h_x2 : InR x2) (s0 : Mem) (w_s0 : WF s0), EO κ M_X7_take R_X7_take 3 [some (vr κ a), some (vi p1), some (vi x2)] [] s0 (f_X7_take_3 a p1 k49 n x2 s0) := by
  intro n
  induction n with
  | zero => exact fun _ _ _ _ => q_none
  | succ n ih =>
    intro x2 h_x2 s0 w_s0
    rw [f_X7_take_3]
    refine q_iload_n (x := x2) d_X7_take_3 rfl ?_
    refine q_if_lt d_X7_take_4 h_x2 (fun c2 => ?_) (fun c2 => ?_)
    · refine q_sub (ls' := [none, none, none]) trivial ?_
      exact hk49 s0 w_s0
    · refine q_aload_n d_X7_take_7 rfl ?_
      refine q_getI (k := 4) (j := 4) d_X7_take_8 hA.1 fi_7_59 rfl rfl ?_
      refine q_sipush d_X7_take_11 rfl ?_
      refine q_jn (α := Mem → Res) (fun j43 => ∀ (s3 : Mem) (w_s3 : WF s3), EO κ M_X7_take R_X7_take 43 [some (vr κ a), some (vi p1), some (vi x2)] [] s3 (j43 s3)) ?_ (fun j43 hj43 => ?_)
      · intro s3 w_s3
        refine q_iinc (x := x2) d_X7_take_43 rfl rfl ?_
        refine q_goto d_X7_take_46 ?_
        refine q_sub (ls' := [some (vr κ a), some (vi p1), some (vi (wr (x2 + (-8))))]) ⟨rfl, rfl, rfl, trivial⟩ ?_
        exact ih (wr (x2 + (-8))) (inr_wr _) s3 w_s3
      refine q_icmp_ge d_X7_take_14 (w_s0 _ _) (inr_d rfl) (fun c4 => ?_) (fun c4 => ?_)
      · refine q_aload_n d_X7_take_17 rfl ?_
        refine q_getR (n := 20) d_X7_take_18 hA.1 fi_7_43 rfl (Nat.le_of_ble_eq_true rfl) ?_
        refine q_aload_n d_X7_take_21 rfl ?_
        refine q_getI (k := 4) (j := 4) d_X7_take_22 hA.1 fi_7_59 rfl rfl ?_
        refine q_iload_n (x := p1) d_X7_take_25 rfl ?_
        refine q_iload_n (x := x2) d_X7_take_26 rfl ?_
        refine q_iushr d_X7_take_27 ?_
        refine q_sipush d_X7_take_28 rfl ?_
        refine q_iand d_X7_take_31 ?_
        refine q_iastore (m := 400) d_X7_take_32 hA.2.2.2.2.2.1 (by decide) rfl (inr_i32 _) w_s0 (fun g5 s6 w_s6 => ?_)
        refine q_aload_n d_X7_take_33 rfl ?_
        refine q_dup d_X7_take_34 rfl ?_
        refine q_getI (k := 4) (j := 4) d_X7_take_35 hA.1 fi_7_59 rfl rfl ?_
        refine q_iconst d_X7_take_38 ?_
        refine q_iadd d_X7_take_39 ?_
        refine q_putI (k := 4) (j := 4) d_X7_take_40 hA.1 fp_7_59 rfl rfl (inr_wr _) w_s6 (fun s7 w_s7 => ?_)
        refine q_sub (ls' := [some (vr κ a), some (vi p1), some (vi x2)]) ⟨rfl, rfl, rfl, trivial⟩ ?_
        exact hj43 s7 w_s7
      · refine q_sub (ls' := [some (vr κ a), some (vi p1), some (vi x2)]) ⟨rfl, rfl, rfl, trivial⟩ ?_
        exact hj43 s0 w_s0
set_option maxHeartbeats 4000000 in
set_option maxRecDepth 10000 in
theorem c_X7_take (κ : Kp) (a : Nat) (hA : At7 κ a) (x1 : Int) (h_x1 : InR x1) (s0 : Mem) : ∀ r σ', f_X7_take a x1 s0 = some (r, σ') → Ct κ M_X7_take R_X7_take [vr κ a, vi x1] s0 r σ' := by
  intro r σ' ho
  refine Ct.of (by decide) (Nat.le_of_ble_eq_true rfl) (cat_ok rfl) (fun w_s0 => ?_) ⟨rfl, rfl⟩
  refine q_ent (ls' := [some (vr κ a), some (vi x1), none]) (o := f_X7_take a x1 s0) ⟨rfl, rfl, trivial⟩ ?_ ho
  unfold f_X7_take
  refine q_bipush d_X7_take_0 rfl ?_
  refine q_istore_n d_X7_take_2 rfl ?_
  refine q_jn (α := Mem → Res) (fun j49 => ∀ (s1 : Mem) (w_s1 : WF s1), EO κ M_X7_take R_X7_take 49 [none, none, none] [] s1 (j49 s1)) ?_ (fun j49 hj49 => ?_)
  · intro s1 w_s1
    exact q_vret d_X7_take_49 rfl w_s1
  refine q_sub (ls' := [some (vr κ a), some (vi x1), some (vi 24)]) ⟨rfl, rfl, rfl, trivial⟩ ?_
  exact l_X7_take_3 κ a hA x1 h_x1 j49 hj49 FU 24 (inr_d rfl) s0 w_s0
abbrev R_X7_isLetter : Room := { frames := 1, cells := 0, slots := 0, locals := 22 }
noncomputable def f_X7_isLetter (x0 : Int) (s0 : Mem) : Res :=
  bd (f_X11_within x0 97 122 s0) fun r1 s2 => if r1 = 0 then (bd (f_X11_within x0 65 90 s2) fun r4 s5 => if r4 = 0 then (some (0, s5)) else (some (1, s5))) else (some (1, s2))
set_option maxHeartbeats 4000000 in
set_option maxRecDepth 10000 in
theorem c_X7_isLetter (κ : Kp) (x0 : Int) (h_x0 : InR x0) (s0 : Mem) : ∀ r σ', f_X7_isLetter x0 s0 = some (r, σ') → Ct κ M_X7_isLetter R_X7_isLetter [vi x0] s0 r σ' := by
  intro r σ' ho
  refine Ct.of (by decide) (Nat.le_of_ble_eq_true rfl) (cat_ok rfl) (fun w_s0 => ?_) ⟨rfl, rfl⟩
  refine q_ent (ls' := [some (vi x0)]) (o := f_X7_isLetter x0 s0) ⟨rfl, trivial⟩ ?_ ho
  unfold f_X7_isLetter
  refine q_iload_n (x := x0) d_X7_isLetter_0 rfl ?_
  refine q_bipush d_X7_isLetter_1 rfl ?_
  refine q_bipush d_X7_isLetter_3 rfl ?_
  refine q_callZ (R' := R_X11_within) (runN (As := [vi x0, vi 97, vi 122]) (rest := []) d_X7_isLetter_5.1 cv_7_68 rfl ⟨rfl, rfl, by decide, by decide⟩ (Nat.le_of_ble_eq_true rfl) w_s0 rfl) d_X7_isLetter_5.2 (c_X11_within κ x0 h_x0 97 (inr_d rfl) 122 (inr_d rfl) s0) rfl (fun r1 s2 h_r1 w_s2 => ?_)
  refine q_if_ne d_X7_isLetter_8 (inr_b h_r1) (fun c3 => ?_) (fun c3 => ?_)
  · refine q_iload_n (x := x0) d_X7_isLetter_11 rfl ?_
    refine q_bipush d_X7_isLetter_12 rfl ?_
    refine q_bipush d_X7_isLetter_14 rfl ?_
    refine q_callZ (R' := R_X11_within) (runN (As := [vi x0, vi 65, vi 90]) (rest := []) d_X7_isLetter_16.1 cv_7_68 rfl ⟨rfl, rfl, by decide, by decide⟩ (Nat.le_of_ble_eq_true rfl) w_s2 rfl) d_X7_isLetter_16.2 (c_X11_within κ x0 h_x0 65 (inr_d rfl) 90 (inr_d rfl) s2) rfl (fun r4 s5 h_r4 w_s5 => ?_)
    refine q_if_eq d_X7_isLetter_19 (inr_b h_r4) (fun c6 => ?_) (fun c6 => ?_)
    · refine q_iconst d_X7_isLetter_26 ?_
      exact q_iretz d_X7_isLetter_27 rfl (Or.inl rfl) w_s5
    · refine q_iconst d_X7_isLetter_22 ?_
      refine q_goto d_X7_isLetter_23 ?_
      exact q_iretz d_X7_isLetter_27 rfl (Or.inr rfl) w_s5
  · refine q_iconst d_X7_isLetter_22 ?_
    refine q_goto d_X7_isLetter_23 ?_
    exact q_iretz d_X7_isLetter_27 rfl (Or.inr rfl) w_s2
abbrev R_X7_endOfLetters : Room := { frames := 2, cells := 0, slots := 0, locals := 42 }
noncomputable def f_X7_endOfLetters_2 (a : Nat) : Nat → Int → Mem → Res
  | 0, _, _ => none
  | n + 1, x2, s0 =>
    if x2 < s0 a 4 then (gd ((0 : Int) ≤ x2 ∧ x2 < 400) (bd (f_X7_isLetter (s0 (a + 20) x2) s0) fun r3 s4 => if r3 = 0 then (some (x2, s4)) else (f_X7_endOfLetters_2 a n (wr (x2 + 1)) s4))) else (some (x2, s0))
noncomputable def f_X7_endOfLetters (a : Nat) (x1 : Int) (s0 : Mem) : Res :=
  f_X7_endOfLetters_2 a FU x1 s0
set_option maxHeartbeats 4000000 in
set_option maxRecDepth 10000 in
theorem l_X7_endOfLetters_2 (κ : Kp) (a : Nat) (hA : At7 κ a)   : ∀ (n : Nat) (x2 : Int) (h_x2 : InR x2) (s0 : Mem) (w_s0 : WF s0), EO κ M_X7_endOfLetters R_X7_endOfLetters 2 [some (vr κ a), none, some (vi x2)] [] s0 (f_X7_endOfLetters_2 a n x2 s0) := by
  intro n
  induction n with
  | zero => exact fun _ _ _ _ => q_none
  | succ n ih =>
    intro x2 h_x2 s0 w_s0
    rw [f_X7_endOfLetters_2]
    refine q_iload_n (x := x2) d_X7_endOfLetters_2 rfl ?_
    refine q_aload_n d_X7_endOfLetters_3 rfl ?_
    refine q_getI (k := 4) (j := 4) d_X7_endOfLetters_4 hA.1 fi_7_59 rfl rfl ?_
    refine q_icmp_ge d_X7_endOfLetters_7 h_x2 (w_s0 _ _) (fun c1 => ?_) (fun c1 => ?_)
    · refine q_aload_n d_X7_endOfLetters_10 rfl ?_
      refine q_getR (n := 20) d_X7_endOfLetters_11 hA.1 fi_7_43 rfl (Nat.le_of_ble_eq_true rfl) ?_
      refine q_iload_n (x := x2) d_X7_endOfLetters_14 rfl ?_
      refine q_iaload (m := 400) d_X7_endOfLetters_15 hA.2.2.2.2.2.1 (by decide) rfl (fun g2 => ?_)
      refine q_callZ (R' := R_X7_isLetter) (runS (As := [vi (s0 (a + 20) x2)]) (rest := []) d_X7_endOfLetters_16.1 cv_7_107 rfl ⟨rfl, rfl, by decide, by decide⟩ (Nat.le_of_ble_eq_true rfl) w_s0 rfl) d_X7_endOfLetters_16.2 (c_X7_isLetter κ (s0 (a + 20) x2) (w_s0 _ _) s0) rfl (fun r3 s4 h_r3 w_s4 => ?_)
      refine q_if_eq d_X7_endOfLetters_19 (inr_b h_r3) (fun c5 => ?_) (fun c5 => ?_)
      · refine q_iload_n (x := x2) d_X7_endOfLetters_28 rfl ?_
        exact q_ireti d_X7_endOfLetters_29 rfl h_x2 w_s4
      · refine q_iinc (x := x2) d_X7_endOfLetters_22 rfl rfl ?_
        refine q_goto d_X7_endOfLetters_25 ?_
        refine q_sub (ls' := [some (vr κ a), none, some (vi (wr (x2 + 1)))]) ⟨rfl, rfl, trivial⟩ ?_
        exact ih (wr (x2 + 1)) (inr_wr _) s4 w_s4
    · refine q_iload_n (x := x2) d_X7_endOfLetters_28 rfl ?_
      exact q_ireti d_X7_endOfLetters_29 rfl h_x2 w_s0
set_option maxHeartbeats 4000000 in
set_option maxRecDepth 10000 in
theorem c_X7_endOfLetters (κ : Kp) (a : Nat) (hA : At7 κ a) (x1 : Int) (h_x1 : InR x1) (s0 : Mem) : ∀ r σ', f_X7_endOfLetters a x1 s0 = some (r, σ') → Ct κ M_X7_endOfLetters R_X7_endOfLetters [vr κ a, vi x1] s0 r σ' := by
  intro r σ' ho
  refine Ct.of (by decide) (Nat.le_of_ble_eq_true rfl) (cat_ok rfl) (fun w_s0 => ?_) ⟨rfl, rfl⟩
  refine q_ent (ls' := [some (vr κ a), some (vi x1), none]) (o := f_X7_endOfLetters a x1 s0) ⟨rfl, rfl, trivial⟩ ?_ ho
  unfold f_X7_endOfLetters
  refine q_iload_n (x := x1) d_X7_endOfLetters_0 rfl ?_
  refine q_istore_n d_X7_endOfLetters_1 rfl ?_
  refine q_sub (ls' := [some (vr κ a), none, some (vi x1)]) ⟨rfl, rfl, trivial⟩ ?_
  exact l_X7_endOfLetters_2 κ a hA   FU x1 h_x1 s0 w_s0
abbrev R_J0_coder_7d493 : Room := { frames := 0, cells := 0, slots := 0, locals := 0 }
noncomputable def f_J0_coder_7d493 (i : Nat) (s0 : Mem) : Res :=
  if (1 : Int) = 0 then (some (1, s0)) else (some (0, s0))
set_option maxHeartbeats 4000000 in
set_option maxRecDepth 10000 in
theorem c_J0_coder_7d493 (κ : Kp) (i : Nat) (hi : i < nStr) (s0 : Mem) : ∀ r σ', f_J0_coder_7d493 i s0 = some (r, σ') → Ct κ M_J0_coder_7d493 R_J0_coder_7d493 [vs κ i] s0 r σ' := by
  intro r σ' ho
  refine Ct.of (by decide) (Nat.le_of_ble_eq_true rfl) (cat_ok rfl) (fun w_s0 => ?_) ⟨rfl, rfl⟩
  refine q_ent (ls' := [some (vs κ i)]) (o := f_J0_coder_7d493 i s0) ⟨rfl, trivial⟩ ?_ ho
  unfold f_J0_coder_7d493
  refine q_gsC d_J0_coder_7d493_0 fl_J0_38 ?_
  refine q_if_eq d_J0_coder_7d493_3 (inr_b (Or.inr rfl)) (fun c1 => ?_) (fun c1 => ?_)
  · refine q_iconst d_J0_coder_7d493_13 ?_
    exact q_iretb d_J0_coder_7d493_14 rfl (Or.inr rfl) w_s0
  · refine q_aload_n d_J0_coder_7d493_6 rfl ?_
    refine q_strC d_J0_coder_7d493_7 hi fl_J0_15 ?_
    refine q_goto d_J0_coder_7d493_10 ?_
    exact q_iretb d_J0_coder_7d493_14 rfl (Or.inl rfl) w_s0
abbrev R_J0_length_8abf5 : Room := { frames := 1, cells := 0, slots := 0, locals := 20 }
noncomputable def f_J0_length_8abf5 (i : Nat) (s0 : Mem) : Res :=
  bd (f_J0_coder_7d493 i s0) fun r1 s2 => some (ishr (slen i) r1, s2)
set_option maxHeartbeats 4000000 in
set_option maxRecDepth 10000 in
theorem c_J0_length_8abf5 (κ : Kp) (i : Nat) (hi : i < nStr) (s0 : Mem) : ∀ r σ', f_J0_length_8abf5 i s0 = some (r, σ') → Ct κ M_J0_length_8abf5 R_J0_length_8abf5 [vs κ i] s0 r σ' := by
  intro r σ' ho
  refine Ct.of (by decide) (Nat.le_of_ble_eq_true rfl) (cat_ok rfl) (fun w_s0 => ?_) ⟨rfl, rfl⟩
  refine q_ent (ls' := [some (vs κ i)]) (o := f_J0_length_8abf5 i s0) ⟨rfl, trivial⟩ ?_ ho
  unfold f_J0_length_8abf5
  refine q_aload_n d_J0_length_8abf5_0 rfl ?_
  refine q_strV d_J0_length_8abf5_1 hi fl_J0_9 ?_
  refine q_blen d_J0_length_8abf5_4 hi ?_
  refine q_aload_n d_J0_length_8abf5_5 rfl ?_
  refine q_callB (R' := R_J0_coder_7d493) (runVS (As := []) (rest := [vi (slen i)]) d_J0_length_8abf5_6.1 cv_J0_335 rfl hi rfl ⟨rfl, rfl, by decide, by decide⟩ (Nat.le_of_ble_eq_true rfl) w_s0 rfl) d_J0_length_8abf5_6.2 (c_J0_coder_7d493 κ i hi s0) rfl (fun r1 s2 h_r1 w_s2 => ?_)
  refine q_ishr d_J0_length_8abf5_9 ?_
  exact q_ireti d_J0_length_8abf5_10 rfl (inr_i32 _) w_s2
abbrev R_J0_isLatin1_aae02 : Room := { frames := 0, cells := 0, slots := 0, locals := 0 }
noncomputable def f_J0_isLatin1_aae02 (i : Nat) (s0 : Mem) : Res :=
  if (1 : Int) = 0 then (some (0, s0)) else (if (0 : Int) = 0 then (some (1, s0)) else (some (0, s0)))
set_option maxHeartbeats 4000000 in
set_option maxRecDepth 10000 in
theorem c_J0_isLatin1_aae02 (κ : Kp) (i : Nat) (hi : i < nStr) (s0 : Mem) : ∀ r σ', f_J0_isLatin1_aae02 i s0 = some (r, σ') → Ct κ M_J0_isLatin1_aae02 R_J0_isLatin1_aae02 [vs κ i] s0 r σ' := by
  intro r σ' ho
  refine Ct.of (by decide) (Nat.le_of_ble_eq_true rfl) (cat_ok rfl) (fun w_s0 => ?_) ⟨rfl, rfl⟩
  refine q_ent (ls' := [some (vs κ i)]) (o := f_J0_isLatin1_aae02 i s0) ⟨rfl, trivial⟩ ?_ ho
  unfold f_J0_isLatin1_aae02
  refine q_gsC d_J0_isLatin1_aae02_0 fl_J0_38 ?_
  refine q_if_eq d_J0_isLatin1_aae02_3 (inr_b (Or.inr rfl)) (fun c1 => ?_) (fun c1 => ?_)
  · refine q_iconst d_J0_isLatin1_aae02_17 ?_
    exact q_iretz d_J0_isLatin1_aae02_18 rfl (Or.inl rfl) w_s0
  · refine q_aload_n d_J0_isLatin1_aae02_6 rfl ?_
    refine q_strC d_J0_isLatin1_aae02_7 hi fl_J0_15 ?_
    refine q_if_ne d_J0_isLatin1_aae02_10 (inr_b (Or.inl rfl)) (fun c2 => ?_) (fun c2 => ?_)
    · refine q_iconst d_J0_isLatin1_aae02_13 ?_
      refine q_goto d_J0_isLatin1_aae02_14 ?_
      exact q_iretz d_J0_isLatin1_aae02_18 rfl (Or.inr rfl) w_s0
    · refine q_iconst d_J0_isLatin1_aae02_17 ?_
      exact q_iretz d_J0_isLatin1_aae02_18 rfl (Or.inl rfl) w_s0
abbrev R_J3_checkIndex_8e157 : Room := { frames := 0, cells := 0, slots := 0, locals := 0 }
noncomputable def f_J3_checkIndex_8e157 (x0 : Int) (x1 : Int) (s0 : Mem) : Res :=
  jn (fun (_ : Unit) => none) fun j9 => if x0 < 0 then (j9 ()) else (if x0 < x1 then (some (x0, s0)) else (j9 ()))
set_option maxHeartbeats 4000000 in
set_option maxRecDepth 10000 in
theorem c_J3_checkIndex_8e157 (κ : Kp) (x0 : Int) (h_x0 : InR x0) (x1 : Int) (h_x1 : InR x1) (s0 : Mem) : ∀ r σ', f_J3_checkIndex_8e157 x0 x1 s0 = some (r, σ') → Ct κ M_J3_checkIndex_8e157 R_J3_checkIndex_8e157 [vi x0, vi x1, vf κ] s0 r σ' := by
  intro r σ' ho
  refine Ct.of (by decide) (Nat.le_of_ble_eq_true rfl) (cat_okF κ (Bs := [vi x0, vi x1]) rfl rfl) (fun w_s0 => ?_) ⟨rfl, rfl⟩
  refine q_ent (ls' := [some (vi x0), some (vi x1), some (vf κ)]) (o := f_J3_checkIndex_8e157 x0 x1 s0) ⟨rfl, rfl, rfl, trivial⟩ ?_ ho
  unfold f_J3_checkIndex_8e157
  refine q_iload_n (x := x0) d_J3_checkIndex_8e157_0 rfl ?_
  refine q_jn (α := Unit → Res) (fun j9 => EO κ M_J3_checkIndex_8e157 R_J3_checkIndex_8e157 9 [some (vi x0), some (vi x1), some (vf κ)] [] s0 (j9 ())) ?_ (fun j9 hj9 => ?_)
  · refine q_loadS_n d_J3_checkIndex_8e157_9 rfl (vf_ref κ) ?_
    refine q_iload_n (x := x0) d_J3_checkIndex_8e157_10 rfl ?_
    refine q_iload_n (x := x1) d_J3_checkIndex_8e157_11 rfl ?_
    exact q_none
  refine q_if_lt d_J3_checkIndex_8e157_1 h_x0 (fun c1 => ?_) (fun c1 => ?_)
  · refine q_sub (ls' := [some (vi x0), some (vi x1), some (vf κ)]) ⟨rfl, rfl, rfl, trivial⟩ ?_
    exact hj9 
  · refine q_iload_n (x := x0) d_J3_checkIndex_8e157_4 rfl ?_
    refine q_iload_n (x := x1) d_J3_checkIndex_8e157_5 rfl ?_
    refine q_icmp_lt d_J3_checkIndex_8e157_6 h_x0 h_x1 (fun c2 => ?_) (fun c2 => ?_)
    · refine q_iload_n (x := x0) d_J3_checkIndex_8e157_16 rfl ?_
      exact q_ireti d_J3_checkIndex_8e157_17 rfl h_x0 w_s0
    · refine q_sub (ls' := [some (vi x0), some (vi x1), some (vf κ)]) ⟨rfl, rfl, rfl, trivial⟩ ?_
      exact hj9 
abbrev R_J0_checkIndex_df160 : Room := { frames := 1, cells := 0, slots := 0, locals := 22 }
noncomputable def f_J0_checkIndex_df160 (x0 : Int) (x1 : Int) (s0 : Mem) : Res :=
  bd (f_J3_checkIndex_8e157 x0 x1 s0) fun r1 s2 => some (0, s2)
set_option maxHeartbeats 4000000 in
set_option maxRecDepth 10000 in
theorem c_J0_checkIndex_df160 (κ : Kp) (x0 : Int) (h_x0 : InR x0) (x1 : Int) (h_x1 : InR x1) (s0 : Mem) : ∀ r σ', f_J0_checkIndex_df160 x0 x1 s0 = some (r, σ') → Ct κ M_J0_checkIndex_df160 R_J0_checkIndex_df160 [vi x0, vi x1] s0 r σ' := by
  intro r σ' ho
  refine Ct.of (by decide) (Nat.le_of_ble_eq_true rfl) (cat_ok rfl) (fun w_s0 => ?_) ⟨rfl, rfl⟩
  refine q_ent (ls' := [some (vi x0), some (vi x1)]) (o := f_J0_checkIndex_df160 x0 x1 s0) ⟨rfl, rfl, trivial⟩ ?_ ho
  unfold f_J0_checkIndex_df160
  refine q_iload_n (x := x0) d_J0_checkIndex_df160_0 rfl ?_
  refine q_iload_n (x := x1) d_J0_checkIndex_df160_1 rfl ?_
  refine q_gsF d_J0_checkIndex_df160_2 fl_J0_1053 ?_
  refine q_callI (R' := R_J3_checkIndex_8e157) (runS (As := [vi x0, vi x1, vf κ]) (rest := []) d_J0_checkIndex_df160_5.1 cv_J0_1059 rfl ⟨rfl, rfl, by decide, by decide⟩ (Nat.le_of_ble_eq_true rfl) w_s0 rfl) d_J0_checkIndex_df160_5.2 (c_J3_checkIndex_8e157 κ x0 h_x0 x1 h_x1 s0) rfl (fun r1 s2 h_r1 w_s2 => ?_)
  refine q_pop d_J0_checkIndex_df160_8 rfl ?_
  exact q_vret d_J0_checkIndex_df160_9 rfl w_s2
abbrev R_J1_charAt_3b067 : Room := { frames := 2, cells := 0, slots := 0, locals := 43 }
noncomputable def f_J1_charAt_3b067 (b0 : Nat) (x1 : Int) (s0 : Mem) : Res :=
  bd (f_J0_checkIndex_df160 x1 (slen b0) s0) fun r1 s2 => gd ((0 : Int) ≤ x1 ∧ x1 < slen b0) (some (ii2c (iand (sbyt b0 x1) 255), s2))
set_option maxHeartbeats 4000000 in
set_option maxRecDepth 10000 in
theorem c_J1_charAt_3b067 (κ : Kp) (b0 : Nat) (hb0 : b0 < nStr) (x1 : Int) (h_x1 : InR x1) (s0 : Mem) : ∀ r σ', f_J1_charAt_3b067 b0 x1 s0 = some (r, σ') → Ct κ M_J1_charAt_3b067 R_J1_charAt_3b067 [vb κ b0, vi x1] s0 r σ' := by
  intro r σ' ho
  refine Ct.of (by decide) (Nat.le_of_ble_eq_true rfl) (cat_ok rfl) (fun w_s0 => ?_) ⟨rfl, rfl⟩
  refine q_ent (ls' := [some (vb κ b0), some (vi x1)]) (o := f_J1_charAt_3b067 b0 x1 s0) ⟨rfl, rfl, trivial⟩ ?_ ho
  unfold f_J1_charAt_3b067
  refine q_iload_n (x := x1) d_J1_charAt_3b067_0 rfl ?_
  refine q_aload_n d_J1_charAt_3b067_1 rfl ?_
  refine q_blen d_J1_charAt_3b067_2 hb0 ?_
  refine q_callV (R' := R_J0_checkIndex_df160) (runS (As := [vi x1, vi (slen b0)]) (rest := []) d_J1_charAt_3b067_3.1 cv_J1_9 rfl ⟨rfl, rfl, by decide, by decide⟩ (Nat.le_of_ble_eq_true rfl) w_s0 rfl) d_J1_charAt_3b067_3.2 (c_J0_checkIndex_df160 κ x1 h_x1 (slen b0) (inr_slen hb0) s0) rfl (fun r1 s2 w_s2 => ?_)
  refine q_aload_n d_J1_charAt_3b067_6 rfl ?_
  refine q_iload_n (x := x1) d_J1_charAt_3b067_7 rfl ?_
  refine q_baload d_J1_charAt_3b067_8 hb0 (fun g3 => ?_)
  refine q_sipush d_J1_charAt_3b067_9 rfl ?_
  refine q_iand d_J1_charAt_3b067_12 ?_
  refine q_i2c d_J1_charAt_3b067_13 ?_
  exact q_iretc d_J1_charAt_3b067_14 rfl (ii2c_in _) w_s2
abbrev R_J0_charAt_5068e : Room := { frames := 3, cells := 0, slots := 0, locals := 64 }
noncomputable def f_J0_charAt_5068e (i : Nat) (x1 : Int) (s0 : Mem) : Res :=
  bd (f_J0_isLatin1_aae02 i s0) fun r1 s2 => if r1 = 0 then (none) else (bd (f_J1_charAt_3b067 i x1 s2) fun r4 s5 => some (r4, s5))
set_option maxHeartbeats 4000000 in
set_option maxRecDepth 10000 in
theorem c_J0_charAt_5068e (κ : Kp) (i : Nat) (hi : i < nStr) (x1 : Int) (h_x1 : InR x1) (s0 : Mem) : ∀ r σ', f_J0_charAt_5068e i x1 s0 = some (r, σ') → Ct κ M_J0_charAt_5068e R_J0_charAt_5068e [vs κ i, vi x1] s0 r σ' := by
  intro r σ' ho
  refine Ct.of (by decide) (Nat.le_of_ble_eq_true rfl) (cat_ok rfl) (fun w_s0 => ?_) ⟨rfl, rfl⟩
  refine q_ent (ls' := [some (vs κ i), some (vi x1)]) (o := f_J0_charAt_5068e i x1 s0) ⟨rfl, rfl, trivial⟩ ?_ ho
  unfold f_J0_charAt_5068e
  refine q_aload_n d_J0_charAt_5068e_0 rfl ?_
  refine q_callZ (R' := R_J0_isLatin1_aae02) (runVS (As := []) (rest := []) d_J0_charAt_5068e_1.1 cv_J0_492 rfl hi rfl ⟨rfl, rfl, by decide, by decide⟩ (Nat.le_of_ble_eq_true rfl) w_s0 rfl) d_J0_charAt_5068e_1.2 (c_J0_isLatin1_aae02 κ i hi s0) rfl (fun r1 s2 h_r1 w_s2 => ?_)
  refine q_if_eq d_J0_charAt_5068e_4 (inr_b h_r1) (fun c3 => ?_) (fun c3 => ?_)
  · refine q_aload_n d_J0_charAt_5068e_16 rfl ?_
    refine q_strV d_J0_charAt_5068e_17 hi fl_J0_9 ?_
    refine q_iload_n (x := x1) d_J0_charAt_5068e_20 rfl ?_
    exact q_none
  · refine q_aload_n d_J0_charAt_5068e_7 rfl ?_
    refine q_strV d_J0_charAt_5068e_8 hi fl_J0_9 ?_
    refine q_iload_n (x := x1) d_J0_charAt_5068e_11 rfl ?_
    refine q_callC (R' := R_J1_charAt_3b067) (runS (As := [vb κ i, vi x1]) (rest := []) d_J0_charAt_5068e_12.1 cv_J0_495 rfl ⟨rfl, rfl, by decide, by decide⟩ (Nat.le_of_ble_eq_true rfl) w_s2 rfl) d_J0_charAt_5068e_12.2 (c_J1_charAt_3b067 κ i hi x1 h_x1 s2) rfl (fun r4 s5 h_r4 w_s5 => ?_)
    exact q_iretc d_J0_charAt_5068e_15 rfl h_r4 w_s5
abbrev R_X7_keyword : Room := { frames := 4, cells := 0, slots := 0, locals := 85 }
noncomputable def f_X7_keyword_11 (a : Nat) (p1 : Int) (p2 : Int) (k101 : Mem → Res) : Nat → Int → Int → Int → Int → Mem → Res
  | 0, _, _, _, _, _ => none
  | n + 1, x3, x4, x5, x6, s0 =>
    bd (f_J0_length_8abf5 1 s0) fun r2 s3 => if x6 < r2 then (bd (f_J0_charAt_5068e 1 x6 s3) fun r5 s6 => jn (fun (v7 : Int) (v8 : Int) (v9 : Int) => f_X7_keyword_11 a p1 p2 k101 n v7 v8 v9 (wr (x6 + 1)) s6) fun j95 => if r5 = 32 then (jn (fun (_ : Unit) => j95 (wr (x3 + 1)) p1 1) fun j50 => if x5 = 0 then (j50 ()) else (if x4 = p2 then (some (x3, s6)) else (j50 ()))) else (jn (fun (y13 : Int) => j95 x3 (wr (x4 + 1)) y13) fun j90 => jn (fun (_ : Unit) => j90 0) fun j89 => if x5 = 0 then (j89 ()) else (if x4 < p2 then (gd ((0 : Int) ≤ x4 ∧ x4 < 400) (if s6 (a + 20) x4 = r5 then (j90 1) else (j89 ()))) else (j89 ())))) else (k101 s3)
noncomputable def f_X7_keyword (a : Nat) (x1 : Int) (x2 : Int) (s0 : Mem) : Res :=
  jn (fun (s1 : Mem) => some (32, s1)) fun j101 => f_X7_keyword_11 a x1 x2 j101 FU 0 x1 1 0 s0
set_option maxHeartbeats 4000000 in
set_option maxRecDepth 10000 in
theorem l_X7_keyword_11 (κ : Kp) (a : Nat) (hA : At7 κ a) (p1 : Int) (h_p1 : InR p1) (p2 : Int) (h_p2 : InR p2) (k101 : Mem → Res) (hk101 : ∀ (sz : Mem) (w_sz : WF sz), EO κ M_X7_keyword R_X7_keyword 101 [none, none, none, none, none, none, none, none] [] sz (k101 sz)) : ∀ (n : Nat) (x3 : Int) (h_x3 : InR x3) (x4 : Int) (h_x4 : InR x4) (x5 : Int) (h_x5 : x5 = 0 ∨ x5 = 1) (x6 : Int) (h_x6 : InR x6) (s0 : Mem) (w_s0 : WF s0), EO κ M_X7_keyword R_X7_keyword 11 [some (vr κ a), some (vi p1), some (vi p2), some (vi x3), some (vi x4), some (vi x5), some (vi x6), none] [] s0 (f_X7_keyword_11 a p1 p2 k101 n x3 x4 x5 x6 s0) := by
  intro n
  induction n with
  | zero => exact fun _ _ _ _ _ _ _ _ _ _ => q_none
  | succ n ih =>
    intro x3 h_x3 x4 h_x4 x5 h_x5 x6 h_x6 s0 w_s0
    rw [f_X7_keyword_11]
    refine q_iload (x := x6) d_X7_keyword_11 rfl ?_
    refine q_ldcS d_X7_keyword_13 sr_7_143 ?_
    refine q_callI (R' := R_J0_length_8abf5) (runVS (As := []) (rest := [vi x6]) d_X7_keyword_15.1 cv_7_145 rfl (Nat.le_of_ble_eq_true rfl) rfl ⟨rfl, rfl, by decide, by decide⟩ (Nat.le_of_ble_eq_true rfl) w_s0 rfl) d_X7_keyword_15.2 (c_J0_length_8abf5 κ 1 (Nat.le_of_ble_eq_true rfl) s0) rfl (fun r2 s3 h_r2 w_s3 => ?_)
    refine q_icmp_ge d_X7_keyword_18 h_x6 h_r2 (fun c4 => ?_) (fun c4 => ?_)
    · refine q_ldcS d_X7_keyword_21 sr_7_143 ?_
      refine q_iload (x := x6) d_X7_keyword_23 rfl ?_
      refine q_callC (R' := R_J0_charAt_5068e) (runVS (As := [vi x6]) (rest := []) d_X7_keyword_25.1 cv_7_147 rfl (Nat.le_of_ble_eq_true rfl) rfl ⟨rfl, rfl, by decide, by decide⟩ (Nat.le_of_ble_eq_true rfl) w_s3 rfl) d_X7_keyword_25.2 (c_J0_charAt_5068e κ 1 (Nat.le_of_ble_eq_true rfl) x6 h_x6 s3) rfl (fun r5 s6 h_r5 w_s6 => ?_)
      refine q_istore d_X7_keyword_28 rfl ?_
      refine q_iload (x := r5) d_X7_keyword_30 rfl ?_
      refine q_bipush d_X7_keyword_32 rfl ?_
      refine q_jn (α := Int → Int → Int → Res) (fun j95 => ∀ (v7 : Int) (h_v7 : InR v7) (v8 : Int) (h_v8 : InR v8) (v9 : Int) (h_v9 : v9 = 0 ∨ v9 = 1), EO κ M_X7_keyword R_X7_keyword 95 [some (vr κ a), some (vi p1), some (vi p2), some (vi v7), some (vi v8), some (vi v9), some (vi x6), none] [] s6 (j95 v7 v8 v9)) ?_ (fun j95 hj95 => ?_)
      · intro v7 h_v7 v8 h_v8 v9 h_v9
        refine q_iinc (x := x6) d_X7_keyword_95 rfl rfl ?_
        refine q_goto d_X7_keyword_98 ?_
        refine q_sub (ls' := [some (vr κ a), some (vi p1), some (vi p2), some (vi v7), some (vi v8), some (vi v9), some (vi (wr (x6 + 1))), none]) ⟨rfl, rfl, rfl, rfl, rfl, rfl, rfl, trivial⟩ ?_
        exact ih v7 h_v7 v8 h_v8 v9 h_v9 (wr (x6 + 1)) (inr_wr _) s6 w_s6
      refine q_icmp_ne d_X7_keyword_34 (inr_c h_r5) (inr_d rfl) (fun c10 => ?_) (fun c10 => ?_)
      · refine q_iload (x := x5) d_X7_keyword_37 rfl ?_
        refine q_jn (α := Unit → Res) (fun j50 => EO κ M_X7_keyword R_X7_keyword 50 [some (vr κ a), some (vi p1), some (vi p2), some (vi x3), none, none, some (vi x6), none] [] s6 (j50 ())) ?_ (fun j50 hj50 => ?_)
        · refine q_iinc (x := x3) d_X7_keyword_50 rfl rfl ?_
          refine q_iload_n (x := p1) d_X7_keyword_53 rfl ?_
          refine q_istore d_X7_keyword_54 rfl ?_
          refine q_iconst d_X7_keyword_56 ?_
          refine q_istore d_X7_keyword_57 rfl ?_
          refine q_goto d_X7_keyword_59 ?_
          refine q_sub (ls' := [some (vr κ a), some (vi p1), some (vi p2), some (vi (wr (x3 + 1))), some (vi p1), some (vi 1), some (vi x6), none]) ⟨rfl, rfl, rfl, rfl, rfl, rfl, rfl, trivial⟩ ?_
          exact hj95 (wr (x3 + 1)) (inr_wr _) p1 h_p1 1 (Or.inr rfl)
        refine q_if_eq d_X7_keyword_39 (inr_b h_x5) (fun c11 => ?_) (fun c11 => ?_)
        · refine q_sub (ls' := [some (vr κ a), some (vi p1), some (vi p2), some (vi x3), none, none, some (vi x6), none]) ⟨rfl, rfl, rfl, rfl, rfl, trivial⟩ ?_
          exact hj50 
        · refine q_iload (x := x4) d_X7_keyword_42 rfl ?_
          refine q_iload_n (x := p2) d_X7_keyword_44 rfl ?_
          refine q_icmp_ne d_X7_keyword_45 h_x4 h_p2 (fun c12 => ?_) (fun c12 => ?_)
          · refine q_iload_n (x := x3) d_X7_keyword_48 rfl ?_
            exact q_ireti d_X7_keyword_49 rfl h_x3 w_s6
          · refine q_sub (ls' := [some (vr κ a), some (vi p1), some (vi p2), some (vi x3), none, none, some (vi x6), none]) ⟨rfl, rfl, rfl, rfl, rfl, trivial⟩ ?_
            exact hj50 
      · refine q_iload (x := x5) d_X7_keyword_62 rfl ?_
        refine q_jn (α := Int → Res) (fun j90 => ∀ (y13 : Int) (h_y13 : y13 = 0 ∨ y13 = 1), EO κ M_X7_keyword R_X7_keyword 90 [some (vr κ a), some (vi p1), some (vi p2), some (vi x3), some (vi x4), none, some (vi x6), none] [vi y13] s6 (j90 y13)) ?_ (fun j90 hj90 => ?_)
        · intro y13 h_y13
          refine q_istore d_X7_keyword_90 rfl ?_
          refine q_iinc (x := x4) d_X7_keyword_92 rfl rfl ?_
          refine q_sub (ls' := [some (vr κ a), some (vi p1), some (vi p2), some (vi x3), some (vi (wr (x4 + 1))), some (vi y13), some (vi x6), none]) ⟨rfl, rfl, rfl, rfl, rfl, rfl, rfl, trivial⟩ ?_
          exact hj95 x3 h_x3 (wr (x4 + 1)) (inr_wr _) y13 h_y13
        refine q_jn (α := Unit → Res) (fun j89 => EO κ M_X7_keyword R_X7_keyword 89 [some (vr κ a), some (vi p1), some (vi p2), some (vi x3), some (vi x4), none, some (vi x6), none] [] s6 (j89 ())) ?_ (fun j89 hj89 => ?_)
        · refine q_iconst d_X7_keyword_89 ?_
          refine q_sub (ls' := [some (vr κ a), some (vi p1), some (vi p2), some (vi x3), some (vi x4), none, some (vi x6), none]) ⟨rfl, rfl, rfl, rfl, rfl, rfl, trivial⟩ ?_
          exact hj90 0 (Or.inl rfl)
        refine q_if_eq d_X7_keyword_64 (inr_b h_x5) (fun c14 => ?_) (fun c14 => ?_)
        · refine q_sub (ls' := [some (vr κ a), some (vi p1), some (vi p2), some (vi x3), some (vi x4), none, some (vi x6), none]) ⟨rfl, rfl, rfl, rfl, rfl, rfl, trivial⟩ ?_
          exact hj89 
        · refine q_iload (x := x4) d_X7_keyword_67 rfl ?_
          refine q_iload_n (x := p2) d_X7_keyword_69 rfl ?_
          refine q_icmp_ge d_X7_keyword_70 h_x4 h_p2 (fun c15 => ?_) (fun c15 => ?_)
          · refine q_aload_n d_X7_keyword_73 rfl ?_
            refine q_getR (n := 20) d_X7_keyword_74 hA.1 fi_7_43 rfl (Nat.le_of_ble_eq_true rfl) ?_
            refine q_iload (x := x4) d_X7_keyword_77 rfl ?_
            refine q_iaload (m := 400) d_X7_keyword_79 hA.2.2.2.2.2.1 (by decide) rfl (fun g16 => ?_)
            refine q_iload (x := r5) d_X7_keyword_80 rfl ?_
            refine q_icmp_ne d_X7_keyword_82 (w_s6 _ _) (inr_c h_r5) (fun c17 => ?_) (fun c17 => ?_)
            · refine q_iconst d_X7_keyword_85 ?_
              refine q_goto d_X7_keyword_86 ?_
              refine q_sub (ls' := [some (vr κ a), some (vi p1), some (vi p2), some (vi x3), some (vi x4), none, some (vi x6), none]) ⟨rfl, rfl, rfl, rfl, rfl, rfl, trivial⟩ ?_
              exact hj90 1 (Or.inr rfl)
            · refine q_sub (ls' := [some (vr κ a), some (vi p1), some (vi p2), some (vi x3), some (vi x4), none, some (vi x6), none]) ⟨rfl, rfl, rfl, rfl, rfl, rfl, trivial⟩ ?_
              exact hj89 
          · refine q_sub (ls' := [some (vr κ a), some (vi p1), some (vi p2), some (vi x3), some (vi x4), none, some (vi x6), none]) ⟨rfl, rfl, rfl, rfl, rfl, rfl, trivial⟩ ?_
            exact hj89 
    · refine q_sub (ls' := [none, none, none, none, none, none, none, none]) trivial ?_
      exact hk101 s3 w_s3
set_option maxHeartbeats 4000000 in
set_option maxRecDepth 10000 in
theorem c_X7_keyword (κ : Kp) (a : Nat) (hA : At7 κ a) (x1 : Int) (h_x1 : InR x1) (x2 : Int) (h_x2 : InR x2) (s0 : Mem) : ∀ r σ', f_X7_keyword a x1 x2 s0 = some (r, σ') → Ct κ M_X7_keyword R_X7_keyword [vr κ a, vi x1, vi x2] s0 r σ' := by
  intro r σ' ho
  refine Ct.of (by decide) (Nat.le_of_ble_eq_true rfl) (cat_ok rfl) (fun w_s0 => ?_) ⟨rfl, rfl⟩
  refine q_ent (ls' := [some (vr κ a), some (vi x1), some (vi x2), none, none, none, none, none]) (o := f_X7_keyword a x1 x2 s0) ⟨rfl, rfl, rfl, trivial⟩ ?_ ho
  unfold f_X7_keyword
  refine q_iconst d_X7_keyword_0 ?_
  refine q_istore_n d_X7_keyword_1 rfl ?_
  refine q_iload_n (x := x1) d_X7_keyword_2 rfl ?_
  refine q_istore d_X7_keyword_3 rfl ?_
  refine q_iconst d_X7_keyword_5 ?_
  refine q_istore d_X7_keyword_6 rfl ?_
  refine q_iconst d_X7_keyword_8 ?_
  refine q_istore d_X7_keyword_9 rfl ?_
  refine q_jn (α := Mem → Res) (fun j101 => ∀ (s1 : Mem) (w_s1 : WF s1), EO κ M_X7_keyword R_X7_keyword 101 [none, none, none, none, none, none, none, none] [] s1 (j101 s1)) ?_ (fun j101 hj101 => ?_)
  · intro s1 w_s1
    refine q_bipush d_X7_keyword_101 rfl ?_
    exact q_ireti d_X7_keyword_103 rfl (inr_d rfl) w_s1
  refine q_sub (ls' := [some (vr κ a), some (vi x1), some (vi x2), some (vi 0), some (vi x1), some (vi 1), some (vi 0), none]) ⟨rfl, rfl, rfl, rfl, rfl, rfl, rfl, trivial⟩ ?_
  exact l_X7_keyword_11 κ a hA x1 h_x1 x2 h_x2 j101 hj101 FU 0 (inr_b (Or.inl rfl)) x1 h_x1 1 (Or.inr rfl) 0 (inr_b (Or.inl rfl)) s0 w_s0
abbrev R_X7_note : Room := { frames := 0, cells := 0, slots := 0, locals := 0 }
noncomputable def f_X7_note (a : Nat) (x1 : Int) (x2 : Int) (x3 : Int) (s0 : Mem) : Res :=
  if s0 a 11 < 401 then (gd ((0 : Int) ≤ s0 a 11 ∧ s0 a 11 < 401) (lm (mup s0 (a + 21) (s0 a 11) x1) fun s3 => gd ((0 : Int) ≤ s3 a 11 ∧ s3 a 11 < 401) (lm (mup s3 (a + 22) (s3 a 11) x2) fun s5 => gd ((0 : Int) ≤ s5 a 11 ∧ s5 a 11 < 401) (lm (mup s5 (a + 23) (s5 a 11) x3) fun s7 => lm (mup s7 a 11 (wr ((s7 a 11) + 1))) fun s8 => some (0, s8))))) else (some (0, s0))
set_option maxHeartbeats 4000000 in
set_option maxRecDepth 10000 in
theorem c_X7_note (κ : Kp) (a : Nat) (hA : At7 κ a) (x1 : Int) (h_x1 : InR x1) (x2 : Int) (h_x2 : InR x2) (x3 : Int) (h_x3 : InR x3) (s0 : Mem) : ∀ r σ', f_X7_note a x1 x2 x3 s0 = some (r, σ') → Ct κ M_X7_note R_X7_note [vr κ a, vi x1, vi x2, vi x3] s0 r σ' := by
  intro r σ' ho
  refine Ct.of (by decide) (Nat.le_of_ble_eq_true rfl) (cat_ok rfl) (fun w_s0 => ?_) ⟨rfl, rfl⟩
  refine q_ent (ls' := [some (vr κ a), some (vi x1), some (vi x2), some (vi x3)]) (o := f_X7_note a x1 x2 x3 s0) ⟨rfl, rfl, rfl, rfl, trivial⟩ ?_ ho
  unfold f_X7_note
  refine q_aload_n d_X7_note_0 rfl ?_
  refine q_getI (k := 11) (j := 11) d_X7_note_1 hA.1 fi_7_83 rfl rfl ?_
  refine q_aload_n d_X7_note_4 rfl ?_
  refine q_getR (n := 21) d_X7_note_5 hA.1 fi_7_47 rfl (Nat.le_of_ble_eq_true rfl) ?_
  refine q_alen (m := 401) d_X7_note_8 hA.2.2.2.2.2.2.1 rfl ?_
  refine q_icmp_ge d_X7_note_9 (w_s0 _ _) (inr_d rfl) (fun c1 => ?_) (fun c1 => ?_)
  · refine q_aload_n d_X7_note_12 rfl ?_
    refine q_getR (n := 21) d_X7_note_13 hA.1 fi_7_47 rfl (Nat.le_of_ble_eq_true rfl) ?_
    refine q_aload_n d_X7_note_16 rfl ?_
    refine q_getI (k := 11) (j := 11) d_X7_note_17 hA.1 fi_7_83 rfl rfl ?_
    refine q_iload_n (x := x1) d_X7_note_20 rfl ?_
    refine q_iastore (m := 401) d_X7_note_21 hA.2.2.2.2.2.2.1 (by decide) rfl h_x1 w_s0 (fun g2 s3 w_s3 => ?_)
    refine q_aload_n d_X7_note_22 rfl ?_
    refine q_getR (n := 22) d_X7_note_23 hA.1 fi_7_50 rfl (Nat.le_of_ble_eq_true rfl) ?_
    refine q_aload_n d_X7_note_26 rfl ?_
    refine q_getI (k := 11) (j := 11) d_X7_note_27 hA.1 fi_7_83 rfl rfl ?_
    refine q_iload_n (x := x2) d_X7_note_30 rfl ?_
    refine q_iastore (m := 401) d_X7_note_31 hA.2.2.2.2.2.2.2.1 (by decide) rfl h_x2 w_s3 (fun g4 s5 w_s5 => ?_)
    refine q_aload_n d_X7_note_32 rfl ?_
    refine q_getR (n := 23) d_X7_note_33 hA.1 fi_7_53 rfl (Nat.le_of_ble_eq_true rfl) ?_
    refine q_aload_n d_X7_note_36 rfl ?_
    refine q_getI (k := 11) (j := 11) d_X7_note_37 hA.1 fi_7_83 rfl rfl ?_
    refine q_iload_n (x := x3) d_X7_note_40 rfl ?_
    refine q_iastore (m := 401) d_X7_note_41 hA.2.2.2.2.2.2.2.2.1 (by decide) rfl h_x3 w_s5 (fun g6 s7 w_s7 => ?_)
    refine q_aload_n d_X7_note_42 rfl ?_
    refine q_dup d_X7_note_43 rfl ?_
    refine q_getI (k := 11) (j := 11) d_X7_note_44 hA.1 fi_7_83 rfl rfl ?_
    refine q_iconst d_X7_note_47 ?_
    refine q_iadd d_X7_note_48 ?_
    refine q_putI (k := 11) (j := 11) d_X7_note_49 hA.1 fp_7_83 rfl rfl (inr_wr _) w_s7 (fun s8 w_s8 => ?_)
    exact q_vret d_X7_note_52 rfl w_s8
  · exact q_vret d_X7_note_52 rfl w_s0
abbrev R_X7_isDigit : Room := { frames := 1, cells := 0, slots := 0, locals := 22 }
noncomputable def f_X7_isDigit (x0 : Int) (s0 : Mem) : Res :=
  bd (f_X11_within x0 48 57 s0) fun r1 s2 => some (r1, s2)
set_option maxHeartbeats 4000000 in
set_option maxRecDepth 10000 in
theorem c_X7_isDigit (κ : Kp) (x0 : Int) (h_x0 : InR x0) (s0 : Mem) : ∀ r σ', f_X7_isDigit x0 s0 = some (r, σ') → Ct κ M_X7_isDigit R_X7_isDigit [vi x0] s0 r σ' := by
  intro r σ' ho
  refine Ct.of (by decide) (Nat.le_of_ble_eq_true rfl) (cat_ok rfl) (fun w_s0 => ?_) ⟨rfl, rfl⟩
  refine q_ent (ls' := [some (vi x0)]) (o := f_X7_isDigit x0 s0) ⟨rfl, trivial⟩ ?_ ho
  unfold f_X7_isDigit
  refine q_iload_n (x := x0) d_X7_isDigit_0 rfl ?_
  refine q_bipush d_X7_isDigit_1 rfl ?_
  refine q_bipush d_X7_isDigit_3 rfl ?_
  refine q_callZ (R' := R_X11_within) (runN (As := [vi x0, vi 48, vi 57]) (rest := []) d_X7_isDigit_5.1 cv_7_68 rfl ⟨rfl, rfl, by decide, by decide⟩ (Nat.le_of_ble_eq_true rfl) w_s0 rfl) d_X7_isDigit_5.2 (c_X11_within κ x0 h_x0 48 (inr_d rfl) 57 (inr_d rfl) s0) rfl (fun r1 s2 h_r1 w_s2 => ?_)
  exact q_iretz d_X7_isDigit_8 rfl h_r1 w_s2
abbrev R_X7_endOfDigits : Room := { frames := 2, cells := 0, slots := 0, locals := 42 }
noncomputable def f_X7_endOfDigits_2 (a : Nat) : Nat → Int → Mem → Res
  | 0, _, _ => none
  | n + 1, x2, s0 =>
    if x2 < s0 a 4 then (gd ((0 : Int) ≤ x2 ∧ x2 < 400) (bd (f_X7_isDigit (s0 (a + 20) x2) s0) fun r3 s4 => if r3 = 0 then (some (x2, s4)) else (f_X7_endOfDigits_2 a n (wr (x2 + 1)) s4))) else (some (x2, s0))
noncomputable def f_X7_endOfDigits (a : Nat) (x1 : Int) (s0 : Mem) : Res :=
  f_X7_endOfDigits_2 a FU x1 s0
set_option maxHeartbeats 4000000 in
set_option maxRecDepth 10000 in
theorem l_X7_endOfDigits_2 (κ : Kp) (a : Nat) (hA : At7 κ a)   : ∀ (n : Nat) (x2 : Int) (h_x2 : InR x2) (s0 : Mem) (w_s0 : WF s0), EO κ M_X7_endOfDigits R_X7_endOfDigits 2 [some (vr κ a), none, some (vi x2)] [] s0 (f_X7_endOfDigits_2 a n x2 s0) := by
  intro n
  induction n with
  | zero => exact fun _ _ _ _ => q_none
  | succ n ih =>
    intro x2 h_x2 s0 w_s0
    rw [f_X7_endOfDigits_2]
    refine q_iload_n (x := x2) d_X7_endOfDigits_2 rfl ?_
    refine q_aload_n d_X7_endOfDigits_3 rfl ?_
    refine q_getI (k := 4) (j := 4) d_X7_endOfDigits_4 hA.1 fi_7_59 rfl rfl ?_
    refine q_icmp_ge d_X7_endOfDigits_7 h_x2 (w_s0 _ _) (fun c1 => ?_) (fun c1 => ?_)
    · refine q_aload_n d_X7_endOfDigits_10 rfl ?_
      refine q_getR (n := 20) d_X7_endOfDigits_11 hA.1 fi_7_43 rfl (Nat.le_of_ble_eq_true rfl) ?_
      refine q_iload_n (x := x2) d_X7_endOfDigits_14 rfl ?_
      refine q_iaload (m := 400) d_X7_endOfDigits_15 hA.2.2.2.2.2.1 (by decide) rfl (fun g2 => ?_)
      refine q_callZ (R' := R_X7_isDigit) (runS (As := [vi (s0 (a + 20) x2)]) (rest := []) d_X7_endOfDigits_16.1 cv_7_122 rfl ⟨rfl, rfl, by decide, by decide⟩ (Nat.le_of_ble_eq_true rfl) w_s0 rfl) d_X7_endOfDigits_16.2 (c_X7_isDigit κ (s0 (a + 20) x2) (w_s0 _ _) s0) rfl (fun r3 s4 h_r3 w_s4 => ?_)
      refine q_if_eq d_X7_endOfDigits_19 (inr_b h_r3) (fun c5 => ?_) (fun c5 => ?_)
      · refine q_iload_n (x := x2) d_X7_endOfDigits_28 rfl ?_
        exact q_ireti d_X7_endOfDigits_29 rfl h_x2 w_s4
      · refine q_iinc (x := x2) d_X7_endOfDigits_22 rfl rfl ?_
        refine q_goto d_X7_endOfDigits_25 ?_
        refine q_sub (ls' := [some (vr κ a), none, some (vi (wr (x2 + 1)))]) ⟨rfl, rfl, trivial⟩ ?_
        exact ih (wr (x2 + 1)) (inr_wr _) s4 w_s4
    · refine q_iload_n (x := x2) d_X7_endOfDigits_28 rfl ?_
      exact q_ireti d_X7_endOfDigits_29 rfl h_x2 w_s0
set_option maxHeartbeats 4000000 in
set_option maxRecDepth 10000 in
theorem c_X7_endOfDigits (κ : Kp) (a : Nat) (hA : At7 κ a) (x1 : Int) (h_x1 : InR x1) (s0 : Mem) : ∀ r σ', f_X7_endOfDigits a x1 s0 = some (r, σ') → Ct κ M_X7_endOfDigits R_X7_endOfDigits [vr κ a, vi x1] s0 r σ' := by
  intro r σ' ho
  refine Ct.of (by decide) (Nat.le_of_ble_eq_true rfl) (cat_ok rfl) (fun w_s0 => ?_) ⟨rfl, rfl⟩
  refine q_ent (ls' := [some (vr κ a), some (vi x1), none]) (o := f_X7_endOfDigits a x1 s0) ⟨rfl, rfl, trivial⟩ ?_ ho
  unfold f_X7_endOfDigits
  refine q_iload_n (x := x1) d_X7_endOfDigits_0 rfl ?_
  refine q_istore_n d_X7_endOfDigits_1 rfl ?_
  refine q_sub (ls' := [some (vr κ a), none, some (vi x1)]) ⟨rfl, rfl, trivial⟩ ?_
  exact l_X7_endOfDigits_2 κ a hA   FU x1 h_x1 s0 w_s0
abbrev R_X7_valueOf : Room := { frames := 0, cells := 0, slots := 0, locals := 0 }
noncomputable def f_X7_valueOf_5 (a : Nat) (p1 : Int) (p2 : Int) (s0 : Mem) : Nat → Int → Int → Res
  | 0, _, _ => none
  | n + 1, x3, x4 =>
    if x4 < p2 then (if x4 < wr (p1 + 4) then (gd ((0 : Int) ≤ x4 ∧ x4 < 400) (f_X7_valueOf_5 a p1 p2 s0 n (wr ((wr ((wr (x3 * 10)) + (s0 (a + 20) x4))) - 48)) (wr (x4 + 1)))) else (some (x3, s0))) else (some (x3, s0))
noncomputable def f_X7_valueOf (a : Nat) (x1 : Int) (x2 : Int) (s0 : Mem) : Res :=
  f_X7_valueOf_5 a x1 x2 s0 FU 0 x1
set_option maxHeartbeats 4000000 in
set_option maxRecDepth 10000 in
theorem l_X7_valueOf_5 (κ : Kp) (a : Nat) (hA : At7 κ a) (p1 : Int) (h_p1 : InR p1) (p2 : Int) (h_p2 : InR p2)  (s0 : Mem) (w_s0 : WF s0)  : ∀ (n : Nat) (x3 : Int) (h_x3 : InR x3) (x4 : Int) (h_x4 : InR x4), EO κ M_X7_valueOf R_X7_valueOf 5 [some (vr κ a), some (vi p1), some (vi p2), some (vi x3), some (vi x4)] [] s0 (f_X7_valueOf_5 a p1 p2 s0 n x3 x4) := by
  intro n
  induction n with
  | zero => exact fun _ _ _ _ => q_none
  | succ n ih =>
    intro x3 h_x3 x4 h_x4
    rw [f_X7_valueOf_5]
    refine q_iload (x := x4) d_X7_valueOf_5 rfl ?_
    refine q_iload_n (x := p2) d_X7_valueOf_7 rfl ?_
    refine q_icmp_ge d_X7_valueOf_8 h_x4 h_p2 (fun c1 => ?_) (fun c1 => ?_)
    · refine q_iload (x := x4) d_X7_valueOf_11 rfl ?_
      refine q_iload_n (x := p1) d_X7_valueOf_13 rfl ?_
      refine q_iconst d_X7_valueOf_14 ?_
      refine q_iadd d_X7_valueOf_15 ?_
      refine q_icmp_ge d_X7_valueOf_16 h_x4 (inr_wr _) (fun c2 => ?_) (fun c2 => ?_)
      · refine q_iload_n (x := x3) d_X7_valueOf_19 rfl ?_
        refine q_bipush d_X7_valueOf_20 rfl ?_
        refine q_imul d_X7_valueOf_22 ?_
        refine q_aload_n d_X7_valueOf_23 rfl ?_
        refine q_getR (n := 20) d_X7_valueOf_24 hA.1 fi_7_43 rfl (Nat.le_of_ble_eq_true rfl) ?_
        refine q_iload (x := x4) d_X7_valueOf_27 rfl ?_
        refine q_iaload (m := 400) d_X7_valueOf_29 hA.2.2.2.2.2.1 (by decide) rfl (fun g3 => ?_)
        refine q_iadd d_X7_valueOf_30 ?_
        refine q_bipush d_X7_valueOf_31 rfl ?_
        refine q_isub d_X7_valueOf_33 ?_
        refine q_istore_n d_X7_valueOf_34 rfl ?_
        refine q_iinc (x := x4) d_X7_valueOf_35 rfl rfl ?_
        refine q_goto d_X7_valueOf_38 ?_
        refine q_sub (ls' := [some (vr κ a), some (vi p1), some (vi p2), some (vi (wr ((wr ((wr (x3 * 10)) + (s0 (a + 20) x4))) - 48))), some (vi (wr (x4 + 1)))]) ⟨rfl, rfl, rfl, rfl, rfl, trivial⟩ ?_
        exact ih (wr ((wr ((wr (x3 * 10)) + (s0 (a + 20) x4))) - 48)) (inr_wr _) (wr (x4 + 1)) (inr_wr _)
      · refine q_iload_n (x := x3) d_X7_valueOf_41 rfl ?_
        exact q_ireti d_X7_valueOf_42 rfl h_x3 w_s0
    · refine q_iload_n (x := x3) d_X7_valueOf_41 rfl ?_
      exact q_ireti d_X7_valueOf_42 rfl h_x3 w_s0
set_option maxHeartbeats 4000000 in
set_option maxRecDepth 10000 in
theorem c_X7_valueOf (κ : Kp) (a : Nat) (hA : At7 κ a) (x1 : Int) (h_x1 : InR x1) (x2 : Int) (h_x2 : InR x2) (s0 : Mem) : ∀ r σ', f_X7_valueOf a x1 x2 s0 = some (r, σ') → Ct κ M_X7_valueOf R_X7_valueOf [vr κ a, vi x1, vi x2] s0 r σ' := by
  intro r σ' ho
  refine Ct.of (by decide) (Nat.le_of_ble_eq_true rfl) (cat_ok rfl) (fun w_s0 => ?_) ⟨rfl, rfl⟩
  refine q_ent (ls' := [some (vr κ a), some (vi x1), some (vi x2), none, none]) (o := f_X7_valueOf a x1 x2 s0) ⟨rfl, rfl, rfl, trivial⟩ ?_ ho
  unfold f_X7_valueOf
  refine q_iconst d_X7_valueOf_0 ?_
  refine q_istore_n d_X7_valueOf_1 rfl ?_
  refine q_iload_n (x := x1) d_X7_valueOf_2 rfl ?_
  refine q_istore d_X7_valueOf_3 rfl ?_
  refine q_sub (ls' := [some (vr κ a), some (vi x1), some (vi x2), some (vi 0), some (vi x1)]) ⟨rfl, rfl, rfl, rfl, rfl, trivial⟩ ?_
  exact l_X7_valueOf_5 κ a hA x1 h_x1 x2 h_x2  s0 w_s0  FU 0 (inr_b (Or.inl rfl)) x1 h_x1
abbrev R_J1_canEncode_9a6ad : Room := { frames := 0, cells := 0, slots := 0, locals := 0 }
noncomputable def f_J1_canEncode_9a6ad (x0 : Int) (s0 : Mem) : Res :=
  if x0 < 0 then (some (0, s0)) else (if 255 < x0 then (some (0, s0)) else (some (1, s0)))
set_option maxHeartbeats 4000000 in
set_option maxRecDepth 10000 in
theorem c_J1_canEncode_9a6ad (κ : Kp) (x0 : Int) (h_x0 : InR x0) (s0 : Mem) : ∀ r σ', f_J1_canEncode_9a6ad x0 s0 = some (r, σ') → Ct κ M_J1_canEncode_9a6ad R_J1_canEncode_9a6ad [vi x0] s0 r σ' := by
  intro r σ' ho
  refine Ct.of (by decide) (Nat.le_of_ble_eq_true rfl) (cat_ok rfl) (fun w_s0 => ?_) ⟨rfl, rfl⟩
  refine q_ent (ls' := [some (vi x0)]) (o := f_J1_canEncode_9a6ad x0 s0) ⟨rfl, trivial⟩ ?_ ho
  unfold f_J1_canEncode_9a6ad
  refine q_iload_n (x := x0) d_J1_canEncode_9a6ad_0 rfl ?_
  refine q_if_lt d_J1_canEncode_9a6ad_1 h_x0 (fun c1 => ?_) (fun c1 => ?_)
  · refine q_iconst d_J1_canEncode_9a6ad_15 ?_
    exact q_iretz d_J1_canEncode_9a6ad_16 rfl (Or.inl rfl) w_s0
  · refine q_iload_n (x := x0) d_J1_canEncode_9a6ad_4 rfl ?_
    refine q_sipush d_J1_canEncode_9a6ad_5 rfl ?_
    refine q_icmp_gt d_J1_canEncode_9a6ad_8 h_x0 (inr_d rfl) (fun c2 => ?_) (fun c2 => ?_)
    · refine q_iconst d_J1_canEncode_9a6ad_15 ?_
      exact q_iretz d_J1_canEncode_9a6ad_16 rfl (Or.inl rfl) w_s0
    · refine q_iconst d_J1_canEncode_9a6ad_11 ?_
      refine q_goto d_J1_canEncode_9a6ad_12 ?_
      exact q_iretz d_J1_canEncode_9a6ad_16 rfl (Or.inr rfl) w_s0
abbrev R_J1_indexOfChar_4cfef : Room := { frames := 0, cells := 0, slots := 0, locals := 0 }
noncomputable def f_J1_indexOfChar_4cfef_7 (b0 : Nat) (p3 : Int) (p4 : Int) (k31 : Unit → Res) (s0 : Mem) : Nat → Int → Res
  | 0, _ => none
  | n + 1, x5 =>
    if x5 < p3 then (gd ((0 : Int) ≤ x5 ∧ x5 < slen b0) (if sbyt b0 x5 = p4 then (some (x5, s0)) else (f_J1_indexOfChar_4cfef_7 b0 p3 p4 k31 s0 n (wr (x5 + 1))))) else (k31 ())
noncomputable def f_J1_indexOfChar_4cfef (b0 : Nat) (x1 : Int) (x2 : Int) (x3 : Int) (s0 : Mem) : Res :=
  jn (fun (_ : Unit) => some ((-1), s0)) fun j31 => f_J1_indexOfChar_4cfef_7 b0 x3 (ii2b x1) j31 s0 FU x2
set_option maxHeartbeats 4000000 in
set_option maxRecDepth 10000 in
theorem l_J1_indexOfChar_4cfef_7 (κ : Kp) (b0 : Nat) (hb0 : b0 < nStr) (p3 : Int) (h_p3 : InR p3) (p4 : Int) (h_p4 : InR p4) (k31 : Unit → Res) (s0 : Mem) (w_s0 : WF s0) (hk31 : EO κ M_J1_indexOfChar_4cfef R_J1_indexOfChar_4cfef 31 [none, none, none, none, none, none] [] s0 (k31 ())) : ∀ (n : Nat) (x5 : Int) (h_x5 : InR x5), EO κ M_J1_indexOfChar_4cfef R_J1_indexOfChar_4cfef 7 [some (vb κ b0), none, none, some (vi p3), some (vi p4), some (vi x5)] [] s0 (f_J1_indexOfChar_4cfef_7 b0 p3 p4 k31 s0 n x5) := by
  intro n
  induction n with
  | zero => exact fun _ _ => q_none
  | succ n ih =>
    intro x5 h_x5
    rw [f_J1_indexOfChar_4cfef_7]
    refine q_iload (x := x5) d_J1_indexOfChar_4cfef_7 rfl ?_
    refine q_iload_n (x := p3) d_J1_indexOfChar_4cfef_9 rfl ?_
    refine q_icmp_ge d_J1_indexOfChar_4cfef_10 h_x5 h_p3 (fun c1 => ?_) (fun c1 => ?_)
    · refine q_aload_n d_J1_indexOfChar_4cfef_13 rfl ?_
      refine q_iload (x := x5) d_J1_indexOfChar_4cfef_14 rfl ?_
      refine q_baload d_J1_indexOfChar_4cfef_16 hb0 (fun g2 => ?_)
      refine q_iload (x := p4) d_J1_indexOfChar_4cfef_17 rfl ?_
      refine q_icmp_ne d_J1_indexOfChar_4cfef_19 (inr_i32 _) h_p4 (fun c3 => ?_) (fun c3 => ?_)
      · refine q_iload (x := x5) d_J1_indexOfChar_4cfef_22 rfl ?_
        exact q_ireti d_J1_indexOfChar_4cfef_24 rfl h_x5 w_s0
      · refine q_iinc (x := x5) d_J1_indexOfChar_4cfef_25 rfl rfl ?_
        refine q_goto d_J1_indexOfChar_4cfef_28 ?_
        refine q_sub (ls' := [some (vb κ b0), none, none, some (vi p3), some (vi p4), some (vi (wr (x5 + 1)))]) ⟨rfl, rfl, rfl, rfl, trivial⟩ ?_
        exact ih (wr (x5 + 1)) (inr_wr _)
    · refine q_sub (ls' := [none, none, none, none, none, none]) trivial ?_
      exact hk31 
set_option maxHeartbeats 4000000 in
set_option maxRecDepth 10000 in
theorem c_J1_indexOfChar_4cfef (κ : Kp) (b0 : Nat) (hb0 : b0 < nStr) (x1 : Int) (h_x1 : InR x1) (x2 : Int) (h_x2 : InR x2) (x3 : Int) (h_x3 : InR x3) (s0 : Mem) : ∀ r σ', f_J1_indexOfChar_4cfef b0 x1 x2 x3 s0 = some (r, σ') → Ct κ M_J1_indexOfChar_4cfef R_J1_indexOfChar_4cfef [vb κ b0, vi x1, vi x2, vi x3] s0 r σ' := by
  intro r σ' ho
  refine Ct.of (by decide) (Nat.le_of_ble_eq_true rfl) (cat_ok rfl) (fun w_s0 => ?_) ⟨rfl, rfl⟩
  refine q_ent (ls' := [some (vb κ b0), some (vi x1), some (vi x2), some (vi x3), none, none]) (o := f_J1_indexOfChar_4cfef b0 x1 x2 x3 s0) ⟨rfl, rfl, rfl, rfl, trivial⟩ ?_ ho
  unfold f_J1_indexOfChar_4cfef
  refine q_iload_n (x := x1) d_J1_indexOfChar_4cfef_0 rfl ?_
  refine q_i2b d_J1_indexOfChar_4cfef_1 ?_
  refine q_istore d_J1_indexOfChar_4cfef_2 rfl ?_
  refine q_iload_n (x := x2) d_J1_indexOfChar_4cfef_4 rfl ?_
  refine q_istore d_J1_indexOfChar_4cfef_5 rfl ?_
  refine q_jn (α := Unit → Res) (fun j31 => EO κ M_J1_indexOfChar_4cfef R_J1_indexOfChar_4cfef 31 [none, none, none, none, none, none] [] s0 (j31 ())) ?_ (fun j31 hj31 => ?_)
  · refine q_iconst d_J1_indexOfChar_4cfef_31 ?_
    exact q_ireti d_J1_indexOfChar_4cfef_32 rfl (inr_d rfl) w_s0
  refine q_sub (ls' := [some (vb κ b0), none, none, some (vi x3), some (vi (ii2b x1)), some (vi x2)]) ⟨rfl, rfl, rfl, rfl, trivial⟩ ?_
  exact l_J1_indexOfChar_4cfef_7 κ b0 hb0 x3 h_x3 (ii2b x1) (inr_i32 _) j31 s0 w_s0 hj31 FU x2 h_x2
abbrev R_J1_indexOf_4cfef : Room := { frames := 1, cells := 0, slots := 0, locals := 30 }
noncomputable def f_J1_indexOf_4cfef (b0 : Nat) (x1 : Int) (x2 : Int) (x3 : Int) (s0 : Mem) : Res :=
  bd (f_J1_canEncode_9a6ad x1 s0) fun r1 s2 => if r1 = 0 then (some ((-1), s2)) else (if mmx x2 0 < mmn x3 (slen b0) then (bd (f_J1_indexOfChar_4cfef b0 x1 (mmx x2 0) (mmn x3 (slen b0)) s2) fun r5 s6 => some (r5, s6)) else (some ((-1), s2)))
set_option maxHeartbeats 4000000 in
set_option maxRecDepth 10000 in
theorem c_J1_indexOf_4cfef (κ : Kp) (b0 : Nat) (hb0 : b0 < nStr) (x1 : Int) (h_x1 : InR x1) (x2 : Int) (h_x2 : InR x2) (x3 : Int) (h_x3 : InR x3) (s0 : Mem) : ∀ r σ', f_J1_indexOf_4cfef b0 x1 x2 x3 s0 = some (r, σ') → Ct κ M_J1_indexOf_4cfef R_J1_indexOf_4cfef [vb κ b0, vi x1, vi x2, vi x3] s0 r σ' := by
  intro r σ' ho
  refine Ct.of (by decide) (Nat.le_of_ble_eq_true rfl) (cat_ok rfl) (fun w_s0 => ?_) ⟨rfl, rfl⟩
  refine q_ent (ls' := [some (vb κ b0), some (vi x1), some (vi x2), some (vi x3)]) (o := f_J1_indexOf_4cfef b0 x1 x2 x3 s0) ⟨rfl, rfl, rfl, rfl, trivial⟩ ?_ ho
  unfold f_J1_indexOf_4cfef
  refine q_iload_n (x := x1) d_J1_indexOf_4cfef_0 rfl ?_
  refine q_callZ (R' := R_J1_canEncode_9a6ad) (runS (As := [vi x1]) (rest := []) d_J1_indexOf_4cfef_1.1 cv_J1_88 rfl ⟨rfl, rfl, by decide, by decide⟩ (Nat.le_of_ble_eq_true rfl) w_s0 rfl) d_J1_indexOf_4cfef_1.2 (c_J1_canEncode_9a6ad κ x1 h_x1 s0) rfl (fun r1 s2 h_r1 w_s2 => ?_)
  refine q_if_ne d_J1_indexOf_4cfef_4 (inr_b h_r1) (fun c3 => ?_) (fun c3 => ?_)
  · refine q_iconst d_J1_indexOf_4cfef_7 ?_
    exact q_ireti d_J1_indexOf_4cfef_8 rfl (inr_d rfl) w_s2
  · refine q_iload_n (x := x2) d_J1_indexOf_4cfef_9 rfl ?_
    refine q_iconst d_J1_indexOf_4cfef_10 ?_
    refine q_mmax d_J1_indexOf_4cfef_11 cv_J1_92 mw_max ⟨by decide, Nat.le_of_ble_eq_true rfl⟩ h_x2 (inr_b (Or.inl rfl)) ?_
    refine q_istore_n d_J1_indexOf_4cfef_14 rfl ?_
    refine q_iload_n (x := x3) d_J1_indexOf_4cfef_15 rfl ?_
    refine q_aload_n d_J1_indexOf_4cfef_16 rfl ?_
    refine q_blen d_J1_indexOf_4cfef_17 hb0 ?_
    refine q_mmin d_J1_indexOf_4cfef_18 cv_J1_38 mw_min ⟨by decide, Nat.le_of_ble_eq_true rfl⟩ h_x3 (inr_slen hb0) ?_
    refine q_istore_n d_J1_indexOf_4cfef_21 rfl ?_
    refine q_iload_n (x := mmx x2 0) d_J1_indexOf_4cfef_22 rfl ?_
    refine q_iload_n (x := mmn x3 (slen b0)) d_J1_indexOf_4cfef_23 rfl ?_
    refine q_icmp_lt d_J1_indexOf_4cfef_24 (inr_mmx h_x2 (inr_b (Or.inl rfl))) (inr_mmn h_x3 (inr_slen hb0)) (fun c4 => ?_) (fun c4 => ?_)
    · refine q_aload_n d_J1_indexOf_4cfef_29 rfl ?_
      refine q_iload_n (x := x1) d_J1_indexOf_4cfef_30 rfl ?_
      refine q_iload_n (x := mmx x2 0) d_J1_indexOf_4cfef_31 rfl ?_
      refine q_iload_n (x := mmn x3 (slen b0)) d_J1_indexOf_4cfef_32 rfl ?_
      refine q_callI (R' := R_J1_indexOfChar_4cfef) (runS (As := [vb κ b0, vi x1, vi (mmx x2 0), vi (mmn x3 (slen b0))]) (rest := []) d_J1_indexOf_4cfef_33.1 cv_J1_95 rfl ⟨rfl, rfl, by decide, by decide⟩ (Nat.le_of_ble_eq_true rfl) w_s2 rfl) d_J1_indexOf_4cfef_33.2 (c_J1_indexOfChar_4cfef κ b0 hb0 x1 h_x1 (mmx x2 0) (inr_mmx h_x2 (inr_b (Or.inl rfl))) (mmn x3 (slen b0)) (inr_mmn h_x3 (inr_slen hb0)) s2) rfl (fun r5 s6 h_r5 w_s6 => ?_)
      exact q_ireti d_J1_indexOf_4cfef_36 rfl h_r5 w_s6
    · refine q_iconst d_J1_indexOf_4cfef_27 ?_
      exact q_ireti d_J1_indexOf_4cfef_28 rfl (inr_d rfl) w_s2
abbrev R_J0_indexOf_7cf53 : Room := { frames := 2, cells := 0, slots := 0, locals := 53 }
noncomputable def f_J0_indexOf_7cf53 (i : Nat) (x1 : Int) (x2 : Int) (s0 : Mem) : Res :=
  bd (f_J0_isLatin1_aae02 i s0) fun r1 s2 => if r1 = 0 then (bd (f_J0_length_8abf5 i s2) fun r4 s5 => none) else (bd (f_J0_length_8abf5 i s2) fun r6 s7 => bd (f_J1_indexOf_4cfef i x1 x2 r6 s7) fun r8 s9 => some (r8, s9))
set_option maxHeartbeats 4000000 in
set_option maxRecDepth 10000 in
theorem c_J0_indexOf_7cf53 (κ : Kp) (i : Nat) (hi : i < nStr) (x1 : Int) (h_x1 : InR x1) (x2 : Int) (h_x2 : InR x2) (s0 : Mem) : ∀ r σ', f_J0_indexOf_7cf53 i x1 x2 s0 = some (r, σ') → Ct κ M_J0_indexOf_7cf53 R_J0_indexOf_7cf53 [vs κ i, vi x1, vi x2] s0 r σ' := by
  intro r σ' ho
  refine Ct.of (by decide) (Nat.le_of_ble_eq_true rfl) (cat_ok rfl) (fun w_s0 => ?_) ⟨rfl, rfl⟩
  refine q_ent (ls' := [some (vs κ i), some (vi x1), some (vi x2)]) (o := f_J0_indexOf_7cf53 i x1 x2 s0) ⟨rfl, rfl, rfl, trivial⟩ ?_ ho
  unfold f_J0_indexOf_7cf53
  refine q_aload_n d_J0_indexOf_7cf53_0 rfl ?_
  refine q_callZ (R' := R_J0_isLatin1_aae02) (runVS (As := []) (rest := []) d_J0_indexOf_7cf53_1.1 cv_J0_492 rfl hi rfl ⟨rfl, rfl, by decide, by decide⟩ (Nat.le_of_ble_eq_true rfl) w_s0 rfl) d_J0_indexOf_7cf53_1.2 (c_J0_isLatin1_aae02 κ i hi s0) rfl (fun r1 s2 h_r1 w_s2 => ?_)
  refine q_if_eq d_J0_indexOf_7cf53_4 (inr_b h_r1) (fun c3 => ?_) (fun c3 => ?_)
  · refine q_aload_n d_J0_indexOf_7cf53_23 rfl ?_
    refine q_strV d_J0_indexOf_7cf53_24 hi fl_J0_9 ?_
    refine q_iload_n (x := x1) d_J0_indexOf_7cf53_27 rfl ?_
    refine q_iload_n (x := x2) d_J0_indexOf_7cf53_28 rfl ?_
    refine q_aload_n d_J0_indexOf_7cf53_29 rfl ?_
    refine q_callI (R' := R_J0_length_8abf5) (runVS (As := []) (rest := [vi x2, vi x1, vb κ i]) d_J0_indexOf_7cf53_30.1 cv_J0_505 rfl hi rfl ⟨rfl, rfl, by decide, by decide⟩ (Nat.le_of_ble_eq_true rfl) w_s2 rfl) d_J0_indexOf_7cf53_30.2 (c_J0_length_8abf5 κ i hi s2) rfl (fun r4 s5 h_r4 w_s5 => ?_)
    exact q_none
  · refine q_aload_n d_J0_indexOf_7cf53_7 rfl ?_
    refine q_strV d_J0_indexOf_7cf53_8 hi fl_J0_9 ?_
    refine q_iload_n (x := x1) d_J0_indexOf_7cf53_11 rfl ?_
    refine q_iload_n (x := x2) d_J0_indexOf_7cf53_12 rfl ?_
    refine q_aload_n d_J0_indexOf_7cf53_13 rfl ?_
    refine q_callI (R' := R_J0_length_8abf5) (runVS (As := []) (rest := [vi x2, vi x1, vb κ i]) d_J0_indexOf_7cf53_14.1 cv_J0_505 rfl hi rfl ⟨rfl, rfl, by decide, by decide⟩ (Nat.le_of_ble_eq_true rfl) w_s2 rfl) d_J0_indexOf_7cf53_14.2 (c_J0_length_8abf5 κ i hi s2) rfl (fun r6 s7 h_r6 w_s7 => ?_)
    refine q_callI (R' := R_J1_indexOf_4cfef) (runS (As := [vb κ i, vi x1, vi x2, vi r6]) (rest := []) d_J0_indexOf_7cf53_17.1 cv_J0_637 rfl ⟨rfl, rfl, by decide, by decide⟩ (Nat.le_of_ble_eq_true rfl) w_s7 rfl) d_J0_indexOf_7cf53_17.2 (c_J1_indexOf_4cfef κ i hi x1 h_x1 x2 h_x2 r6 h_r6 s7) rfl (fun r8 s9 h_r8 w_s9 => ?_)
    refine q_goto d_J0_indexOf_7cf53_20 ?_
    exact q_ireti d_J0_indexOf_7cf53_36 rfl h_r8 w_s9
abbrev R_J0_indexOf_0f7a4 : Room := { frames := 3, cells := 0, slots := 0, locals := 75 }
noncomputable def f_J0_indexOf_0f7a4 (i : Nat) (x1 : Int) (s0 : Mem) : Res :=
  bd (f_J0_indexOf_7cf53 i x1 0 s0) fun r1 s2 => some (r1, s2)
set_option maxHeartbeats 4000000 in
set_option maxRecDepth 10000 in
theorem c_J0_indexOf_0f7a4 (κ : Kp) (i : Nat) (hi : i < nStr) (x1 : Int) (h_x1 : InR x1) (s0 : Mem) : ∀ r σ', f_J0_indexOf_0f7a4 i x1 s0 = some (r, σ') → Ct κ M_J0_indexOf_0f7a4 R_J0_indexOf_0f7a4 [vs κ i, vi x1] s0 r σ' := by
  intro r σ' ho
  refine Ct.of (by decide) (Nat.le_of_ble_eq_true rfl) (cat_ok rfl) (fun w_s0 => ?_) ⟨rfl, rfl⟩
  refine q_ent (ls' := [some (vs κ i), some (vi x1)]) (o := f_J0_indexOf_0f7a4 i x1 s0) ⟨rfl, rfl, trivial⟩ ?_ ho
  unfold f_J0_indexOf_0f7a4
  refine q_aload_n d_J0_indexOf_0f7a4_0 rfl ?_
  refine q_iload_n (x := x1) d_J0_indexOf_0f7a4_1 rfl ?_
  refine q_iconst d_J0_indexOf_0f7a4_2 ?_
  refine q_callI (R' := R_J0_indexOf_7cf53) (runVS (As := [vi x1, vi 0]) (rest := []) d_J0_indexOf_0f7a4_3.1 cv_J0_633 rfl hi rfl ⟨rfl, rfl, by decide, by decide⟩ (Nat.le_of_ble_eq_true rfl) w_s0 rfl) d_J0_indexOf_0f7a4_3.2 (c_J0_indexOf_7cf53 κ i hi x1 h_x1 0 (inr_b (Or.inl rfl)) s0) rfl (fun r1 s2 h_r1 w_s2 => ?_)
  exact q_ireti d_J0_indexOf_0f7a4_6 rfl h_r1 w_s2
abbrev R_X7_cut : Room := { frames := 5, cells := 0, slots := 0, locals := 112 }
noncomputable def f_X7_cut_14 (a : Nat) (k147 : Mem → Res) : Nat → Int → Mem → Res
  | 0, _, _ => none
  | n + 1, x2, s0 =>
    if x2 < s0 a 4 then (gd ((0 : Int) ≤ x2 ∧ x2 < 400) (bd (f_X7_isLetter (s0 (a + 20) x2) s0) fun r8 s9 => jn (fun (v10 : Int) (s11 : Mem) => f_X7_cut_14 a k147 n (mmx (wr (x2 + 1)) v10) s11) fun j136 => if r8 = 0 then (bd (f_X7_isDigit (s0 (a + 20) x2) s9) fun r13 s14 => if r13 = 0 then (if s0 (a + 20) x2 = 32 then (j136 (wr (x2 + 1)) s14) else (if s0 (a + 20) x2 = 10 then (j136 (wr (x2 + 1)) s14) else (bd (f_J0_indexOf_0f7a4 0 (ii2c (s0 (a + 20) x2)) s14) fun r18 s19 => jn (fun (y20 : Int) => bd (f_X7_note a y20 0 x2 s19) fun r21 s22 => j136 (wr (x2 + 1)) s22) fun j131 => if r18 < 0 then (j131 32) else (j131 (s0 (a + 20) x2))))) else (bd (f_X7_endOfDigits a (wr (x2 + 1)) s14) fun r24 s25 => jn (fun (y26 : Int) => bd (f_X7_valueOf a x2 r24 s25) fun r27 s28 => bd (f_X7_note a y26 r27 x2 s28) fun r29 s30 => j136 r24 s30) fun j89 => if 4 < wr (r24 - x2) then (j89 32) else (j89 31))) else (bd (f_X7_endOfLetters a (wr (x2 + 1)) s9) fun r32 s33 => bd (f_X7_keyword a x2 r32 s33) fun r34 s35 => bd (f_X7_note a r34 0 x2 s35) fun r36 s37 => j136 r32 s37))) else (k147 s0)
noncomputable def f_X7_cut (a : Nat) (s0 : Mem) : Res :=
  lm (mup s0 a 11 0) fun s1 => lm (mup s1 a 12 0) fun s2 => jn (fun (s3 : Mem) => bd (f_X7_note a 30 0 (s3 a 4) s3) fun r4 s5 => some (0, s5)) fun j147 => f_X7_cut_14 a j147 FU 0 s2
set_option maxHeartbeats 4000000 in
set_option maxRecDepth 10000 in
theorem l_X7_cut_14 (κ : Kp) (a : Nat) (hA : At7 κ a) (k147 : Mem → Res) (hk147 : ∀ (sz : Mem) (w_sz : WF sz), EO κ M_X7_cut R_X7_cut 147 [some (vr κ a), none, none, none] [] sz (k147 sz)) : ∀ (n : Nat) (x2 : Int) (h_x2 : InR x2) (s0 : Mem) (w_s0 : WF s0), EO κ M_X7_cut R_X7_cut 14 [some (vr κ a), none, some (vi x2), none] [] s0 (f_X7_cut_14 a k147 n x2 s0) := by
  intro n
  induction n with
  | zero => exact fun _ _ _ _ => q_none
  | succ n ih =>
    intro x2 h_x2 s0 w_s0
    rw [f_X7_cut_14]
    refine q_iload_n (x := x2) d_X7_cut_14 rfl ?_
    refine q_aload_n d_X7_cut_15 rfl ?_
    refine q_getI (k := 4) (j := 4) d_X7_cut_16 hA.1 fi_7_59 rfl rfl ?_
    refine q_icmp_ge d_X7_cut_19 h_x2 (w_s0 _ _) (fun c6 => ?_) (fun c6 => ?_)
    · refine q_aload_n d_X7_cut_22 rfl ?_
      refine q_getR (n := 20) d_X7_cut_23 hA.1 fi_7_43 rfl (Nat.le_of_ble_eq_true rfl) ?_
      refine q_iload_n (x := x2) d_X7_cut_26 rfl ?_
      refine q_iaload (m := 400) d_X7_cut_27 hA.2.2.2.2.2.1 (by decide) rfl (fun g7 => ?_)
      refine q_istore_n d_X7_cut_28 rfl ?_
      refine q_iload_n (x := x2) d_X7_cut_29 rfl ?_
      refine q_iconst d_X7_cut_30 ?_
      refine q_iadd d_X7_cut_31 ?_
      refine q_istore_n d_X7_cut_32 rfl ?_
      refine q_iload_n (x := s0 (a + 20) x2) d_X7_cut_33 rfl ?_
      refine q_callZ (R' := R_X7_isLetter) (runS (As := [vi (s0 (a + 20) x2)]) (rest := []) d_X7_cut_34.1 cv_7_107 rfl ⟨rfl, rfl, by decide, by decide⟩ (Nat.le_of_ble_eq_true rfl) w_s0 rfl) d_X7_cut_34.2 (c_X7_isLetter κ (s0 (a + 20) x2) (w_s0 _ _) s0) rfl (fun r8 s9 h_r8 w_s9 => ?_)
      refine q_jn (α := Int → Mem → Res) (fun j136 => ∀ (v10 : Int) (h_v10 : InR v10) (s11 : Mem) (w_s11 : WF s11), EO κ M_X7_cut R_X7_cut 136 [some (vr κ a), some (vi v10), some (vi x2), none] [] s11 (j136 v10 s11)) ?_ (fun j136 hj136 => ?_)
      · intro v10 h_v10 s11 w_s11
        refine q_iload_n (x := x2) d_X7_cut_136 rfl ?_
        refine q_iconst d_X7_cut_137 ?_
        refine q_iadd d_X7_cut_138 ?_
        refine q_iload_n (x := v10) d_X7_cut_139 rfl ?_
        refine q_mmax d_X7_cut_140 cv_7_138 mw_max ⟨by decide, Nat.le_of_ble_eq_true rfl⟩ (inr_wr _) h_v10 ?_
        refine q_istore_n d_X7_cut_143 rfl ?_
        refine q_goto d_X7_cut_144 ?_
        refine q_sub (ls' := [some (vr κ a), none, some (vi (mmx (wr (x2 + 1)) v10)), none]) ⟨rfl, rfl, trivial⟩ ?_
        exact ih (mmx (wr (x2 + 1)) v10) (inr_mmx (inr_wr _) h_v10) s11 w_s11
      refine q_if_eq d_X7_cut_37 (inr_b h_r8) (fun c12 => ?_) (fun c12 => ?_)
      · refine q_iload_n (x := s0 (a + 20) x2) d_X7_cut_61 rfl ?_
        refine q_callZ (R' := R_X7_isDigit) (runS (As := [vi (s0 (a + 20) x2)]) (rest := []) d_X7_cut_62.1 cv_7_122 rfl ⟨rfl, rfl, by decide, by decide⟩ (Nat.le_of_ble_eq_true rfl) w_s9 rfl) d_X7_cut_62.2 (c_X7_isDigit κ (s0 (a + 20) x2) (w_s0 _ _) s9) rfl (fun r13 s14 h_r13 w_s14 => ?_)
        refine q_if_eq d_X7_cut_65 (inr_b h_r13) (fun c15 => ?_) (fun c15 => ?_)
        · refine q_iload_n (x := s0 (a + 20) x2) d_X7_cut_102 rfl ?_
          refine q_bipush d_X7_cut_103 rfl ?_
          refine q_icmp_eq d_X7_cut_105 (w_s0 _ _) (inr_d rfl) (fun c16 => ?_) (fun c16 => ?_)
          · refine q_sub (ls' := [some (vr κ a), some (vi (wr (x2 + 1))), some (vi x2), none]) ⟨rfl, rfl, rfl, trivial⟩ ?_
            exact hj136 (wr (x2 + 1)) (inr_wr _) s14 w_s14
          · refine q_iload_n (x := s0 (a + 20) x2) d_X7_cut_108 rfl ?_
            refine q_bipush d_X7_cut_109 rfl ?_
            refine q_icmp_eq d_X7_cut_111 (w_s0 _ _) (inr_d rfl) (fun c17 => ?_) (fun c17 => ?_)
            · refine q_sub (ls' := [some (vr κ a), some (vi (wr (x2 + 1))), some (vi x2), none]) ⟨rfl, rfl, rfl, trivial⟩ ?_
              exact hj136 (wr (x2 + 1)) (inr_wr _) s14 w_s14
            · refine q_aload_n d_X7_cut_114 rfl ?_
              refine q_ldcS d_X7_cut_115 sr_7_131 ?_
              refine q_iload_n (x := s0 (a + 20) x2) d_X7_cut_117 rfl ?_
              refine q_i2c d_X7_cut_118 ?_
              refine q_callI (R' := R_J0_indexOf_0f7a4) (runVS (As := [vi (ii2c (s0 (a + 20) x2))]) (rest := [vr κ a]) d_X7_cut_119.1 cv_7_133 rfl (Nat.le_of_ble_eq_true rfl) rfl ⟨rfl, rfl, by decide, by decide⟩ (Nat.le_of_ble_eq_true rfl) w_s14 rfl) d_X7_cut_119.2 (c_J0_indexOf_0f7a4 κ 0 (Nat.le_of_ble_eq_true rfl) (ii2c (s0 (a + 20) x2)) (inr_c (ii2c_in _)) s14) rfl (fun r18 s19 h_r18 w_s19 => ?_)
              refine q_jn (α := Int → Res) (fun j131 => ∀ (y20 : Int) (h_y20 : InR y20), EO κ M_X7_cut R_X7_cut 131 [some (vr κ a), some (vi (wr (x2 + 1))), some (vi x2), none] [vi y20, vr κ a] s19 (j131 y20)) ?_ (fun j131 hj131 => ?_)
              · intro y20 h_y20
                refine q_iconst d_X7_cut_131 ?_
                refine q_iload_n (x := x2) d_X7_cut_132 rfl ?_
                refine q_callV (R' := R_X7_note) (runV (As := [vi y20, vi 0, vi x2]) (rest := []) d_X7_cut_133.1 cv_7_118 rfl hA.1 rfl rfl ⟨rfl, rfl, by decide, by decide⟩ (Nat.le_of_ble_eq_true rfl) w_s19 rfl) d_X7_cut_133.2 (c_X7_note κ a hA y20 h_y20 0 (inr_b (Or.inl rfl)) x2 h_x2 s19) rfl (fun r21 s22 w_s22 => ?_)
                refine q_sub (ls' := [some (vr κ a), some (vi (wr (x2 + 1))), some (vi x2), none]) ⟨rfl, rfl, rfl, trivial⟩ ?_
                exact hj136 (wr (x2 + 1)) (inr_wr _) s22 w_s22
              refine q_if_lt d_X7_cut_122 h_r18 (fun c23 => ?_) (fun c23 => ?_)
              · refine q_bipush d_X7_cut_129 rfl ?_
                refine q_sub (ls' := [some (vr κ a), some (vi (wr (x2 + 1))), some (vi x2), none]) ⟨rfl, rfl, rfl, trivial⟩ ?_
                exact hj131 32 (inr_d rfl)
              · refine q_iload_n (x := s0 (a + 20) x2) d_X7_cut_125 rfl ?_
                refine q_goto d_X7_cut_126 ?_
                refine q_sub (ls' := [some (vr κ a), some (vi (wr (x2 + 1))), some (vi x2), none]) ⟨rfl, rfl, rfl, trivial⟩ ?_
                exact hj131 (s0 (a + 20) x2) (w_s0 _ _)
        · refine q_aload_n d_X7_cut_68 rfl ?_
          refine q_iload_n (x := wr (x2 + 1)) d_X7_cut_69 rfl ?_
          refine q_callI (R' := R_X7_endOfDigits) (runV (As := [vi (wr (x2 + 1))]) (rest := []) d_X7_cut_70.1 cv_7_125 rfl hA.1 rfl rfl ⟨rfl, rfl, by decide, by decide⟩ (Nat.le_of_ble_eq_true rfl) w_s14 rfl) d_X7_cut_70.2 (c_X7_endOfDigits κ a hA (wr (x2 + 1)) (inr_wr _) s14) rfl (fun r24 s25 h_r24 w_s25 => ?_)
          refine q_istore_n d_X7_cut_73 rfl ?_
          refine q_aload_n d_X7_cut_74 rfl ?_
          refine q_iload_n (x := r24) d_X7_cut_75 rfl ?_
          refine q_iload_n (x := x2) d_X7_cut_76 rfl ?_
          refine q_isub d_X7_cut_77 ?_
          refine q_iconst d_X7_cut_78 ?_
          refine q_jn (α := Int → Res) (fun j89 => ∀ (y26 : Int) (h_y26 : InR y26), EO κ M_X7_cut R_X7_cut 89 [some (vr κ a), some (vi r24), some (vi x2), none] [vi y26, vr κ a] s25 (j89 y26)) ?_ (fun j89 hj89 => ?_)
          · intro y26 h_y26
            refine q_aload_n d_X7_cut_89 rfl ?_
            refine q_iload_n (x := x2) d_X7_cut_90 rfl ?_
            refine q_iload_n (x := r24) d_X7_cut_91 rfl ?_
            refine q_callI (R' := R_X7_valueOf) (runV (As := [vi x2, vi r24]) (rest := [vi y26, vr κ a]) d_X7_cut_92.1 cv_7_128 rfl hA.1 rfl rfl ⟨rfl, rfl, by decide, by decide⟩ (Nat.le_of_ble_eq_true rfl) w_s25 rfl) d_X7_cut_92.2 (c_X7_valueOf κ a hA x2 h_x2 r24 h_r24 s25) rfl (fun r27 s28 h_r27 w_s28 => ?_)
            refine q_iload_n (x := x2) d_X7_cut_95 rfl ?_
            refine q_callV (R' := R_X7_note) (runV (As := [vi y26, vi r27, vi x2]) (rest := []) d_X7_cut_96.1 cv_7_118 rfl hA.1 rfl rfl ⟨rfl, rfl, by decide, by decide⟩ (Nat.le_of_ble_eq_true rfl) w_s28 rfl) d_X7_cut_96.2 (c_X7_note κ a hA y26 h_y26 r27 h_r27 x2 h_x2 s28) rfl (fun r29 s30 w_s30 => ?_)
            refine q_goto d_X7_cut_99 ?_
            refine q_sub (ls' := [some (vr κ a), some (vi r24), some (vi x2), none]) ⟨rfl, rfl, rfl, trivial⟩ ?_
            exact hj136 r24 h_r24 s30 w_s30
          refine q_icmp_le d_X7_cut_79 (inr_wr _) (inr_d rfl) (fun c31 => ?_) (fun c31 => ?_)
          · refine q_bipush d_X7_cut_82 rfl ?_
            refine q_goto d_X7_cut_84 ?_
            refine q_sub (ls' := [some (vr κ a), some (vi r24), some (vi x2), none]) ⟨rfl, rfl, rfl, trivial⟩ ?_
            exact hj89 32 (inr_d rfl)
          · refine q_bipush d_X7_cut_87 rfl ?_
            refine q_sub (ls' := [some (vr κ a), some (vi r24), some (vi x2), none]) ⟨rfl, rfl, rfl, trivial⟩ ?_
            exact hj89 31 (inr_d rfl)
      · refine q_aload_n d_X7_cut_40 rfl ?_
        refine q_iload_n (x := wr (x2 + 1)) d_X7_cut_41 rfl ?_
        refine q_callI (R' := R_X7_endOfLetters) (runV (As := [vi (wr (x2 + 1))]) (rest := []) d_X7_cut_42.1 cv_7_110 rfl hA.1 rfl rfl ⟨rfl, rfl, by decide, by decide⟩ (Nat.le_of_ble_eq_true rfl) w_s9 rfl) d_X7_cut_42.2 (c_X7_endOfLetters κ a hA (wr (x2 + 1)) (inr_wr _) s9) rfl (fun r32 s33 h_r32 w_s33 => ?_)
        refine q_istore_n d_X7_cut_45 rfl ?_
        refine q_aload_n d_X7_cut_46 rfl ?_
        refine q_aload_n d_X7_cut_47 rfl ?_
        refine q_iload_n (x := x2) d_X7_cut_48 rfl ?_
        refine q_iload_n (x := r32) d_X7_cut_49 rfl ?_
        refine q_callI (R' := R_X7_keyword) (runV (As := [vi x2, vi r32]) (rest := [vr κ a]) d_X7_cut_50.1 cv_7_114 rfl hA.1 rfl rfl ⟨rfl, rfl, by decide, by decide⟩ (Nat.le_of_ble_eq_true rfl) w_s33 rfl) d_X7_cut_50.2 (c_X7_keyword κ a hA x2 h_x2 r32 h_r32 s33) rfl (fun r34 s35 h_r34 w_s35 => ?_)
        refine q_iconst d_X7_cut_53 ?_
        refine q_iload_n (x := x2) d_X7_cut_54 rfl ?_
        refine q_callV (R' := R_X7_note) (runV (As := [vi r34, vi 0, vi x2]) (rest := []) d_X7_cut_55.1 cv_7_118 rfl hA.1 rfl rfl ⟨rfl, rfl, by decide, by decide⟩ (Nat.le_of_ble_eq_true rfl) w_s35 rfl) d_X7_cut_55.2 (c_X7_note κ a hA r34 h_r34 0 (inr_b (Or.inl rfl)) x2 h_x2 s35) rfl (fun r36 s37 w_s37 => ?_)
        refine q_goto d_X7_cut_58 ?_
        refine q_sub (ls' := [some (vr κ a), some (vi r32), some (vi x2), none]) ⟨rfl, rfl, rfl, trivial⟩ ?_
        exact hj136 r32 h_r32 s37 w_s37
    · refine q_sub (ls' := [some (vr κ a), none, none, none]) ⟨rfl, trivial⟩ ?_
      exact hk147 s0 w_s0
set_option maxHeartbeats 4000000 in
set_option maxRecDepth 10000 in
theorem c_X7_cut (κ : Kp) (a : Nat) (hA : At7 κ a) (s0 : Mem) : ∀ r σ', f_X7_cut a s0 = some (r, σ') → Ct κ M_X7_cut R_X7_cut [vr κ a] s0 r σ' := by
  intro r σ' ho
  refine Ct.of (by decide) (Nat.le_of_ble_eq_true rfl) (cat_ok rfl) (fun w_s0 => ?_) ⟨rfl, rfl⟩
  refine q_ent (ls' := [some (vr κ a), none, none, none]) (o := f_X7_cut a s0) ⟨rfl, trivial⟩ ?_ ho
  unfold f_X7_cut
  refine q_aload_n d_X7_cut_0 rfl ?_
  refine q_iconst d_X7_cut_1 ?_
  refine q_putI (k := 11) (j := 11) d_X7_cut_2 hA.1 fp_7_83 rfl rfl (inr_b (Or.inl rfl)) w_s0 (fun s1 w_s1 => ?_)
  refine q_aload_n d_X7_cut_5 rfl ?_
  refine q_iconst d_X7_cut_6 ?_
  refine q_putI (k := 12) (j := 12) d_X7_cut_7 hA.1 fp_7_104 rfl rfl (inr_b (Or.inl rfl)) w_s1 (fun s2 w_s2 => ?_)
  refine q_iconst d_X7_cut_10 ?_
  refine q_istore_n d_X7_cut_11 rfl ?_
  refine q_iconst d_X7_cut_12 ?_
  refine q_istore_n d_X7_cut_13 rfl ?_
  refine q_jn (α := Mem → Res) (fun j147 => ∀ (s3 : Mem) (w_s3 : WF s3), EO κ M_X7_cut R_X7_cut 147 [some (vr κ a), none, none, none] [] s3 (j147 s3)) ?_ (fun j147 hj147 => ?_)
  · intro s3 w_s3
    refine q_aload_n d_X7_cut_147 rfl ?_
    refine q_bipush d_X7_cut_148 rfl ?_
    refine q_iconst d_X7_cut_150 ?_
    refine q_aload_n d_X7_cut_151 rfl ?_
    refine q_getI (k := 4) (j := 4) d_X7_cut_152 hA.1 fi_7_59 rfl rfl ?_
    refine q_callV (R' := R_X7_note) (runV (As := [vi 30, vi 0, vi (s3 a 4)]) (rest := []) d_X7_cut_155.1 cv_7_118 rfl hA.1 rfl rfl ⟨rfl, rfl, by decide, by decide⟩ (Nat.le_of_ble_eq_true rfl) w_s3 rfl) d_X7_cut_155.2 (c_X7_note κ a hA 30 (inr_d rfl) 0 (inr_b (Or.inl rfl)) (s3 a 4) (w_s3 _ _) s3) rfl (fun r4 s5 w_s5 => ?_)
    exact q_vret d_X7_cut_158 rfl w_s5
  refine q_sub (ls' := [some (vr κ a), none, some (vi 0), none]) ⟨rfl, rfl, trivial⟩ ?_
  exact l_X7_cut_14 κ a hA j147 hj147 FU 0 (inr_b (Or.inl rfl)) s2 w_s2
abbrev R_X9_clear : Room := { frames := 0, cells := 0, slots := 0, locals := 0 }
noncomputable def f_X9_clear_2 (a : Nat) (k35 : Mem → Res) : Nat → Int → Mem → Res
  | 0, _, _ => none
  | n + 1, x1, s0 =>
    if x1 < 12 then (gd ((0 : Int) ≤ x1 ∧ x1 < 12) (lm (mup s0 (a + 1) x1 0) fun s5 => gd ((0 : Int) ≤ x1 ∧ x1 < 12) (lm (mup s5 (a + 2) x1 0) fun s7 => gd ((0 : Int) ≤ x1 ∧ x1 < 12) (lm (mup s7 (a + 3) x1 0) fun s9 => f_X9_clear_2 a k35 n (wr (x1 + 1)) s9)))) else (k35 s0)
noncomputable def f_X9_clear (a : Nat) (s0 : Mem) : Res :=
  jn (fun (s1 : Mem) => lm (mup s1 a 3 0) fun s2 => some (0, s2)) fun j35 => f_X9_clear_2 a j35 FU 0 s0
set_option maxHeartbeats 4000000 in
set_option maxRecDepth 10000 in
theorem l_X9_clear_2 (κ : Kp) (a : Nat) (hA : At9 κ a) (k35 : Mem → Res) (hk35 : ∀ (sz : Mem) (w_sz : WF sz), EO κ M_X9_clear R_X9_clear 35 [some (vr κ a), none] [] sz (k35 sz)) : ∀ (n : Nat) (x1 : Int) (h_x1 : InR x1) (s0 : Mem) (w_s0 : WF s0), EO κ M_X9_clear R_X9_clear 2 [some (vr κ a), some (vi x1)] [] s0 (f_X9_clear_2 a k35 n x1 s0) := by
  intro n
  induction n with
  | zero => exact fun _ _ _ _ => q_none
  | succ n ih =>
    intro x1 h_x1 s0 w_s0
    rw [f_X9_clear_2]
    refine q_iload_n (x := x1) d_X9_clear_2 rfl ?_
    refine q_bipush d_X9_clear_3 rfl ?_
    refine q_icmp_ge d_X9_clear_5 h_x1 (inr_d rfl) (fun c3 => ?_) (fun c3 => ?_)
    · refine q_aload_n d_X9_clear_8 rfl ?_
      refine q_getR (n := 1) d_X9_clear_9 hA.1 fi_9_9 rfl (Nat.le_of_ble_eq_true rfl) ?_
      refine q_iload_n (x := x1) d_X9_clear_12 rfl ?_
      refine q_iconst d_X9_clear_13 ?_
      refine q_iastore (m := 12) d_X9_clear_14 hA.2.1 (by decide) rfl (inr_b (Or.inl rfl)) w_s0 (fun g4 s5 w_s5 => ?_)
      refine q_aload_n d_X9_clear_15 rfl ?_
      refine q_getR (n := 2) d_X9_clear_16 hA.1 fi_9_15 rfl (Nat.le_of_ble_eq_true rfl) ?_
      refine q_iload_n (x := x1) d_X9_clear_19 rfl ?_
      refine q_iconst d_X9_clear_20 ?_
      refine q_iastore (m := 12) d_X9_clear_21 hA.2.2.1 (by decide) rfl (inr_b (Or.inl rfl)) w_s5 (fun g6 s7 w_s7 => ?_)
      refine q_aload_n d_X9_clear_22 rfl ?_
      refine q_getR (n := 3) d_X9_clear_23 hA.1 fi_9_18 rfl (Nat.le_of_ble_eq_true rfl) ?_
      refine q_iload_n (x := x1) d_X9_clear_26 rfl ?_
      refine q_iconst d_X9_clear_27 ?_
      refine q_iastore (m := 12) d_X9_clear_28 hA.2.2.2 (by decide) rfl (inr_b (Or.inl rfl)) w_s7 (fun g8 s9 w_s9 => ?_)
      refine q_iinc (x := x1) d_X9_clear_29 rfl rfl ?_
      refine q_goto d_X9_clear_32 ?_
      refine q_sub (ls' := [some (vr κ a), some (vi (wr (x1 + 1)))]) ⟨rfl, rfl, trivial⟩ ?_
      exact ih (wr (x1 + 1)) (inr_wr _) s9 w_s9
    · refine q_sub (ls' := [some (vr κ a), none]) ⟨rfl, trivial⟩ ?_
      exact hk35 s0 w_s0
set_option maxHeartbeats 4000000 in
set_option maxRecDepth 10000 in
theorem c_X9_clear (κ : Kp) (a : Nat) (hA : At9 κ a) (s0 : Mem) : ∀ r σ', f_X9_clear a s0 = some (r, σ') → Ct κ M_X9_clear R_X9_clear [vr κ a] s0 r σ' := by
  intro r σ' ho
  refine Ct.of (by decide) (Nat.le_of_ble_eq_true rfl) (cat_ok rfl) (fun w_s0 => ?_) ⟨rfl, rfl⟩
  refine q_ent (ls' := [some (vr κ a), none]) (o := f_X9_clear a s0) ⟨rfl, trivial⟩ ?_ ho
  unfold f_X9_clear
  refine q_iconst d_X9_clear_0 ?_
  refine q_istore_n d_X9_clear_1 rfl ?_
  refine q_jn (α := Mem → Res) (fun j35 => ∀ (s1 : Mem) (w_s1 : WF s1), EO κ M_X9_clear R_X9_clear 35 [some (vr κ a), none] [] s1 (j35 s1)) ?_ (fun j35 hj35 => ?_)
  · intro s1 w_s1
    refine q_aload_n d_X9_clear_35 rfl ?_
    refine q_iconst d_X9_clear_36 ?_
    refine q_putI (k := 3) (j := 3) d_X9_clear_37 hA.1 fp_9_25 rfl rfl (inr_b (Or.inl rfl)) w_s1 (fun s2 w_s2 => ?_)
    exact q_vret d_X9_clear_40 rfl w_s2
  refine q_sub (ls' := [some (vr κ a), some (vi 0)]) ⟨rfl, rfl, trivial⟩ ?_
  exact l_X9_clear_2 κ a hA j35 hj35 FU 0 (inr_b (Or.inl rfl)) s0 w_s0
abbrev R_X7_next : Room := { frames := 0, cells := 0, slots := 0, locals := 0 }
noncomputable def f_X7_next (a : Nat) (s0 : Mem) : Res :=
  if s0 a 12 < 0 then (some (30, s0)) else (if s0 a 12 < s0 a 11 then (gd ((0 : Int) ≤ s0 a 12 ∧ s0 a 12 < 401) (some (s0 (a + 21) (s0 a 12), s0))) else (some (30, s0)))
set_option maxHeartbeats 4000000 in
set_option maxRecDepth 10000 in
theorem c_X7_next (κ : Kp) (a : Nat) (hA : At7 κ a) (s0 : Mem) : ∀ r σ', f_X7_next a s0 = some (r, σ') → Ct κ M_X7_next R_X7_next [vr κ a] s0 r σ' := by
  intro r σ' ho
  refine Ct.of (by decide) (Nat.le_of_ble_eq_true rfl) (cat_ok rfl) (fun w_s0 => ?_) ⟨rfl, rfl⟩
  refine q_ent (ls' := [some (vr κ a)]) (o := f_X7_next a s0) ⟨rfl, trivial⟩ ?_ ho
  unfold f_X7_next
  refine q_aload_n d_X7_next_0 rfl ?_
  refine q_getI (k := 12) (j := 12) d_X7_next_1 hA.1 fi_7_104 rfl rfl ?_
  refine q_if_lt d_X7_next_4 (w_s0 _ _) (fun c1 => ?_) (fun c1 => ?_)
  · refine q_bipush d_X7_next_30 rfl ?_
    exact q_ireti d_X7_next_32 rfl (inr_d rfl) w_s0
  · refine q_aload_n d_X7_next_7 rfl ?_
    refine q_getI (k := 12) (j := 12) d_X7_next_8 hA.1 fi_7_104 rfl rfl ?_
    refine q_aload_n d_X7_next_11 rfl ?_
    refine q_getI (k := 11) (j := 11) d_X7_next_12 hA.1 fi_7_83 rfl rfl ?_
    refine q_icmp_ge d_X7_next_15 (w_s0 _ _) (w_s0 _ _) (fun c2 => ?_) (fun c2 => ?_)
    · refine q_aload_n d_X7_next_18 rfl ?_
      refine q_getR (n := 21) d_X7_next_19 hA.1 fi_7_47 rfl (Nat.le_of_ble_eq_true rfl) ?_
      refine q_aload_n d_X7_next_22 rfl ?_
      refine q_getI (k := 12) (j := 12) d_X7_next_23 hA.1 fi_7_104 rfl rfl ?_
      refine q_iaload (m := 401) d_X7_next_26 hA.2.2.2.2.2.2.1 (by decide) rfl (fun g3 => ?_)
      refine q_goto d_X7_next_27 ?_
      exact q_ireti d_X7_next_32 rfl (w_s0 _ _) w_s0
    · refine q_bipush d_X7_next_30 rfl ?_
      exact q_ireti d_X7_next_32 rfl (inr_d rfl) w_s0
abbrev R_X7_refuse : Room := { frames := 0, cells := 0, slots := 0, locals := 0 }
noncomputable def f_X7_refuse (a : Nat) (x1 : Int) (s0 : Mem) : Res :=
  lm (mup s0 a 5 x1) fun s1 => jn (fun (y2 : Int) => lm (mup s1 a 6 y2) fun s3 => some (0, s3)) fun j37 => jn (fun (_ : Unit) => j37 0) fun j36 => if s1 a 12 < 0 then (j36 ()) else (if s1 a 12 < s1 a 11 then (gd ((0 : Int) ≤ s1 a 12 ∧ s1 a 12 < 401) (j37 (s1 (a + 23) (s1 a 12)))) else (j36 ()))
set_option maxHeartbeats 4000000 in
set_option maxRecDepth 10000 in
theorem c_X7_refuse (κ : Kp) (a : Nat) (hA : At7 κ a) (x1 : Int) (h_x1 : InR x1) (s0 : Mem) : ∀ r σ', f_X7_refuse a x1 s0 = some (r, σ') → Ct κ M_X7_refuse R_X7_refuse [vr κ a, vi x1] s0 r σ' := by
  intro r σ' ho
  refine Ct.of (by decide) (Nat.le_of_ble_eq_true rfl) (cat_ok rfl) (fun w_s0 => ?_) ⟨rfl, rfl⟩
  refine q_ent (ls' := [some (vr κ a), some (vi x1)]) (o := f_X7_refuse a x1 s0) ⟨rfl, rfl, trivial⟩ ?_ ho
  unfold f_X7_refuse
  refine q_aload_n d_X7_refuse_0 rfl ?_
  refine q_iload_n (x := x1) d_X7_refuse_1 rfl ?_
  refine q_putI (k := 5) (j := 5) d_X7_refuse_2 hA.1 fp_7_62 rfl rfl h_x1 w_s0 (fun s1 w_s1 => ?_)
  refine q_aload_n d_X7_refuse_5 rfl ?_
  refine q_aload_n d_X7_refuse_6 rfl ?_
  refine q_getI (k := 12) (j := 12) d_X7_refuse_7 hA.1 fi_7_104 rfl rfl ?_
  refine q_jn (α := Int → Res) (fun j37 => ∀ (y2 : Int) (h_y2 : InR y2), EO κ M_X7_refuse R_X7_refuse 37 [none, none] [vi y2, vr κ a] s1 (j37 y2)) ?_ (fun j37 hj37 => ?_)
  · intro y2 h_y2
    refine q_putI (k := 6) (j := 6) d_X7_refuse_37 hA.1 fp_7_39 rfl rfl h_y2 w_s1 (fun s3 w_s3 => ?_)
    refine q_iconst d_X7_refuse_40 ?_
    exact q_iretz d_X7_refuse_41 rfl (Or.inl rfl) w_s3
  refine q_jn (α := Unit → Res) (fun j36 => EO κ M_X7_refuse R_X7_refuse 36 [none, none] [vr κ a] s1 (j36 ())) ?_ (fun j36 hj36 => ?_)
  · refine q_iconst d_X7_refuse_36 ?_
    refine q_sub (ls' := [none, none]) trivial ?_
    exact hj37 0 (inr_b (Or.inl rfl))
  refine q_if_lt d_X7_refuse_10 (w_s1 _ _) (fun c4 => ?_) (fun c4 => ?_)
  · refine q_sub (ls' := [none, none]) trivial ?_
    exact hj36 
  · refine q_aload_n d_X7_refuse_13 rfl ?_
    refine q_getI (k := 12) (j := 12) d_X7_refuse_14 hA.1 fi_7_104 rfl rfl ?_
    refine q_aload_n d_X7_refuse_17 rfl ?_
    refine q_getI (k := 11) (j := 11) d_X7_refuse_18 hA.1 fi_7_83 rfl rfl ?_
    refine q_icmp_ge d_X7_refuse_21 (w_s1 _ _) (w_s1 _ _) (fun c5 => ?_) (fun c5 => ?_)
    · refine q_aload_n d_X7_refuse_24 rfl ?_
      refine q_getR (n := 23) d_X7_refuse_25 hA.1 fi_7_53 rfl (Nat.le_of_ble_eq_true rfl) ?_
      refine q_aload_n d_X7_refuse_28 rfl ?_
      refine q_getI (k := 12) (j := 12) d_X7_refuse_29 hA.1 fi_7_104 rfl rfl ?_
      refine q_iaload (m := 401) d_X7_refuse_32 hA.2.2.2.2.2.2.2.2.1 (by decide) rfl (fun g6 => ?_)
      refine q_goto d_X7_refuse_33 ?_
      refine q_sub (ls' := [none, none]) trivial ?_
      exact hj37 (s1 (a + 23) (s1 a 12)) (w_s1 _ _)
    · refine q_sub (ls' := [none, none]) trivial ?_
      exact hj36 
abbrev R_X7_begins : Room := { frames := 1, cells := 0, slots := 0, locals := 21 }
noncomputable def f_X7_begins (a : Nat) (x1 : Int) (x2 : Int) (s0 : Mem) : Res :=
  bd (f_X7_next a s0) fun r1 s2 => if r1 = x1 then (if x2 < 16 then (lm (mup s2 a 12 (wr ((s2 a 12) + 1))) fun s5 => some (1, s5)) else (bd (f_X7_refuse a 3 s2) fun r6 s7 => some (r6, s7))) else (bd (f_X7_refuse a 1 s2) fun r8 s9 => some (r8, s9))
set_option maxHeartbeats 4000000 in
set_option maxRecDepth 10000 in
theorem c_X7_begins (κ : Kp) (a : Nat) (hA : At7 κ a) (x1 : Int) (h_x1 : InR x1) (x2 : Int) (h_x2 : InR x2) (s0 : Mem) : ∀ r σ', f_X7_begins a x1 x2 s0 = some (r, σ') → Ct κ M_X7_begins R_X7_begins [vr κ a, vi x1, vi x2] s0 r σ' := by
  intro r σ' ho
  refine Ct.of (by decide) (Nat.le_of_ble_eq_true rfl) (cat_ok rfl) (fun w_s0 => ?_) ⟨rfl, rfl⟩
  refine q_ent (ls' := [some (vr κ a), some (vi x1), some (vi x2)]) (o := f_X7_begins a x1 x2 s0) ⟨rfl, rfl, rfl, trivial⟩ ?_ ho
  unfold f_X7_begins
  refine q_aload_n d_X7_begins_0 rfl ?_
  refine q_callI (R' := R_X7_next) (runV (As := []) (rest := []) d_X7_begins_1.1 cv_7_86 rfl hA.1 rfl rfl ⟨rfl, rfl, by decide, by decide⟩ (Nat.le_of_ble_eq_true rfl) w_s0 rfl) d_X7_begins_1.2 (c_X7_next κ a hA s0) rfl (fun r1 s2 h_r1 w_s2 => ?_)
  refine q_iload_n (x := x1) d_X7_begins_4 rfl ?_
  refine q_icmp_eq d_X7_begins_5 h_r1 h_x1 (fun c3 => ?_) (fun c3 => ?_)
  · refine q_iload_n (x := x2) d_X7_begins_14 rfl ?_
    refine q_bipush d_X7_begins_15 rfl ?_
    refine q_icmp_lt d_X7_begins_17 h_x2 (inr_d rfl) (fun c4 => ?_) (fun c4 => ?_)
    · refine q_aload_n d_X7_begins_26 rfl ?_
      refine q_dup d_X7_begins_27 rfl ?_
      refine q_getI (k := 12) (j := 12) d_X7_begins_28 hA.1 fi_7_104 rfl rfl ?_
      refine q_iconst d_X7_begins_31 ?_
      refine q_iadd d_X7_begins_32 ?_
      refine q_putI (k := 12) (j := 12) d_X7_begins_33 hA.1 fp_7_104 rfl rfl (inr_wr _) w_s2 (fun s5 w_s5 => ?_)
      refine q_iconst d_X7_begins_36 ?_
      exact q_iretz d_X7_begins_37 rfl (Or.inr rfl) w_s5
    · refine q_aload_n d_X7_begins_20 rfl ?_
      refine q_iconst d_X7_begins_21 ?_
      refine q_callZ (R' := R_X7_refuse) (runV (As := [vi 3]) (rest := []) d_X7_begins_22.1 cv_7_151 rfl hA.1 rfl rfl ⟨rfl, rfl, by decide, by decide⟩ (Nat.le_of_ble_eq_true rfl) w_s2 rfl) d_X7_begins_22.2 (c_X7_refuse κ a hA 3 (inr_d rfl) s2) rfl (fun r6 s7 h_r6 w_s7 => ?_)
      exact q_iretz d_X7_begins_25 rfl h_r6 w_s7
  · refine q_aload_n d_X7_begins_8 rfl ?_
    refine q_iconst d_X7_begins_9 ?_
    refine q_callZ (R' := R_X7_refuse) (runV (As := [vi 1]) (rest := []) d_X7_begins_10.1 cv_7_151 rfl hA.1 rfl rfl ⟨rfl, rfl, by decide, by decide⟩ (Nat.le_of_ble_eq_true rfl) w_s2 rfl) d_X7_begins_10.2 (c_X7_refuse κ a hA 1 (inr_b (Or.inr rfl)) s2) rfl (fun r8 s9 h_r8 w_s9 => ?_)
    exact q_iretz d_X7_begins_13 rfl h_r8 w_s9
abbrev R_X7_factor : Room := { frames := 1, cells := 0, slots := 0, locals := 22 }
noncomputable def f_X7_factor (a : Nat) (s0 : Mem) : Res :=
  bd (f_X7_next a s0) fun r1 s2 => jn (fun (s3 : Mem) => lm (mup s3 a 12 (wr ((s3 a 12) + 1))) fun s4 => some (1, s4)) fun j61 => if r1 = 31 then (gd ((0 : Int) ≤ s2 a 12 ∧ s2 a 12 < 401) (bd (f_X2_put (a + 1) (s2 (a + 22) (s2 a 12)) s2) fun r7 s8 => j61 s8)) else (bd (f_X11_within r1 0 9 s2) fun r9 s10 => if r9 = 0 then (bd (f_X7_refuse a 1 s10) fun r12 s13 => some (r12, s13)) else (bd (f_X2_put (a + 1) (wr (10000 + r1)) s10) fun r14 s15 => j61 s15))
set_option maxHeartbeats 4000000 in
set_option maxRecDepth 10000 in
theorem c_X7_factor (κ : Kp) (a : Nat) (hA : At7 κ a) (s0 : Mem) : ∀ r σ', f_X7_factor a s0 = some (r, σ') → Ct κ M_X7_factor R_X7_factor [vr κ a] s0 r σ' := by
  intro r σ' ho
  refine Ct.of (by decide) (Nat.le_of_ble_eq_true rfl) (cat_ok rfl) (fun w_s0 => ?_) ⟨rfl, rfl⟩
  refine q_ent (ls' := [some (vr κ a), none]) (o := f_X7_factor a s0) ⟨rfl, trivial⟩ ?_ ho
  unfold f_X7_factor
  refine q_aload_n d_X7_factor_0 rfl ?_
  refine q_callI (R' := R_X7_next) (runV (As := []) (rest := []) d_X7_factor_1.1 cv_7_86 rfl hA.1 rfl rfl ⟨rfl, rfl, by decide, by decide⟩ (Nat.le_of_ble_eq_true rfl) w_s0 rfl) d_X7_factor_1.2 (c_X7_next κ a hA s0) rfl (fun r1 s2 h_r1 w_s2 => ?_)
  refine q_istore_n d_X7_factor_4 rfl ?_
  refine q_iload_n (x := r1) d_X7_factor_5 rfl ?_
  refine q_bipush d_X7_factor_6 rfl ?_
  refine q_jn (α := Mem → Res) (fun j61 => ∀ (s3 : Mem) (w_s3 : WF s3), EO κ M_X7_factor R_X7_factor 61 [some (vr κ a), none] [] s3 (j61 s3)) ?_ (fun j61 hj61 => ?_)
  · intro s3 w_s3
    refine q_aload_n d_X7_factor_61 rfl ?_
    refine q_dup d_X7_factor_62 rfl ?_
    refine q_getI (k := 12) (j := 12) d_X7_factor_63 hA.1 fi_7_104 rfl rfl ?_
    refine q_iconst d_X7_factor_66 ?_
    refine q_iadd d_X7_factor_67 ?_
    refine q_putI (k := 12) (j := 12) d_X7_factor_68 hA.1 fp_7_104 rfl rfl (inr_wr _) w_s3 (fun s4 w_s4 => ?_)
    refine q_iconst d_X7_factor_71 ?_
    exact q_iretz d_X7_factor_72 rfl (Or.inr rfl) w_s4
  refine q_icmp_ne d_X7_factor_8 h_r1 (inr_d rfl) (fun c5 => ?_) (fun c5 => ?_)
  · refine q_aload_n d_X7_factor_11 rfl ?_
    refine q_getR (n := 1) d_X7_factor_12 hA.1 fi_7_12 rfl (Nat.le_of_ble_eq_true rfl) ?_
    refine q_aload_n d_X7_factor_15 rfl ?_
    refine q_getR (n := 22) d_X7_factor_16 hA.1 fi_7_50 rfl (Nat.le_of_ble_eq_true rfl) ?_
    refine q_aload_n d_X7_factor_19 rfl ?_
    refine q_getI (k := 12) (j := 12) d_X7_factor_20 hA.1 fi_7_104 rfl rfl ?_
    refine q_iaload (m := 401) d_X7_factor_23 hA.2.2.2.2.2.2.2.1 (by decide) rfl (fun g6 => ?_)
    refine q_callV (R' := R_X2_put) (runV (As := [vi (s2 (a + 22) (s2 a 12))]) (rest := []) d_X7_factor_24.1 cv_7_177 rfl hA.2.1.1 rfl rfl ⟨rfl, rfl, by decide, by decide⟩ (Nat.le_of_ble_eq_true rfl) w_s2 rfl) d_X7_factor_24.2 (c_X2_put κ (a + 1) hA.2.1 (s2 (a + 22) (s2 a 12)) (w_s2 _ _) s2) rfl (fun r7 s8 w_s8 => ?_)
    refine q_goto d_X7_factor_27 ?_
    refine q_sub (ls' := [some (vr κ a), none]) ⟨rfl, trivial⟩ ?_
    exact hj61 s8 w_s8
  · refine q_iload_n (x := r1) d_X7_factor_30 rfl ?_
    refine q_iconst d_X7_factor_31 ?_
    refine q_bipush d_X7_factor_32 rfl ?_
    refine q_callZ (R' := R_X11_within) (runN (As := [vi r1, vi 0, vi 9]) (rest := []) d_X7_factor_34.1 cv_7_68 rfl ⟨rfl, rfl, by decide, by decide⟩ (Nat.le_of_ble_eq_true rfl) w_s2 rfl) d_X7_factor_34.2 (c_X11_within κ r1 h_r1 0 (inr_b (Or.inl rfl)) 9 (inr_d rfl) s2) rfl (fun r9 s10 h_r9 w_s10 => ?_)
    refine q_if_eq d_X7_factor_37 (inr_b h_r9) (fun c11 => ?_) (fun c11 => ?_)
    · refine q_aload_n d_X7_factor_55 rfl ?_
      refine q_iconst d_X7_factor_56 ?_
      refine q_callZ (R' := R_X7_refuse) (runV (As := [vi 1]) (rest := []) d_X7_factor_57.1 cv_7_151 rfl hA.1 rfl rfl ⟨rfl, rfl, by decide, by decide⟩ (Nat.le_of_ble_eq_true rfl) w_s10 rfl) d_X7_factor_57.2 (c_X7_refuse κ a hA 1 (inr_b (Or.inr rfl)) s10) rfl (fun r12 s13 h_r12 w_s13 => ?_)
      exact q_iretz d_X7_factor_60 rfl h_r12 w_s13
    · refine q_aload_n d_X7_factor_40 rfl ?_
      refine q_getR (n := 1) d_X7_factor_41 hA.1 fi_7_12 rfl (Nat.le_of_ble_eq_true rfl) ?_
      refine q_sipush d_X7_factor_44 rfl ?_
      refine q_iload_n (x := r1) d_X7_factor_47 rfl ?_
      refine q_iadd d_X7_factor_48 ?_
      refine q_callV (R' := R_X2_put) (runV (As := [vi (wr (10000 + r1))]) (rest := []) d_X7_factor_49.1 cv_7_177 rfl hA.2.1.1 rfl rfl ⟨rfl, rfl, by decide, by decide⟩ (Nat.le_of_ble_eq_true rfl) w_s10 rfl) d_X7_factor_49.2 (c_X2_put κ (a + 1) hA.2.1 (wr (10000 + r1)) (inr_wr _) s10) rfl (fun r14 s15 w_s15 => ?_)
      refine q_goto d_X7_factor_52 ?_
      refine q_sub (ls' := [some (vr κ a), none]) ⟨rfl, trivial⟩ ?_
      exact hj61 s15 w_s15
abbrev R_X7_passesNumber : Room := { frames := 1, cells := 0, slots := 0, locals := 22 }
noncomputable def f_X7_passesNumber (a : Nat) (x1 : Int) (x2 : Int) (s0 : Mem) : Res :=
  bd (f_X7_next a s0) fun r1 s2 => if r1 = 31 then (gd ((0 : Int) ≤ s2 a 12 ∧ s2 a 12 < 401) (lm (mup s2 a 13 (s2 (a + 22) (s2 a 12))) fun s5 => bd (f_X11_within (s5 a 13) x1 x2 s5) fun r6 s7 => if r6 = 0 then (bd (f_X7_refuse a 2 s7) fun r9 s10 => some (r9, s10)) else (lm (mup s7 a 12 (wr ((s7 a 12) + 1))) fun s11 => some (1, s11)))) else (bd (f_X7_refuse a 1 s2) fun r12 s13 => some (r12, s13))
set_option maxHeartbeats 4000000 in
set_option maxRecDepth 10000 in
theorem c_X7_passesNumber (κ : Kp) (a : Nat) (hA : At7 κ a) (x1 : Int) (h_x1 : InR x1) (x2 : Int) (h_x2 : InR x2) (s0 : Mem) : ∀ r σ', f_X7_passesNumber a x1 x2 s0 = some (r, σ') → Ct κ M_X7_passesNumber R_X7_passesNumber [vr κ a, vi x1, vi x2] s0 r σ' := by
  intro r σ' ho
  refine Ct.of (by decide) (Nat.le_of_ble_eq_true rfl) (cat_ok rfl) (fun w_s0 => ?_) ⟨rfl, rfl⟩
  refine q_ent (ls' := [some (vr κ a), some (vi x1), some (vi x2)]) (o := f_X7_passesNumber a x1 x2 s0) ⟨rfl, rfl, rfl, trivial⟩ ?_ ho
  unfold f_X7_passesNumber
  refine q_aload_n d_X7_passesNumber_0 rfl ?_
  refine q_callI (R' := R_X7_next) (runV (As := []) (rest := []) d_X7_passesNumber_1.1 cv_7_86 rfl hA.1 rfl rfl ⟨rfl, rfl, by decide, by decide⟩ (Nat.le_of_ble_eq_true rfl) w_s0 rfl) d_X7_passesNumber_1.2 (c_X7_next κ a hA s0) rfl (fun r1 s2 h_r1 w_s2 => ?_)
  refine q_bipush d_X7_passesNumber_4 rfl ?_
  refine q_icmp_eq d_X7_passesNumber_6 h_r1 (inr_d rfl) (fun c3 => ?_) (fun c3 => ?_)
  · refine q_aload_n d_X7_passesNumber_15 rfl ?_
    refine q_aload_n d_X7_passesNumber_16 rfl ?_
    refine q_getR (n := 22) d_X7_passesNumber_17 hA.1 fi_7_50 rfl (Nat.le_of_ble_eq_true rfl) ?_
    refine q_aload_n d_X7_passesNumber_20 rfl ?_
    refine q_getI (k := 12) (j := 12) d_X7_passesNumber_21 hA.1 fi_7_104 rfl rfl ?_
    refine q_iaload (m := 401) d_X7_passesNumber_24 hA.2.2.2.2.2.2.2.1 (by decide) rfl (fun g4 => ?_)
    refine q_putI (k := 13) (j := 13) d_X7_passesNumber_25 hA.1 fp_7_154 rfl rfl (w_s2 _ _) w_s2 (fun s5 w_s5 => ?_)
    refine q_aload_n d_X7_passesNumber_28 rfl ?_
    refine q_getI (k := 13) (j := 13) d_X7_passesNumber_29 hA.1 fi_7_154 rfl rfl ?_
    refine q_iload_n (x := x1) d_X7_passesNumber_32 rfl ?_
    refine q_iload_n (x := x2) d_X7_passesNumber_33 rfl ?_
    refine q_callZ (R' := R_X11_within) (runN (As := [vi (s5 a 13), vi x1, vi x2]) (rest := []) d_X7_passesNumber_34.1 cv_7_68 rfl ⟨rfl, rfl, by decide, by decide⟩ (Nat.le_of_ble_eq_true rfl) w_s5 rfl) d_X7_passesNumber_34.2 (c_X11_within κ (s5 a 13) (w_s5 _ _) x1 h_x1 x2 h_x2 s5) rfl (fun r6 s7 h_r6 w_s7 => ?_)
    refine q_if_ne d_X7_passesNumber_37 (inr_b h_r6) (fun c8 => ?_) (fun c8 => ?_)
    · refine q_aload_n d_X7_passesNumber_40 rfl ?_
      refine q_iconst d_X7_passesNumber_41 ?_
      refine q_callZ (R' := R_X7_refuse) (runV (As := [vi 2]) (rest := []) d_X7_passesNumber_42.1 cv_7_151 rfl hA.1 rfl rfl ⟨rfl, rfl, by decide, by decide⟩ (Nat.le_of_ble_eq_true rfl) w_s7 rfl) d_X7_passesNumber_42.2 (c_X7_refuse κ a hA 2 (inr_d rfl) s7) rfl (fun r9 s10 h_r9 w_s10 => ?_)
      exact q_iretz d_X7_passesNumber_45 rfl h_r9 w_s10
    · refine q_aload_n d_X7_passesNumber_46 rfl ?_
      refine q_dup d_X7_passesNumber_47 rfl ?_
      refine q_getI (k := 12) (j := 12) d_X7_passesNumber_48 hA.1 fi_7_104 rfl rfl ?_
      refine q_iconst d_X7_passesNumber_51 ?_
      refine q_iadd d_X7_passesNumber_52 ?_
      refine q_putI (k := 12) (j := 12) d_X7_passesNumber_53 hA.1 fp_7_104 rfl rfl (inr_wr _) w_s7 (fun s11 w_s11 => ?_)
      refine q_iconst d_X7_passesNumber_56 ?_
      exact q_iretz d_X7_passesNumber_57 rfl (Or.inr rfl) w_s11
  · refine q_aload_n d_X7_passesNumber_9 rfl ?_
    refine q_iconst d_X7_passesNumber_10 ?_
    refine q_callZ (R' := R_X7_refuse) (runV (As := [vi 1]) (rest := []) d_X7_passesNumber_11.1 cv_7_151 rfl hA.1 rfl rfl ⟨rfl, rfl, by decide, by decide⟩ (Nat.le_of_ble_eq_true rfl) w_s2 rfl) d_X7_passesNumber_11.2 (c_X7_refuse κ a hA 1 (inr_b (Or.inr rfl)) s2) rfl (fun r12 s13 h_r12 w_s13 => ?_)
    exact q_iretz d_X7_passesNumber_14 rfl h_r12 w_s13
abbrev R_X7_sum : Room := { frames := 2, cells := 0, slots := 0, locals := 44 }
noncomputable def f_X7_sum_13 (a : Nat) (k174 : Mem → Res) : Nat → Int → Int → Mem → Res
  | 0, _, _, _ => none
  | n + 1, x1, x2, s0 =>
    if x2 < s0 a 11 then (bd (f_X7_next a s0) fun r8 s9 => jn (fun (v10 : Int) (s11 : Mem) => f_X7_sum_13 a k174 n v10 (wr (x2 + 1)) s11) fun j168 => if r8 = 42 then (lm (mup s9 a 12 (wr ((s9 a 12) + 1))) fun s13 => bd (f_X7_factor a s13) fun r14 s15 => if r14 = 0 then (some (0, s15)) else (bd (f_X2_put (a + 1) 20042 s15) fun r17 s18 => j168 x1 s18)) else (if r8 = 47 then (lm (mup s9 a 12 (wr ((s9 a 12) + 1))) fun s20 => bd (f_X7_passesNumber a 1 9999 s20) fun r21 s22 => if r21 = 0 then (some (0, s22)) else (bd (f_X2_put (a + 1) (s22 a 13) s22) fun r24 s25 => bd (f_X2_put (a + 1) 20047 s25) fun r26 s27 => j168 x1 s27)) else (jn (fun (s28 : Mem) => jn (fun (_ : Unit) => lm (mup s28 a 12 (wr ((s28 a 12) + 1))) fun s29 => bd (f_X7_factor a s29) fun r30 s31 => if r30 = 0 then (some (0, s31)) else (j168 r8 s31)) fun j147 => if r8 = 43 then (j147 ()) else (if r8 = 45 then (j147 ()) else (some (1, s28)))) fun j133 => if x1 = 0 then (j133 s9) else (bd (f_X2_put (a + 1) (wr (20000 + x1)) s9) fun r36 s37 => j133 s37)))) else (k174 s0)
noncomputable def f_X7_sum (a : Nat) (s0 : Mem) : Res :=
  bd (f_X7_factor a s0) fun r1 s2 => if r1 = 0 then (some (0, s2)) else (jn (fun (s4 : Mem) => bd (f_X7_refuse a 1 s4) fun r5 s6 => some (r5, s6)) fun j174 => f_X7_sum_13 a j174 FU 0 0 s2)
set_option maxHeartbeats 4000000 in
set_option maxRecDepth 10000 in
theorem l_X7_sum_13 (κ : Kp) (a : Nat) (hA : At7 κ a) (k174 : Mem → Res) (hk174 : ∀ (sz : Mem) (w_sz : WF sz), EO κ M_X7_sum R_X7_sum 174 [some (vr κ a), none, none, none] [] sz (k174 sz)) : ∀ (n : Nat) (x1 : Int) (h_x1 : InR x1) (x2 : Int) (h_x2 : InR x2) (s0 : Mem) (w_s0 : WF s0), EO κ M_X7_sum R_X7_sum 13 [some (vr κ a), some (vi x1), some (vi x2), none] [] s0 (f_X7_sum_13 a k174 n x1 x2 s0) := by
  intro n
  induction n with
  | zero => exact fun _ _ _ _ _ _ => q_none
  | succ n ih =>
    intro x1 h_x1 x2 h_x2 s0 w_s0
    rw [f_X7_sum_13]
    refine q_iload_n (x := x2) d_X7_sum_13 rfl ?_
    refine q_aload_n d_X7_sum_14 rfl ?_
    refine q_getI (k := 11) (j := 11) d_X7_sum_15 hA.1 fi_7_83 rfl rfl ?_
    refine q_icmp_ge d_X7_sum_18 h_x2 (w_s0 _ _) (fun c7 => ?_) (fun c7 => ?_)
    · refine q_aload_n d_X7_sum_21 rfl ?_
      refine q_callI (R' := R_X7_next) (runV (As := []) (rest := []) d_X7_sum_22.1 cv_7_86 rfl hA.1 rfl rfl ⟨rfl, rfl, by decide, by decide⟩ (Nat.le_of_ble_eq_true rfl) w_s0 rfl) d_X7_sum_22.2 (c_X7_next κ a hA s0) rfl (fun r8 s9 h_r8 w_s9 => ?_)
      refine q_istore_n d_X7_sum_25 rfl ?_
      refine q_iload_n (x := r8) d_X7_sum_26 rfl ?_
      refine q_bipush d_X7_sum_27 rfl ?_
      refine q_jn (α := Int → Mem → Res) (fun j168 => ∀ (v10 : Int) (h_v10 : InR v10) (s11 : Mem) (w_s11 : WF s11), EO κ M_X7_sum R_X7_sum 168 [some (vr κ a), some (vi v10), some (vi x2), none] [] s11 (j168 v10 s11)) ?_ (fun j168 hj168 => ?_)
      · intro v10 h_v10 s11 w_s11
        refine q_iinc (x := x2) d_X7_sum_168 rfl rfl ?_
        refine q_goto d_X7_sum_171 ?_
        refine q_sub (ls' := [some (vr κ a), some (vi v10), some (vi (wr (x2 + 1))), none]) ⟨rfl, rfl, rfl, trivial⟩ ?_
        exact ih v10 h_v10 (wr (x2 + 1)) (inr_wr _) s11 w_s11
      refine q_icmp_ne d_X7_sum_29 h_r8 (inr_d rfl) (fun c12 => ?_) (fun c12 => ?_)
      · refine q_aload_n d_X7_sum_32 rfl ?_
        refine q_dup d_X7_sum_33 rfl ?_
        refine q_getI (k := 12) (j := 12) d_X7_sum_34 hA.1 fi_7_104 rfl rfl ?_
        refine q_iconst d_X7_sum_37 ?_
        refine q_iadd d_X7_sum_38 ?_
        refine q_putI (k := 12) (j := 12) d_X7_sum_39 hA.1 fp_7_104 rfl rfl (inr_wr _) w_s9 (fun s13 w_s13 => ?_)
        refine q_aload_n d_X7_sum_42 rfl ?_
        refine q_callZ (R' := R_X7_factor) (runV (As := []) (rest := []) d_X7_sum_43.1 cv_7_174 rfl hA.1 rfl rfl ⟨rfl, rfl, by decide, by decide⟩ (Nat.le_of_ble_eq_true rfl) w_s13 rfl) d_X7_sum_43.2 (c_X7_factor κ a hA s13) rfl (fun r14 s15 h_r14 w_s15 => ?_)
        refine q_if_ne d_X7_sum_46 (inr_b h_r14) (fun c16 => ?_) (fun c16 => ?_)
        · refine q_iconst d_X7_sum_49 ?_
          exact q_iretz d_X7_sum_50 rfl (Or.inl rfl) w_s15
        · refine q_aload_n d_X7_sum_51 rfl ?_
          refine q_getR (n := 1) d_X7_sum_52 hA.1 fi_7_12 rfl (Nat.le_of_ble_eq_true rfl) ?_
          refine q_sipush d_X7_sum_55 rfl ?_
          refine q_callV (R' := R_X2_put) (runV (As := [vi 20042]) (rest := []) d_X7_sum_58.1 cv_7_177 rfl hA.2.1.1 rfl rfl ⟨rfl, rfl, by decide, by decide⟩ (Nat.le_of_ble_eq_true rfl) w_s15 rfl) d_X7_sum_58.2 (c_X2_put κ (a + 1) hA.2.1 20042 (inr_d rfl) s15) rfl (fun r17 s18 w_s18 => ?_)
          refine q_goto d_X7_sum_61 ?_
          refine q_sub (ls' := [some (vr κ a), some (vi x1), some (vi x2), none]) ⟨rfl, rfl, rfl, trivial⟩ ?_
          exact hj168 x1 h_x1 s18 w_s18
      · refine q_iload_n (x := r8) d_X7_sum_64 rfl ?_
        refine q_bipush d_X7_sum_65 rfl ?_
        refine q_icmp_ne d_X7_sum_67 h_r8 (inr_d rfl) (fun c19 => ?_) (fun c19 => ?_)
        · refine q_aload_n d_X7_sum_70 rfl ?_
          refine q_dup d_X7_sum_71 rfl ?_
          refine q_getI (k := 12) (j := 12) d_X7_sum_72 hA.1 fi_7_104 rfl rfl ?_
          refine q_iconst d_X7_sum_75 ?_
          refine q_iadd d_X7_sum_76 ?_
          refine q_putI (k := 12) (j := 12) d_X7_sum_77 hA.1 fp_7_104 rfl rfl (inr_wr _) w_s9 (fun s20 w_s20 => ?_)
          refine q_aload_n d_X7_sum_80 rfl ?_
          refine q_iconst d_X7_sum_81 ?_
          refine q_sipush d_X7_sum_82 rfl ?_
          refine q_callZ (R' := R_X7_passesNumber) (runV (As := [vi 1, vi 9999]) (rest := []) d_X7_sum_85.1 cv_7_181 rfl hA.1 rfl rfl ⟨rfl, rfl, by decide, by decide⟩ (Nat.le_of_ble_eq_true rfl) w_s20 rfl) d_X7_sum_85.2 (c_X7_passesNumber κ a hA 1 (inr_b (Or.inr rfl)) 9999 (inr_d rfl) s20) rfl (fun r21 s22 h_r21 w_s22 => ?_)
          refine q_if_ne d_X7_sum_88 (inr_b h_r21) (fun c23 => ?_) (fun c23 => ?_)
          · refine q_iconst d_X7_sum_91 ?_
            exact q_iretz d_X7_sum_92 rfl (Or.inl rfl) w_s22
          · refine q_aload_n d_X7_sum_93 rfl ?_
            refine q_getR (n := 1) d_X7_sum_94 hA.1 fi_7_12 rfl (Nat.le_of_ble_eq_true rfl) ?_
            refine q_aload_n d_X7_sum_97 rfl ?_
            refine q_getI (k := 13) (j := 13) d_X7_sum_98 hA.1 fi_7_154 rfl rfl ?_
            refine q_callV (R' := R_X2_put) (runV (As := [vi (s22 a 13)]) (rest := []) d_X7_sum_101.1 cv_7_177 rfl hA.2.1.1 rfl rfl ⟨rfl, rfl, by decide, by decide⟩ (Nat.le_of_ble_eq_true rfl) w_s22 rfl) d_X7_sum_101.2 (c_X2_put κ (a + 1) hA.2.1 (s22 a 13) (w_s22 _ _) s22) rfl (fun r24 s25 w_s25 => ?_)
            refine q_aload_n d_X7_sum_104 rfl ?_
            refine q_getR (n := 1) d_X7_sum_105 hA.1 fi_7_12 rfl (Nat.le_of_ble_eq_true rfl) ?_
            refine q_sipush d_X7_sum_108 rfl ?_
            refine q_callV (R' := R_X2_put) (runV (As := [vi 20047]) (rest := []) d_X7_sum_111.1 cv_7_177 rfl hA.2.1.1 rfl rfl ⟨rfl, rfl, by decide, by decide⟩ (Nat.le_of_ble_eq_true rfl) w_s25 rfl) d_X7_sum_111.2 (c_X2_put κ (a + 1) hA.2.1 20047 (inr_d rfl) s25) rfl (fun r26 s27 w_s27 => ?_)
            refine q_goto d_X7_sum_114 ?_
            refine q_sub (ls' := [some (vr κ a), some (vi x1), some (vi x2), none]) ⟨rfl, rfl, rfl, trivial⟩ ?_
            exact hj168 x1 h_x1 s27 w_s27
        · refine q_iload_n (x := x1) d_X7_sum_117 rfl ?_
          refine q_jn (α := Mem → Res) (fun j133 => ∀ (s28 : Mem) (w_s28 : WF s28), EO κ M_X7_sum R_X7_sum 133 [some (vr κ a), none, some (vi x2), some (vi r8)] [] s28 (j133 s28)) ?_ (fun j133 hj133 => ?_)
          · intro s28 w_s28
            refine q_iload_n (x := r8) d_X7_sum_133 rfl ?_
            refine q_bipush d_X7_sum_134 rfl ?_
            refine q_jn (α := Unit → Res) (fun j147 => EO κ M_X7_sum R_X7_sum 147 [some (vr κ a), none, some (vi x2), some (vi r8)] [] s28 (j147 ())) ?_ (fun j147 hj147 => ?_)
            · refine q_iload_n (x := r8) d_X7_sum_147 rfl ?_
              refine q_istore_n d_X7_sum_148 rfl ?_
              refine q_aload_n d_X7_sum_149 rfl ?_
              refine q_dup d_X7_sum_150 rfl ?_
              refine q_getI (k := 12) (j := 12) d_X7_sum_151 hA.1 fi_7_104 rfl rfl ?_
              refine q_iconst d_X7_sum_154 ?_
              refine q_iadd d_X7_sum_155 ?_
              refine q_putI (k := 12) (j := 12) d_X7_sum_156 hA.1 fp_7_104 rfl rfl (inr_wr _) w_s28 (fun s29 w_s29 => ?_)
              refine q_aload_n d_X7_sum_159 rfl ?_
              refine q_callZ (R' := R_X7_factor) (runV (As := []) (rest := []) d_X7_sum_160.1 cv_7_174 rfl hA.1 rfl rfl ⟨rfl, rfl, by decide, by decide⟩ (Nat.le_of_ble_eq_true rfl) w_s29 rfl) d_X7_sum_160.2 (c_X7_factor κ a hA s29) rfl (fun r30 s31 h_r30 w_s31 => ?_)
              refine q_if_ne d_X7_sum_163 (inr_b h_r30) (fun c32 => ?_) (fun c32 => ?_)
              · refine q_iconst d_X7_sum_166 ?_
                exact q_iretz d_X7_sum_167 rfl (Or.inl rfl) w_s31
              · refine q_sub (ls' := [some (vr κ a), some (vi r8), some (vi x2), none]) ⟨rfl, rfl, rfl, trivial⟩ ?_
                exact hj168 r8 h_r8 s31 w_s31
            refine q_icmp_eq d_X7_sum_136 h_r8 (inr_d rfl) (fun c33 => ?_) (fun c33 => ?_)
            · refine q_sub (ls' := [some (vr κ a), none, some (vi x2), some (vi r8)]) ⟨rfl, rfl, rfl, trivial⟩ ?_
              exact hj147 
            · refine q_iload_n (x := r8) d_X7_sum_139 rfl ?_
              refine q_bipush d_X7_sum_140 rfl ?_
              refine q_icmp_eq d_X7_sum_142 h_r8 (inr_d rfl) (fun c34 => ?_) (fun c34 => ?_)
              · refine q_sub (ls' := [some (vr κ a), none, some (vi x2), some (vi r8)]) ⟨rfl, rfl, rfl, trivial⟩ ?_
                exact hj147 
              · refine q_iconst d_X7_sum_145 ?_
                exact q_iretz d_X7_sum_146 rfl (Or.inr rfl) w_s28
          refine q_if_eq d_X7_sum_118 h_x1 (fun c35 => ?_) (fun c35 => ?_)
          · refine q_sub (ls' := [some (vr κ a), none, some (vi x2), some (vi r8)]) ⟨rfl, rfl, rfl, trivial⟩ ?_
            exact hj133 s9 w_s9
          · refine q_aload_n d_X7_sum_121 rfl ?_
            refine q_getR (n := 1) d_X7_sum_122 hA.1 fi_7_12 rfl (Nat.le_of_ble_eq_true rfl) ?_
            refine q_sipush d_X7_sum_125 rfl ?_
            refine q_iload_n (x := x1) d_X7_sum_128 rfl ?_
            refine q_iadd d_X7_sum_129 ?_
            refine q_callV (R' := R_X2_put) (runV (As := [vi (wr (20000 + x1))]) (rest := []) d_X7_sum_130.1 cv_7_177 rfl hA.2.1.1 rfl rfl ⟨rfl, rfl, by decide, by decide⟩ (Nat.le_of_ble_eq_true rfl) w_s9 rfl) d_X7_sum_130.2 (c_X2_put κ (a + 1) hA.2.1 (wr (20000 + x1)) (inr_wr _) s9) rfl (fun r36 s37 w_s37 => ?_)
            refine q_sub (ls' := [some (vr κ a), none, some (vi x2), some (vi r8)]) ⟨rfl, rfl, rfl, trivial⟩ ?_
            exact hj133 s37 w_s37
    · refine q_sub (ls' := [some (vr κ a), none, none, none]) ⟨rfl, trivial⟩ ?_
      exact hk174 s0 w_s0
set_option maxHeartbeats 4000000 in
set_option maxRecDepth 10000 in
theorem c_X7_sum (κ : Kp) (a : Nat) (hA : At7 κ a) (s0 : Mem) : ∀ r σ', f_X7_sum a s0 = some (r, σ') → Ct κ M_X7_sum R_X7_sum [vr κ a] s0 r σ' := by
  intro r σ' ho
  refine Ct.of (by decide) (Nat.le_of_ble_eq_true rfl) (cat_ok rfl) (fun w_s0 => ?_) ⟨rfl, rfl⟩
  refine q_ent (ls' := [some (vr κ a), none, none, none]) (o := f_X7_sum a s0) ⟨rfl, trivial⟩ ?_ ho
  unfold f_X7_sum
  refine q_iconst d_X7_sum_0 ?_
  refine q_istore_n d_X7_sum_1 rfl ?_
  refine q_aload_n d_X7_sum_2 rfl ?_
  refine q_callZ (R' := R_X7_factor) (runV (As := []) (rest := []) d_X7_sum_3.1 cv_7_174 rfl hA.1 rfl rfl ⟨rfl, rfl, by decide, by decide⟩ (Nat.le_of_ble_eq_true rfl) w_s0 rfl) d_X7_sum_3.2 (c_X7_factor κ a hA s0) rfl (fun r1 s2 h_r1 w_s2 => ?_)
  refine q_if_ne d_X7_sum_6 (inr_b h_r1) (fun c3 => ?_) (fun c3 => ?_)
  · refine q_iconst d_X7_sum_9 ?_
    exact q_iretz d_X7_sum_10 rfl (Or.inl rfl) w_s2
  · refine q_iconst d_X7_sum_11 ?_
    refine q_istore_n d_X7_sum_12 rfl ?_
    refine q_jn (α := Mem → Res) (fun j174 => ∀ (s4 : Mem) (w_s4 : WF s4), EO κ M_X7_sum R_X7_sum 174 [some (vr κ a), none, none, none] [] s4 (j174 s4)) ?_ (fun j174 hj174 => ?_)
    · intro s4 w_s4
      refine q_aload_n d_X7_sum_174 rfl ?_
      refine q_iconst d_X7_sum_175 ?_
      refine q_callZ (R' := R_X7_refuse) (runV (As := [vi 1]) (rest := []) d_X7_sum_176.1 cv_7_151 rfl hA.1 rfl rfl ⟨rfl, rfl, by decide, by decide⟩ (Nat.le_of_ble_eq_true rfl) w_s4 rfl) d_X7_sum_176.2 (c_X7_refuse κ a hA 1 (inr_b (Or.inr rfl)) s4) rfl (fun r5 s6 h_r5 w_s6 => ?_)
      exact q_iretz d_X7_sum_179 rfl h_r5 w_s6
    refine q_sub (ls' := [some (vr κ a), some (vi 0), some (vi 0), none]) ⟨rfl, rfl, rfl, trivial⟩ ?_
    exact l_X7_sum_13 κ a hA j174 hj174 FU 0 (inr_b (Or.inl rfl)) 0 (inr_b (Or.inl rfl)) s2 w_s2
abbrev R_X7_hold : Room := { frames := 0, cells := 0, slots := 0, locals := 0 }
noncomputable def f_X7_hold (a : Nat) (x1 : Int) (s0 : Mem) : Res :=
  if s0 a 15 < 32 then (gd ((0 : Int) ≤ s0 a 15 ∧ s0 a 15 < 32) (lm (mup s0 (a + 24) (s0 a 15) x1) fun s3 => lm (mup s3 a 15 (wr ((s3 a 15) + 1))) fun s4 => some (0, s4))) else (some (0, s0))
set_option maxHeartbeats 4000000 in
set_option maxRecDepth 10000 in
theorem c_X7_hold (κ : Kp) (a : Nat) (hA : At7 κ a) (x1 : Int) (h_x1 : InR x1) (s0 : Mem) : ∀ r σ', f_X7_hold a x1 s0 = some (r, σ') → Ct κ M_X7_hold R_X7_hold [vr κ a, vi x1] s0 r σ' := by
  intro r σ' ho
  refine Ct.of (by decide) (Nat.le_of_ble_eq_true rfl) (cat_ok rfl) (fun w_s0 => ?_) ⟨rfl, rfl⟩
  refine q_ent (ls' := [some (vr κ a), some (vi x1)]) (o := f_X7_hold a x1 s0) ⟨rfl, rfl, trivial⟩ ?_ ho
  unfold f_X7_hold
  refine q_aload_n d_X7_hold_0 rfl ?_
  refine q_getI (k := 15) (j := 15) d_X7_hold_1 hA.1 fi_7_184 rfl rfl ?_
  refine q_aload_n d_X7_hold_4 rfl ?_
  refine q_getR (n := 24) d_X7_hold_5 hA.1 fi_7_56 rfl (Nat.le_of_ble_eq_true rfl) ?_
  refine q_alen (m := 32) d_X7_hold_8 hA.2.2.2.2.2.2.2.2.2 rfl ?_
  refine q_icmp_ge d_X7_hold_9 (w_s0 _ _) (inr_d rfl) (fun c1 => ?_) (fun c1 => ?_)
  · refine q_aload_n d_X7_hold_12 rfl ?_
    refine q_getR (n := 24) d_X7_hold_13 hA.1 fi_7_56 rfl (Nat.le_of_ble_eq_true rfl) ?_
    refine q_aload_n d_X7_hold_16 rfl ?_
    refine q_getI (k := 15) (j := 15) d_X7_hold_17 hA.1 fi_7_184 rfl rfl ?_
    refine q_iload_n (x := x1) d_X7_hold_20 rfl ?_
    refine q_iastore (m := 32) d_X7_hold_21 hA.2.2.2.2.2.2.2.2.2 (by decide) rfl h_x1 w_s0 (fun g2 s3 w_s3 => ?_)
    refine q_aload_n d_X7_hold_22 rfl ?_
    refine q_dup d_X7_hold_23 rfl ?_
    refine q_getI (k := 15) (j := 15) d_X7_hold_24 hA.1 fi_7_184 rfl rfl ?_
    refine q_iconst d_X7_hold_27 ?_
    refine q_iadd d_X7_hold_28 ?_
    refine q_putI (k := 15) (j := 15) d_X7_hold_29 hA.1 fp_7_184 rfl rfl (inr_wr _) w_s3 (fun s4 w_s4 => ?_)
    exact q_vret d_X7_hold_32 rfl w_s4
  · exact q_vret d_X7_hold_32 rfl w_s0
abbrev R_X7_opens : Room := { frames := 1, cells := 0, slots := 0, locals := 21 }
noncomputable def f_X7_opens_2 (a : Nat) (k37 : Mem → Res) : Nat → Int → Mem → Res
  | 0, _, _ => none
  | n + 1, x1, s0 =>
    if x1 < s0 a 11 then (bd (f_X7_next a s0) fun r5 s6 => jn (fun (s7 : Mem) => if s7 a 16 < 8 then (lm (mup s7 a 16 (wr ((s7 a 16) + 1))) fun s9 => bd (f_X7_next a s9) fun r10 s11 => jn (fun (s12 : Mem) => bd (f_X7_next a s12) fun r13 s14 => bd (f_X7_hold a r13 s14) fun r15 s16 => lm (mup s16 a 12 (wr ((s16 a 12) + 1))) fun s17 => f_X7_opens_2 a k37 n (wr (x1 + 1)) s17) fun j72 => if r10 = 40 then (lm (mup s11 a 17 (wr ((s11 a 17) + 1))) fun s19 => j72 s19) else (j72 s11)) else (k37 s7)) fun j28 => if r5 = 17 then (j28 s6) else (bd (f_X7_next a s6) fun r21 s22 => if r21 = 40 then (j28 s22) else (some (1, s22)))) else (some (1, s0))
noncomputable def f_X7_opens (a : Nat) (s0 : Mem) : Res :=
  jn (fun (s1 : Mem) => bd (f_X7_refuse a 3 s1) fun r2 s3 => some (r2, s3)) fun j37 => f_X7_opens_2 a j37 FU 0 s0
set_option maxHeartbeats 4000000 in
set_option maxRecDepth 10000 in
theorem l_X7_opens_2 (κ : Kp) (a : Nat) (hA : At7 κ a) (k37 : Mem → Res) (hk37 : ∀ (sz : Mem) (w_sz : WF sz), EO κ M_X7_opens R_X7_opens 37 [some (vr κ a), none] [] sz (k37 sz)) : ∀ (n : Nat) (x1 : Int) (h_x1 : InR x1) (s0 : Mem) (w_s0 : WF s0), EO κ M_X7_opens R_X7_opens 2 [some (vr κ a), some (vi x1)] [] s0 (f_X7_opens_2 a k37 n x1 s0) := by
  intro n
  induction n with
  | zero => exact fun _ _ _ _ => q_none
  | succ n ih =>
    intro x1 h_x1 s0 w_s0
    rw [f_X7_opens_2]
    refine q_iload_n (x := x1) d_X7_opens_2 rfl ?_
    refine q_aload_n d_X7_opens_3 rfl ?_
    refine q_getI (k := 11) (j := 11) d_X7_opens_4 hA.1 fi_7_83 rfl rfl ?_
    refine q_icmp_ge d_X7_opens_7 h_x1 (w_s0 _ _) (fun c4 => ?_) (fun c4 => ?_)
    · refine q_aload_n d_X7_opens_10 rfl ?_
      refine q_callI (R' := R_X7_next) (runV (As := []) (rest := []) d_X7_opens_11.1 cv_7_86 rfl hA.1 rfl rfl ⟨rfl, rfl, by decide, by decide⟩ (Nat.le_of_ble_eq_true rfl) w_s0 rfl) d_X7_opens_11.2 (c_X7_next κ a hA s0) rfl (fun r5 s6 h_r5 w_s6 => ?_)
      refine q_bipush d_X7_opens_14 rfl ?_
      refine q_jn (α := Mem → Res) (fun j28 => ∀ (s7 : Mem) (w_s7 : WF s7), EO κ M_X7_opens R_X7_opens 28 [some (vr κ a), some (vi x1)] [] s7 (j28 s7)) ?_ (fun j28 hj28 => ?_)
      · intro s7 w_s7
        refine q_aload_n d_X7_opens_28 rfl ?_
        refine q_getI (k := 16) (j := 16) d_X7_opens_29 hA.1 fi_7_187 rfl rfl ?_
        refine q_bipush d_X7_opens_32 rfl ?_
        refine q_icmp_lt d_X7_opens_34 (w_s7 _ _) (inr_d rfl) (fun c8 => ?_) (fun c8 => ?_)
        · refine q_aload_n d_X7_opens_43 rfl ?_
          refine q_dup d_X7_opens_44 rfl ?_
          refine q_getI (k := 16) (j := 16) d_X7_opens_45 hA.1 fi_7_187 rfl rfl ?_
          refine q_iconst d_X7_opens_48 ?_
          refine q_iadd d_X7_opens_49 ?_
          refine q_putI (k := 16) (j := 16) d_X7_opens_50 hA.1 fp_7_187 rfl rfl (inr_wr _) w_s7 (fun s9 w_s9 => ?_)
          refine q_aload_n d_X7_opens_53 rfl ?_
          refine q_callI (R' := R_X7_next) (runV (As := []) (rest := []) d_X7_opens_54.1 cv_7_86 rfl hA.1 rfl rfl ⟨rfl, rfl, by decide, by decide⟩ (Nat.le_of_ble_eq_true rfl) w_s9 rfl) d_X7_opens_54.2 (c_X7_next κ a hA s9) rfl (fun r10 s11 h_r10 w_s11 => ?_)
          refine q_bipush d_X7_opens_57 rfl ?_
          refine q_jn (α := Mem → Res) (fun j72 => ∀ (s12 : Mem) (w_s12 : WF s12), EO κ M_X7_opens R_X7_opens 72 [some (vr κ a), some (vi x1)] [] s12 (j72 s12)) ?_ (fun j72 hj72 => ?_)
          · intro s12 w_s12
            refine q_aload_n d_X7_opens_72 rfl ?_
            refine q_aload_n d_X7_opens_73 rfl ?_
            refine q_callI (R' := R_X7_next) (runV (As := []) (rest := [vr κ a]) d_X7_opens_74.1 cv_7_86 rfl hA.1 rfl rfl ⟨rfl, rfl, by decide, by decide⟩ (Nat.le_of_ble_eq_true rfl) w_s12 rfl) d_X7_opens_74.2 (c_X7_next κ a hA s12) rfl (fun r13 s14 h_r13 w_s14 => ?_)
            refine q_callV (R' := R_X7_hold) (runV (As := [vi r13]) (rest := []) d_X7_opens_77.1 cv_7_202 rfl hA.1 rfl rfl ⟨rfl, rfl, by decide, by decide⟩ (Nat.le_of_ble_eq_true rfl) w_s14 rfl) d_X7_opens_77.2 (c_X7_hold κ a hA r13 h_r13 s14) rfl (fun r15 s16 w_s16 => ?_)
            refine q_aload_n d_X7_opens_80 rfl ?_
            refine q_dup d_X7_opens_81 rfl ?_
            refine q_getI (k := 12) (j := 12) d_X7_opens_82 hA.1 fi_7_104 rfl rfl ?_
            refine q_iconst d_X7_opens_85 ?_
            refine q_iadd d_X7_opens_86 ?_
            refine q_putI (k := 12) (j := 12) d_X7_opens_87 hA.1 fp_7_104 rfl rfl (inr_wr _) w_s16 (fun s17 w_s17 => ?_)
            refine q_iinc (x := x1) d_X7_opens_90 rfl rfl ?_
            refine q_goto d_X7_opens_93 ?_
            refine q_sub (ls' := [some (vr κ a), some (vi (wr (x1 + 1)))]) ⟨rfl, rfl, trivial⟩ ?_
            exact ih (wr (x1 + 1)) (inr_wr _) s17 w_s17
          refine q_icmp_ne d_X7_opens_59 h_r10 (inr_d rfl) (fun c18 => ?_) (fun c18 => ?_)
          · refine q_aload_n d_X7_opens_62 rfl ?_
            refine q_dup d_X7_opens_63 rfl ?_
            refine q_getI (k := 17) (j := 17) d_X7_opens_64 hA.1 fi_7_190 rfl rfl ?_
            refine q_iconst d_X7_opens_67 ?_
            refine q_iadd d_X7_opens_68 ?_
            refine q_putI (k := 17) (j := 17) d_X7_opens_69 hA.1 fp_7_190 rfl rfl (inr_wr _) w_s11 (fun s19 w_s19 => ?_)
            refine q_sub (ls' := [some (vr κ a), some (vi x1)]) ⟨rfl, rfl, trivial⟩ ?_
            exact hj72 s19 w_s19
          · refine q_sub (ls' := [some (vr κ a), some (vi x1)]) ⟨rfl, rfl, trivial⟩ ?_
            exact hj72 s11 w_s11
        · refine q_sub (ls' := [some (vr κ a), none]) ⟨rfl, trivial⟩ ?_
          exact hk37 s7 w_s7
      refine q_icmp_eq d_X7_opens_16 h_r5 (inr_d rfl) (fun c20 => ?_) (fun c20 => ?_)
      · refine q_sub (ls' := [some (vr κ a), some (vi x1)]) ⟨rfl, rfl, trivial⟩ ?_
        exact hj28 s6 w_s6
      · refine q_aload_n d_X7_opens_19 rfl ?_
        refine q_callI (R' := R_X7_next) (runV (As := []) (rest := []) d_X7_opens_20.1 cv_7_86 rfl hA.1 rfl rfl ⟨rfl, rfl, by decide, by decide⟩ (Nat.le_of_ble_eq_true rfl) w_s6 rfl) d_X7_opens_20.2 (c_X7_next κ a hA s6) rfl (fun r21 s22 h_r21 w_s22 => ?_)
        refine q_bipush d_X7_opens_23 rfl ?_
        refine q_icmp_ne d_X7_opens_25 h_r21 (inr_d rfl) (fun c23 => ?_) (fun c23 => ?_)
        · refine q_sub (ls' := [some (vr κ a), some (vi x1)]) ⟨rfl, rfl, trivial⟩ ?_
          exact hj28 s22 w_s22
        · refine q_iconst d_X7_opens_96 ?_
          exact q_iretz d_X7_opens_97 rfl (Or.inr rfl) w_s22
    · refine q_iconst d_X7_opens_96 ?_
      exact q_iretz d_X7_opens_97 rfl (Or.inr rfl) w_s0
set_option maxHeartbeats 4000000 in
set_option maxRecDepth 10000 in
theorem c_X7_opens (κ : Kp) (a : Nat) (hA : At7 κ a) (s0 : Mem) : ∀ r σ', f_X7_opens a s0 = some (r, σ') → Ct κ M_X7_opens R_X7_opens [vr κ a] s0 r σ' := by
  intro r σ' ho
  refine Ct.of (by decide) (Nat.le_of_ble_eq_true rfl) (cat_ok rfl) (fun w_s0 => ?_) ⟨rfl, rfl⟩
  refine q_ent (ls' := [some (vr κ a), none]) (o := f_X7_opens a s0) ⟨rfl, trivial⟩ ?_ ho
  unfold f_X7_opens
  refine q_iconst d_X7_opens_0 ?_
  refine q_istore_n d_X7_opens_1 rfl ?_
  refine q_jn (α := Mem → Res) (fun j37 => ∀ (s1 : Mem) (w_s1 : WF s1), EO κ M_X7_opens R_X7_opens 37 [some (vr κ a), none] [] s1 (j37 s1)) ?_ (fun j37 hj37 => ?_)
  · intro s1 w_s1
    refine q_aload_n d_X7_opens_37 rfl ?_
    refine q_iconst d_X7_opens_38 ?_
    refine q_callZ (R' := R_X7_refuse) (runV (As := [vi 3]) (rest := []) d_X7_opens_39.1 cv_7_151 rfl hA.1 rfl rfl ⟨rfl, rfl, by decide, by decide⟩ (Nat.le_of_ble_eq_true rfl) w_s1 rfl) d_X7_opens_39.2 (c_X7_refuse κ a hA 3 (inr_d rfl) s1) rfl (fun r2 s3 h_r2 w_s3 => ?_)
    exact q_iretz d_X7_opens_42 rfl h_r2 w_s3
  refine q_sub (ls' := [some (vr κ a), some (vi 0)]) ⟨rfl, rfl, trivial⟩ ?_
  exact l_X7_opens_2 κ a hA j37 hj37 FU 0 (inr_b (Or.inl rfl)) s0 w_s0
abbrev R_X7_settle : Room := { frames := 1, cells := 0, slots := 0, locals := 21 }
noncomputable def f_X7_settle_5 (a : Nat) (p1 : Int) : Nat → Int → Mem → Res
  | 0, _, _ => none
  | n + 1, x2, s0 =>
    if 0 < x2 then (gd ((0 : Int) ≤ wr (x2 - 1) ∧ wr (x2 - 1) < 32) (if s0 (a + 24) (wr (x2 - 1)) = 40 then (some (0, s0)) else (gd ((0 : Int) ≤ wr (x2 - 1) ∧ wr (x2 - 1) < 32) (if s0 (a + 24) (wr (x2 - 1)) < p1 then (some (0, s0)) else (gd ((0 : Int) ≤ wr (x2 - 1) ∧ wr (x2 - 1) < 32) (bd (f_X2_put (a + 1) (wr (20000 + (s0 (a + 24) (wr (x2 - 1))))) s0) fun r7 s8 => gd ((0 : Int) ≤ wr (x2 - 1) ∧ wr (x2 - 1) < 32) (jn (fun (s10 : Mem) => lm (mup s10 a 15 (wr ((s10 a 15) - 1))) fun s11 => f_X7_settle_5 a p1 n (wr (x2 + (-1))) s11) fun j76 => if s8 (a + 24) (wr (x2 - 1)) = 17 then (lm (mup s8 a 16 (wr ((s8 a 16) - 1))) fun s13 => j76 s13) else (j76 s8)))))))) else (some (0, s0))
noncomputable def f_X7_settle (a : Nat) (x1 : Int) (s0 : Mem) : Res :=
  f_X7_settle_5 a x1 FU (s0 a 15) s0
set_option maxHeartbeats 4000000 in
set_option maxRecDepth 10000 in
theorem l_X7_settle_5 (κ : Kp) (a : Nat) (hA : At7 κ a) (p1 : Int) (h_p1 : InR p1)   : ∀ (n : Nat) (x2 : Int) (h_x2 : InR x2) (s0 : Mem) (w_s0 : WF s0), EO κ M_X7_settle R_X7_settle 5 [some (vr κ a), some (vi p1), some (vi x2)] [] s0 (f_X7_settle_5 a p1 n x2 s0) := by
  intro n
  induction n with
  | zero => exact fun _ _ _ _ => q_none
  | succ n ih =>
    intro x2 h_x2 s0 w_s0
    rw [f_X7_settle_5]
    refine q_iload_n (x := x2) d_X7_settle_5 rfl ?_
    refine q_if_le d_X7_settle_6 h_x2 (fun c1 => ?_) (fun c1 => ?_)
    · refine q_aload_n d_X7_settle_9 rfl ?_
      refine q_getR (n := 24) d_X7_settle_10 hA.1 fi_7_56 rfl (Nat.le_of_ble_eq_true rfl) ?_
      refine q_iload_n (x := x2) d_X7_settle_13 rfl ?_
      refine q_iconst d_X7_settle_14 ?_
      refine q_isub d_X7_settle_15 ?_
      refine q_iaload (m := 32) d_X7_settle_16 hA.2.2.2.2.2.2.2.2.2 (by decide) rfl (fun g2 => ?_)
      refine q_bipush d_X7_settle_17 rfl ?_
      refine q_icmp_eq d_X7_settle_19 (w_s0 _ _) (inr_d rfl) (fun c3 => ?_) (fun c3 => ?_)
      · exact q_vret d_X7_settle_92 rfl w_s0
      · refine q_aload_n d_X7_settle_22 rfl ?_
        refine q_getR (n := 24) d_X7_settle_23 hA.1 fi_7_56 rfl (Nat.le_of_ble_eq_true rfl) ?_
        refine q_iload_n (x := x2) d_X7_settle_26 rfl ?_
        refine q_iconst d_X7_settle_27 ?_
        refine q_isub d_X7_settle_28 ?_
        refine q_iaload (m := 32) d_X7_settle_29 hA.2.2.2.2.2.2.2.2.2 (by decide) rfl (fun g4 => ?_)
        refine q_iload_n (x := p1) d_X7_settle_30 rfl ?_
        refine q_icmp_lt d_X7_settle_31 (w_s0 _ _) h_p1 (fun c5 => ?_) (fun c5 => ?_)
        · exact q_vret d_X7_settle_92 rfl w_s0
        · refine q_aload_n d_X7_settle_34 rfl ?_
          refine q_getR (n := 1) d_X7_settle_35 hA.1 fi_7_12 rfl (Nat.le_of_ble_eq_true rfl) ?_
          refine q_sipush d_X7_settle_38 rfl ?_
          refine q_aload_n d_X7_settle_41 rfl ?_
          refine q_getR (n := 24) d_X7_settle_42 hA.1 fi_7_56 rfl (Nat.le_of_ble_eq_true rfl) ?_
          refine q_iload_n (x := x2) d_X7_settle_45 rfl ?_
          refine q_iconst d_X7_settle_46 ?_
          refine q_isub d_X7_settle_47 ?_
          refine q_iaload (m := 32) d_X7_settle_48 hA.2.2.2.2.2.2.2.2.2 (by decide) rfl (fun g6 => ?_)
          refine q_iadd d_X7_settle_49 ?_
          refine q_callV (R' := R_X2_put) (runV (As := [vi (wr (20000 + (s0 (a + 24) (wr (x2 - 1)))))]) (rest := []) d_X7_settle_50.1 cv_7_177 rfl hA.2.1.1 rfl rfl ⟨rfl, rfl, by decide, by decide⟩ (Nat.le_of_ble_eq_true rfl) w_s0 rfl) d_X7_settle_50.2 (c_X2_put κ (a + 1) hA.2.1 (wr (20000 + (s0 (a + 24) (wr (x2 - 1))))) (inr_wr _) s0) rfl (fun r7 s8 w_s8 => ?_)
          refine q_aload_n d_X7_settle_53 rfl ?_
          refine q_getR (n := 24) d_X7_settle_54 hA.1 fi_7_56 rfl (Nat.le_of_ble_eq_true rfl) ?_
          refine q_iload_n (x := x2) d_X7_settle_57 rfl ?_
          refine q_iconst d_X7_settle_58 ?_
          refine q_isub d_X7_settle_59 ?_
          refine q_iaload (m := 32) d_X7_settle_60 hA.2.2.2.2.2.2.2.2.2 (by decide) rfl (fun g9 => ?_)
          refine q_bipush d_X7_settle_61 rfl ?_
          refine q_jn (α := Mem → Res) (fun j76 => ∀ (s10 : Mem) (w_s10 : WF s10), EO κ M_X7_settle R_X7_settle 76 [some (vr κ a), some (vi p1), some (vi x2)] [] s10 (j76 s10)) ?_ (fun j76 hj76 => ?_)
          · intro s10 w_s10
            refine q_aload_n d_X7_settle_76 rfl ?_
            refine q_dup d_X7_settle_77 rfl ?_
            refine q_getI (k := 15) (j := 15) d_X7_settle_78 hA.1 fi_7_184 rfl rfl ?_
            refine q_iconst d_X7_settle_81 ?_
            refine q_isub d_X7_settle_82 ?_
            refine q_putI (k := 15) (j := 15) d_X7_settle_83 hA.1 fp_7_184 rfl rfl (inr_wr _) w_s10 (fun s11 w_s11 => ?_)
            refine q_iinc (x := x2) d_X7_settle_86 rfl rfl ?_
            refine q_goto d_X7_settle_89 ?_
            refine q_sub (ls' := [some (vr κ a), some (vi p1), some (vi (wr (x2 + (-1))))]) ⟨rfl, rfl, rfl, trivial⟩ ?_
            exact ih (wr (x2 + (-1))) (inr_wr _) s11 w_s11
          refine q_icmp_ne d_X7_settle_63 (w_s8 _ _) (inr_d rfl) (fun c12 => ?_) (fun c12 => ?_)
          · refine q_aload_n d_X7_settle_66 rfl ?_
            refine q_dup d_X7_settle_67 rfl ?_
            refine q_getI (k := 16) (j := 16) d_X7_settle_68 hA.1 fi_7_187 rfl rfl ?_
            refine q_iconst d_X7_settle_71 ?_
            refine q_isub d_X7_settle_72 ?_
            refine q_putI (k := 16) (j := 16) d_X7_settle_73 hA.1 fp_7_187 rfl rfl (inr_wr _) w_s8 (fun s13 w_s13 => ?_)
            refine q_sub (ls' := [some (vr κ a), some (vi p1), some (vi x2)]) ⟨rfl, rfl, rfl, trivial⟩ ?_
            exact hj76 s13 w_s13
          · refine q_sub (ls' := [some (vr κ a), some (vi p1), some (vi x2)]) ⟨rfl, rfl, rfl, trivial⟩ ?_
            exact hj76 s8 w_s8
    · exact q_vret d_X7_settle_92 rfl w_s0
set_option maxHeartbeats 4000000 in
set_option maxRecDepth 10000 in
theorem c_X7_settle (κ : Kp) (a : Nat) (hA : At7 κ a) (x1 : Int) (h_x1 : InR x1) (s0 : Mem) : ∀ r σ', f_X7_settle a x1 s0 = some (r, σ') → Ct κ M_X7_settle R_X7_settle [vr κ a, vi x1] s0 r σ' := by
  intro r σ' ho
  refine Ct.of (by decide) (Nat.le_of_ble_eq_true rfl) (cat_ok rfl) (fun w_s0 => ?_) ⟨rfl, rfl⟩
  refine q_ent (ls' := [some (vr κ a), some (vi x1), none]) (o := f_X7_settle a x1 s0) ⟨rfl, rfl, trivial⟩ ?_ ho
  unfold f_X7_settle
  refine q_aload_n d_X7_settle_0 rfl ?_
  refine q_getI (k := 15) (j := 15) d_X7_settle_1 hA.1 fi_7_184 rfl rfl ?_
  refine q_istore_n d_X7_settle_4 rfl ?_
  refine q_sub (ls' := [some (vr κ a), some (vi x1), some (vi (s0 a 15))]) ⟨rfl, rfl, rfl, trivial⟩ ?_
  exact l_X7_settle_5 κ a hA x1 h_x1   FU (s0 a 15) (w_s0 _ _) s0 w_s0
abbrev R_X7_closes : Room := { frames := 2, cells := 0, slots := 0, locals := 43 }
noncomputable def f_X7_closes_8 (a : Nat) : Nat → Int → Mem → Res
  | 0, _, _ => none
  | n + 1, x1, s0 =>
    if x1 < s0 a 11 then (bd (f_X7_next a s0) fun r4 s5 => if r4 = 41 then (if 0 < s5 a 17 then (bd (f_X7_settle a 15 s5) fun r8 s9 => lm (mup s9 a 15 (wr ((s9 a 15) - 1))) fun s10 => lm (mup s10 a 16 (wr ((s10 a 16) - 1))) fun s11 => lm (mup s11 a 17 (wr ((s11 a 17) - 1))) fun s12 => lm (mup s12 a 12 (wr ((s12 a 12) + 1))) fun s13 => bd (f_X7_settle a 17 s13) fun r14 s15 => f_X7_closes_8 a n (wr (x1 + 1)) s15) else (some (0, s5))) else (some (0, s5))) else (some (0, s0))
noncomputable def f_X7_closes (a : Nat) (s0 : Mem) : Res :=
  bd (f_X7_settle a 17 s0) fun r1 s2 => f_X7_closes_8 a FU 0 s2
set_option maxHeartbeats 4000000 in
set_option maxRecDepth 10000 in
theorem l_X7_closes_8 (κ : Kp) (a : Nat) (hA : At7 κ a)   : ∀ (n : Nat) (x1 : Int) (h_x1 : InR x1) (s0 : Mem) (w_s0 : WF s0), EO κ M_X7_closes R_X7_closes 8 [some (vr κ a), some (vi x1)] [] s0 (f_X7_closes_8 a n x1 s0) := by
  intro n
  induction n with
  | zero => exact fun _ _ _ _ => q_none
  | succ n ih =>
    intro x1 h_x1 s0 w_s0
    rw [f_X7_closes_8]
    refine q_iload_n (x := x1) d_X7_closes_8 rfl ?_
    refine q_aload_n d_X7_closes_9 rfl ?_
    refine q_getI (k := 11) (j := 11) d_X7_closes_10 hA.1 fi_7_83 rfl rfl ?_
    refine q_icmp_ge d_X7_closes_13 h_x1 (w_s0 _ _) (fun c3 => ?_) (fun c3 => ?_)
    · refine q_aload_n d_X7_closes_16 rfl ?_
      refine q_callI (R' := R_X7_next) (runV (As := []) (rest := []) d_X7_closes_17.1 cv_7_86 rfl hA.1 rfl rfl ⟨rfl, rfl, by decide, by decide⟩ (Nat.le_of_ble_eq_true rfl) w_s0 rfl) d_X7_closes_17.2 (c_X7_next κ a hA s0) rfl (fun r4 s5 h_r4 w_s5 => ?_)
      refine q_bipush d_X7_closes_20 rfl ?_
      refine q_icmp_ne d_X7_closes_22 h_r4 (inr_d rfl) (fun c6 => ?_) (fun c6 => ?_)
      · refine q_aload_n d_X7_closes_25 rfl ?_
        refine q_getI (k := 17) (j := 17) d_X7_closes_26 hA.1 fi_7_190 rfl rfl ?_
        refine q_if_le d_X7_closes_29 (w_s5 _ _) (fun c7 => ?_) (fun c7 => ?_)
        · refine q_aload_n d_X7_closes_32 rfl ?_
          refine q_bipush d_X7_closes_33 rfl ?_
          refine q_callV (R' := R_X7_settle) (runV (As := [vi 15]) (rest := []) d_X7_closes_35.1 cv_7_199 rfl hA.1 rfl rfl ⟨rfl, rfl, by decide, by decide⟩ (Nat.le_of_ble_eq_true rfl) w_s5 rfl) d_X7_closes_35.2 (c_X7_settle κ a hA 15 (inr_d rfl) s5) rfl (fun r8 s9 w_s9 => ?_)
          refine q_aload_n d_X7_closes_38 rfl ?_
          refine q_dup d_X7_closes_39 rfl ?_
          refine q_getI (k := 15) (j := 15) d_X7_closes_40 hA.1 fi_7_184 rfl rfl ?_
          refine q_iconst d_X7_closes_43 ?_
          refine q_isub d_X7_closes_44 ?_
          refine q_putI (k := 15) (j := 15) d_X7_closes_45 hA.1 fp_7_184 rfl rfl (inr_wr _) w_s9 (fun s10 w_s10 => ?_)
          refine q_aload_n d_X7_closes_48 rfl ?_
          refine q_dup d_X7_closes_49 rfl ?_
          refine q_getI (k := 16) (j := 16) d_X7_closes_50 hA.1 fi_7_187 rfl rfl ?_
          refine q_iconst d_X7_closes_53 ?_
          refine q_isub d_X7_closes_54 ?_
          refine q_putI (k := 16) (j := 16) d_X7_closes_55 hA.1 fp_7_187 rfl rfl (inr_wr _) w_s10 (fun s11 w_s11 => ?_)
          refine q_aload_n d_X7_closes_58 rfl ?_
          refine q_dup d_X7_closes_59 rfl ?_
          refine q_getI (k := 17) (j := 17) d_X7_closes_60 hA.1 fi_7_190 rfl rfl ?_
          refine q_iconst d_X7_closes_63 ?_
          refine q_isub d_X7_closes_64 ?_
          refine q_putI (k := 17) (j := 17) d_X7_closes_65 hA.1 fp_7_190 rfl rfl (inr_wr _) w_s11 (fun s12 w_s12 => ?_)
          refine q_aload_n d_X7_closes_68 rfl ?_
          refine q_dup d_X7_closes_69 rfl ?_
          refine q_getI (k := 12) (j := 12) d_X7_closes_70 hA.1 fi_7_104 rfl rfl ?_
          refine q_iconst d_X7_closes_73 ?_
          refine q_iadd d_X7_closes_74 ?_
          refine q_putI (k := 12) (j := 12) d_X7_closes_75 hA.1 fp_7_104 rfl rfl (inr_wr _) w_s12 (fun s13 w_s13 => ?_)
          refine q_aload_n d_X7_closes_78 rfl ?_
          refine q_bipush d_X7_closes_79 rfl ?_
          refine q_callV (R' := R_X7_settle) (runV (As := [vi 17]) (rest := []) d_X7_closes_81.1 cv_7_199 rfl hA.1 rfl rfl ⟨rfl, rfl, by decide, by decide⟩ (Nat.le_of_ble_eq_true rfl) w_s13 rfl) d_X7_closes_81.2 (c_X7_settle κ a hA 17 (inr_d rfl) s13) rfl (fun r14 s15 w_s15 => ?_)
          refine q_iinc (x := x1) d_X7_closes_84 rfl rfl ?_
          refine q_goto d_X7_closes_87 ?_
          refine q_sub (ls' := [some (vr κ a), some (vi (wr (x1 + 1)))]) ⟨rfl, rfl, trivial⟩ ?_
          exact ih (wr (x1 + 1)) (inr_wr _) s15 w_s15
        · exact q_vret d_X7_closes_90 rfl w_s5
      · exact q_vret d_X7_closes_90 rfl w_s5
    · exact q_vret d_X7_closes_90 rfl w_s0
set_option maxHeartbeats 4000000 in
set_option maxRecDepth 10000 in
theorem c_X7_closes (κ : Kp) (a : Nat) (hA : At7 κ a) (s0 : Mem) : ∀ r σ', f_X7_closes a s0 = some (r, σ') → Ct κ M_X7_closes R_X7_closes [vr κ a] s0 r σ' := by
  intro r σ' ho
  refine Ct.of (by decide) (Nat.le_of_ble_eq_true rfl) (cat_ok rfl) (fun w_s0 => ?_) ⟨rfl, rfl⟩
  refine q_ent (ls' := [some (vr κ a), none]) (o := f_X7_closes a s0) ⟨rfl, trivial⟩ ?_ ho
  unfold f_X7_closes
  refine q_aload_n d_X7_closes_0 rfl ?_
  refine q_bipush d_X7_closes_1 rfl ?_
  refine q_callV (R' := R_X7_settle) (runV (As := [vi 17]) (rest := []) d_X7_closes_3.1 cv_7_199 rfl hA.1 rfl rfl ⟨rfl, rfl, by decide, by decide⟩ (Nat.le_of_ble_eq_true rfl) w_s0 rfl) d_X7_closes_3.2 (c_X7_settle κ a hA 17 (inr_d rfl) s0) rfl (fun r1 s2 w_s2 => ?_)
  refine q_iconst d_X7_closes_6 ?_
  refine q_istore_n d_X7_closes_7 rfl ?_
  refine q_sub (ls' := [some (vr κ a), some (vi 0)]) ⟨rfl, rfl, trivial⟩ ?_
  exact l_X7_closes_8 κ a hA   FU 0 (inr_b (Or.inl rfl)) s2 w_s2
abbrev R_X7_condition : Room := { frames := 3, cells := 0, slots := 0, locals := 67 }
noncomputable def f_X7_condition_17 (a : Nat) (k177 : Mem → Res) (k66 : Mem → Res) (k124 : Mem → Res) : Nat → Int → Mem → Res
  | 0, _, _ => none
  | n + 1, x1, s0 =>
    if x1 < s0 a 11 then (bd (f_X7_opens a s0) fun r18 s19 => if r18 = 0 then (some (0, s19)) else (bd (f_X7_sum a s19) fun r21 s22 => if r21 = 0 then (some (0, s22)) else (bd (f_X7_next a s22) fun r24 s25 => jn (fun (_ : Unit) => lm (mup s25 a 12 (wr ((s25 a 12) + 1))) fun s26 => bd (f_X7_sum a s26) fun r27 s28 => if r27 = 0 then (some (0, s28)) else (bd (f_X2_put (a + 1) (wr (20000 + r24)) s28) fun r30 s31 => bd (f_X7_closes a s31) fun r32 s33 => bd (f_X7_next a s33) fun r34 s35 => jn (fun (_ : Unit) => bd (f_X7_settle a r34 s35) fun r36 s37 => bd (f_X7_hold a r34 s37) fun r38 s39 => lm (mup s39 a 12 (wr ((s39 a 12) + 1))) fun s40 => f_X7_condition_17 a k177 k66 k124 n (wr (x1 + 1)) s40) fun j151 => if r34 = 16 then (j151 ()) else (if r34 = 15 then (j151 ()) else (k124 s35)))) fun j72 => if r24 = 60 then (j72 ()) else (if r24 = 61 then (j72 ()) else (if r24 = 62 then (j72 ()) else (k66 s25)))))) else (k177 s0)
noncomputable def f_X7_condition (a : Nat) (s0 : Mem) : Res :=
  lm (mup s0 a 15 0) fun s1 => lm (mup s1 a 16 0) fun s2 => lm (mup s2 a 17 0) fun s3 => jn (fun (s4 : Mem) => bd (f_X7_refuse a 1 s4) fun r5 s6 => some (r5, s6)) fun j177 => jn (fun (s7 : Mem) => bd (f_X7_settle a 15 s7) fun r8 s9 => if s9 a 17 = 0 then (some (1, s9)) else (bd (f_X7_refuse a 1 s9) fun r11 s12 => if r11 = 0 then (some (0, s12)) else (some (1, s12)))) fun j124 => jn (fun (s14 : Mem) => bd (f_X7_refuse a 1 s14) fun r15 s16 => some (r15, s16)) fun j66 => f_X7_condition_17 a j177 j66 j124 FU 0 s3
set_option maxHeartbeats 4000000 in
set_option maxRecDepth 10000 in
theorem l_X7_condition_17 (κ : Kp) (a : Nat) (hA : At7 κ a) (k177 : Mem → Res) (k66 : Mem → Res) (k124 : Mem → Res) (hk177 : ∀ (sz : Mem) (w_sz : WF sz), EO κ M_X7_condition R_X7_condition 177 [some (vr κ a), none, none, none] [] sz (k177 sz)) (hk66 : ∀ (sz : Mem) (w_sz : WF sz), EO κ M_X7_condition R_X7_condition 66 [some (vr κ a), none, none, none] [] sz (k66 sz)) (hk124 : ∀ (sz : Mem) (w_sz : WF sz), EO κ M_X7_condition R_X7_condition 124 [some (vr κ a), none, none, none] [] sz (k124 sz)) : ∀ (n : Nat) (x1 : Int) (h_x1 : InR x1) (s0 : Mem) (w_s0 : WF s0), EO κ M_X7_condition R_X7_condition 17 [some (vr κ a), some (vi x1), none, none] [] s0 (f_X7_condition_17 a k177 k66 k124 n x1 s0) := by
  intro n
  induction n with
  | zero => exact fun _ _ _ _ => q_none
  | succ n ih =>
    intro x1 h_x1 s0 w_s0
    rw [f_X7_condition_17]
    refine q_iload_n (x := x1) d_X7_condition_17 rfl ?_
    refine q_aload_n d_X7_condition_18 rfl ?_
    refine q_getI (k := 11) (j := 11) d_X7_condition_19 hA.1 fi_7_83 rfl rfl ?_
    refine q_icmp_ge d_X7_condition_22 h_x1 (w_s0 _ _) (fun c17 => ?_) (fun c17 => ?_)
    · refine q_aload_n d_X7_condition_25 rfl ?_
      refine q_callZ (R' := R_X7_opens) (runV (As := []) (rest := []) d_X7_condition_26.1 cv_7_193 rfl hA.1 rfl rfl ⟨rfl, rfl, by decide, by decide⟩ (Nat.le_of_ble_eq_true rfl) w_s0 rfl) d_X7_condition_26.2 (c_X7_opens κ a hA s0) rfl (fun r18 s19 h_r18 w_s19 => ?_)
      refine q_if_ne d_X7_condition_29 (inr_b h_r18) (fun c20 => ?_) (fun c20 => ?_)
      · refine q_iconst d_X7_condition_32 ?_
        exact q_iretz d_X7_condition_33 rfl (Or.inl rfl) w_s19
      · refine q_aload_n d_X7_condition_34 rfl ?_
        refine q_callZ (R' := R_X7_sum) (runV (As := []) (rest := []) d_X7_condition_35.1 cv_7_161 rfl hA.1 rfl rfl ⟨rfl, rfl, by decide, by decide⟩ (Nat.le_of_ble_eq_true rfl) w_s19 rfl) d_X7_condition_35.2 (c_X7_sum κ a hA s19) rfl (fun r21 s22 h_r21 w_s22 => ?_)
        refine q_if_ne d_X7_condition_38 (inr_b h_r21) (fun c23 => ?_) (fun c23 => ?_)
        · refine q_iconst d_X7_condition_41 ?_
          exact q_iretz d_X7_condition_42 rfl (Or.inl rfl) w_s22
        · refine q_aload_n d_X7_condition_43 rfl ?_
          refine q_callI (R' := R_X7_next) (runV (As := []) (rest := []) d_X7_condition_44.1 cv_7_86 rfl hA.1 rfl rfl ⟨rfl, rfl, by decide, by decide⟩ (Nat.le_of_ble_eq_true rfl) w_s22 rfl) d_X7_condition_44.2 (c_X7_next κ a hA s22) rfl (fun r24 s25 h_r24 w_s25 => ?_)
          refine q_istore_n d_X7_condition_47 rfl ?_
          refine q_iload_n (x := r24) d_X7_condition_48 rfl ?_
          refine q_bipush d_X7_condition_49 rfl ?_
          refine q_jn (α := Unit → Res) (fun j72 => EO κ M_X7_condition R_X7_condition 72 [some (vr κ a), some (vi x1), some (vi r24), none] [] s25 (j72 ())) ?_ (fun j72 hj72 => ?_)
          · refine q_aload_n d_X7_condition_72 rfl ?_
            refine q_dup d_X7_condition_73 rfl ?_
            refine q_getI (k := 12) (j := 12) d_X7_condition_74 hA.1 fi_7_104 rfl rfl ?_
            refine q_iconst d_X7_condition_77 ?_
            refine q_iadd d_X7_condition_78 ?_
            refine q_putI (k := 12) (j := 12) d_X7_condition_79 hA.1 fp_7_104 rfl rfl (inr_wr _) w_s25 (fun s26 w_s26 => ?_)
            refine q_aload_n d_X7_condition_82 rfl ?_
            refine q_callZ (R' := R_X7_sum) (runV (As := []) (rest := []) d_X7_condition_83.1 cv_7_161 rfl hA.1 rfl rfl ⟨rfl, rfl, by decide, by decide⟩ (Nat.le_of_ble_eq_true rfl) w_s26 rfl) d_X7_condition_83.2 (c_X7_sum κ a hA s26) rfl (fun r27 s28 h_r27 w_s28 => ?_)
            refine q_if_ne d_X7_condition_86 (inr_b h_r27) (fun c29 => ?_) (fun c29 => ?_)
            · refine q_iconst d_X7_condition_89 ?_
              exact q_iretz d_X7_condition_90 rfl (Or.inl rfl) w_s28
            · refine q_aload_n d_X7_condition_91 rfl ?_
              refine q_getR (n := 1) d_X7_condition_92 hA.1 fi_7_12 rfl (Nat.le_of_ble_eq_true rfl) ?_
              refine q_sipush d_X7_condition_95 rfl ?_
              refine q_iload_n (x := r24) d_X7_condition_98 rfl ?_
              refine q_iadd d_X7_condition_99 ?_
              refine q_callV (R' := R_X2_put) (runV (As := [vi (wr (20000 + r24))]) (rest := []) d_X7_condition_100.1 cv_7_177 rfl hA.2.1.1 rfl rfl ⟨rfl, rfl, by decide, by decide⟩ (Nat.le_of_ble_eq_true rfl) w_s28 rfl) d_X7_condition_100.2 (c_X2_put κ (a + 1) hA.2.1 (wr (20000 + r24)) (inr_wr _) s28) rfl (fun r30 s31 w_s31 => ?_)
              refine q_aload_n d_X7_condition_103 rfl ?_
              refine q_callV (R' := R_X7_closes) (runV (As := []) (rest := []) d_X7_condition_104.1 cv_7_196 rfl hA.1 rfl rfl ⟨rfl, rfl, by decide, by decide⟩ (Nat.le_of_ble_eq_true rfl) w_s31 rfl) d_X7_condition_104.2 (c_X7_closes κ a hA s31) rfl (fun r32 s33 w_s33 => ?_)
              refine q_aload_n d_X7_condition_107 rfl ?_
              refine q_callI (R' := R_X7_next) (runV (As := []) (rest := []) d_X7_condition_108.1 cv_7_86 rfl hA.1 rfl rfl ⟨rfl, rfl, by decide, by decide⟩ (Nat.le_of_ble_eq_true rfl) w_s33 rfl) d_X7_condition_108.2 (c_X7_next κ a hA s33) rfl (fun r34 s35 h_r34 w_s35 => ?_)
              refine q_istore_n d_X7_condition_111 rfl ?_
              refine q_iload_n (x := r34) d_X7_condition_112 rfl ?_
              refine q_bipush d_X7_condition_113 rfl ?_
              refine q_jn (α := Unit → Res) (fun j151 => EO κ M_X7_condition R_X7_condition 151 [some (vr κ a), some (vi x1), none, some (vi r34)] [] s35 (j151 ())) ?_ (fun j151 hj151 => ?_)
              · refine q_aload_n d_X7_condition_151 rfl ?_
                refine q_iload_n (x := r34) d_X7_condition_152 rfl ?_
                refine q_callV (R' := R_X7_settle) (runV (As := [vi r34]) (rest := []) d_X7_condition_153.1 cv_7_199 rfl hA.1 rfl rfl ⟨rfl, rfl, by decide, by decide⟩ (Nat.le_of_ble_eq_true rfl) w_s35 rfl) d_X7_condition_153.2 (c_X7_settle κ a hA r34 h_r34 s35) rfl (fun r36 s37 w_s37 => ?_)
                refine q_aload_n d_X7_condition_156 rfl ?_
                refine q_iload_n (x := r34) d_X7_condition_157 rfl ?_
                refine q_callV (R' := R_X7_hold) (runV (As := [vi r34]) (rest := []) d_X7_condition_158.1 cv_7_202 rfl hA.1 rfl rfl ⟨rfl, rfl, by decide, by decide⟩ (Nat.le_of_ble_eq_true rfl) w_s37 rfl) d_X7_condition_158.2 (c_X7_hold κ a hA r34 h_r34 s37) rfl (fun r38 s39 w_s39 => ?_)
                refine q_aload_n d_X7_condition_161 rfl ?_
                refine q_dup d_X7_condition_162 rfl ?_
                refine q_getI (k := 12) (j := 12) d_X7_condition_163 hA.1 fi_7_104 rfl rfl ?_
                refine q_iconst d_X7_condition_166 ?_
                refine q_iadd d_X7_condition_167 ?_
                refine q_putI (k := 12) (j := 12) d_X7_condition_168 hA.1 fp_7_104 rfl rfl (inr_wr _) w_s39 (fun s40 w_s40 => ?_)
                refine q_iinc (x := x1) d_X7_condition_171 rfl rfl ?_
                refine q_goto d_X7_condition_174 ?_
                refine q_sub (ls' := [some (vr κ a), some (vi (wr (x1 + 1))), none, none]) ⟨rfl, rfl, trivial⟩ ?_
                exact ih (wr (x1 + 1)) (inr_wr _) s40 w_s40
              refine q_icmp_eq d_X7_condition_115 h_r34 (inr_d rfl) (fun c41 => ?_) (fun c41 => ?_)
              · refine q_sub (ls' := [some (vr κ a), some (vi x1), none, some (vi r34)]) ⟨rfl, rfl, rfl, trivial⟩ ?_
                exact hj151 
              · refine q_iload_n (x := r34) d_X7_condition_118 rfl ?_
                refine q_bipush d_X7_condition_119 rfl ?_
                refine q_icmp_eq d_X7_condition_121 h_r34 (inr_d rfl) (fun c42 => ?_) (fun c42 => ?_)
                · refine q_sub (ls' := [some (vr κ a), some (vi x1), none, some (vi r34)]) ⟨rfl, rfl, rfl, trivial⟩ ?_
                  exact hj151 
                · refine q_sub (ls' := [some (vr κ a), none, none, none]) ⟨rfl, trivial⟩ ?_
                  exact hk124 s35 w_s35
          refine q_icmp_eq d_X7_condition_51 h_r24 (inr_d rfl) (fun c43 => ?_) (fun c43 => ?_)
          · refine q_sub (ls' := [some (vr κ a), some (vi x1), some (vi r24), none]) ⟨rfl, rfl, rfl, trivial⟩ ?_
            exact hj72 
          · refine q_iload_n (x := r24) d_X7_condition_54 rfl ?_
            refine q_bipush d_X7_condition_55 rfl ?_
            refine q_icmp_eq d_X7_condition_57 h_r24 (inr_d rfl) (fun c44 => ?_) (fun c44 => ?_)
            · refine q_sub (ls' := [some (vr κ a), some (vi x1), some (vi r24), none]) ⟨rfl, rfl, rfl, trivial⟩ ?_
              exact hj72 
            · refine q_iload_n (x := r24) d_X7_condition_60 rfl ?_
              refine q_bipush d_X7_condition_61 rfl ?_
              refine q_icmp_eq d_X7_condition_63 h_r24 (inr_d rfl) (fun c45 => ?_) (fun c45 => ?_)
              · refine q_sub (ls' := [some (vr κ a), some (vi x1), some (vi r24), none]) ⟨rfl, rfl, rfl, trivial⟩ ?_
                exact hj72 
              · refine q_sub (ls' := [some (vr κ a), none, none, none]) ⟨rfl, trivial⟩ ?_
                exact hk66 s25 w_s25
    · refine q_sub (ls' := [some (vr κ a), none, none, none]) ⟨rfl, trivial⟩ ?_
      exact hk177 s0 w_s0
set_option maxHeartbeats 4000000 in
set_option maxRecDepth 10000 in
theorem c_X7_condition (κ : Kp) (a : Nat) (hA : At7 κ a) (s0 : Mem) : ∀ r σ', f_X7_condition a s0 = some (r, σ') → Ct κ M_X7_condition R_X7_condition [vr κ a] s0 r σ' := by
  intro r σ' ho
  refine Ct.of (by decide) (Nat.le_of_ble_eq_true rfl) (cat_ok rfl) (fun w_s0 => ?_) ⟨rfl, rfl⟩
  refine q_ent (ls' := [some (vr κ a), none, none, none]) (o := f_X7_condition a s0) ⟨rfl, trivial⟩ ?_ ho
  unfold f_X7_condition
  refine q_aload_n d_X7_condition_0 rfl ?_
  refine q_iconst d_X7_condition_1 ?_
  refine q_putI (k := 15) (j := 15) d_X7_condition_2 hA.1 fp_7_184 rfl rfl (inr_b (Or.inl rfl)) w_s0 (fun s1 w_s1 => ?_)
  refine q_aload_n d_X7_condition_5 rfl ?_
  refine q_iconst d_X7_condition_6 ?_
  refine q_putI (k := 16) (j := 16) d_X7_condition_7 hA.1 fp_7_187 rfl rfl (inr_b (Or.inl rfl)) w_s1 (fun s2 w_s2 => ?_)
  refine q_aload_n d_X7_condition_10 rfl ?_
  refine q_iconst d_X7_condition_11 ?_
  refine q_putI (k := 17) (j := 17) d_X7_condition_12 hA.1 fp_7_190 rfl rfl (inr_b (Or.inl rfl)) w_s2 (fun s3 w_s3 => ?_)
  refine q_iconst d_X7_condition_15 ?_
  refine q_istore_n d_X7_condition_16 rfl ?_
  refine q_jn (α := Mem → Res) (fun j177 => ∀ (s4 : Mem) (w_s4 : WF s4), EO κ M_X7_condition R_X7_condition 177 [some (vr κ a), none, none, none] [] s4 (j177 s4)) ?_ (fun j177 hj177 => ?_)
  · intro s4 w_s4
    refine q_aload_n d_X7_condition_177 rfl ?_
    refine q_iconst d_X7_condition_178 ?_
    refine q_callZ (R' := R_X7_refuse) (runV (As := [vi 1]) (rest := []) d_X7_condition_179.1 cv_7_151 rfl hA.1 rfl rfl ⟨rfl, rfl, by decide, by decide⟩ (Nat.le_of_ble_eq_true rfl) w_s4 rfl) d_X7_condition_179.2 (c_X7_refuse κ a hA 1 (inr_b (Or.inr rfl)) s4) rfl (fun r5 s6 h_r5 w_s6 => ?_)
    exact q_iretz d_X7_condition_182 rfl h_r5 w_s6
  refine q_jn (α := Mem → Res) (fun j124 => ∀ (s7 : Mem) (w_s7 : WF s7), EO κ M_X7_condition R_X7_condition 124 [some (vr κ a), none, none, none] [] s7 (j124 s7)) ?_ (fun j124 hj124 => ?_)
  · intro s7 w_s7
    refine q_aload_n d_X7_condition_124 rfl ?_
    refine q_bipush d_X7_condition_125 rfl ?_
    refine q_callV (R' := R_X7_settle) (runV (As := [vi 15]) (rest := []) d_X7_condition_127.1 cv_7_199 rfl hA.1 rfl rfl ⟨rfl, rfl, by decide, by decide⟩ (Nat.le_of_ble_eq_true rfl) w_s7 rfl) d_X7_condition_127.2 (c_X7_settle κ a hA 15 (inr_d rfl) s7) rfl (fun r8 s9 w_s9 => ?_)
    refine q_aload_n d_X7_condition_130 rfl ?_
    refine q_getI (k := 17) (j := 17) d_X7_condition_131 hA.1 fi_7_190 rfl rfl ?_
    refine q_if_eq d_X7_condition_134 (w_s9 _ _) (fun c10 => ?_) (fun c10 => ?_)
    · refine q_iconst d_X7_condition_145 ?_
      refine q_goto d_X7_condition_146 ?_
      exact q_iretz d_X7_condition_150 rfl (Or.inr rfl) w_s9
    · refine q_aload_n d_X7_condition_137 rfl ?_
      refine q_iconst d_X7_condition_138 ?_
      refine q_callZ (R' := R_X7_refuse) (runV (As := [vi 1]) (rest := []) d_X7_condition_139.1 cv_7_151 rfl hA.1 rfl rfl ⟨rfl, rfl, by decide, by decide⟩ (Nat.le_of_ble_eq_true rfl) w_s9 rfl) d_X7_condition_139.2 (c_X7_refuse κ a hA 1 (inr_b (Or.inr rfl)) s9) rfl (fun r11 s12 h_r11 w_s12 => ?_)
      refine q_if_eq d_X7_condition_142 (inr_b h_r11) (fun c13 => ?_) (fun c13 => ?_)
      · refine q_iconst d_X7_condition_149 ?_
        exact q_iretz d_X7_condition_150 rfl (Or.inl rfl) w_s12
      · refine q_iconst d_X7_condition_145 ?_
        refine q_goto d_X7_condition_146 ?_
        exact q_iretz d_X7_condition_150 rfl (Or.inr rfl) w_s12
  refine q_jn (α := Mem → Res) (fun j66 => ∀ (s14 : Mem) (w_s14 : WF s14), EO κ M_X7_condition R_X7_condition 66 [some (vr κ a), none, none, none] [] s14 (j66 s14)) ?_ (fun j66 hj66 => ?_)
  · intro s14 w_s14
    refine q_aload_n d_X7_condition_66 rfl ?_
    refine q_iconst d_X7_condition_67 ?_
    refine q_callZ (R' := R_X7_refuse) (runV (As := [vi 1]) (rest := []) d_X7_condition_68.1 cv_7_151 rfl hA.1 rfl rfl ⟨rfl, rfl, by decide, by decide⟩ (Nat.le_of_ble_eq_true rfl) w_s14 rfl) d_X7_condition_68.2 (c_X7_refuse κ a hA 1 (inr_b (Or.inr rfl)) s14) rfl (fun r15 s16 h_r15 w_s16 => ?_)
    exact q_iretz d_X7_condition_71 rfl h_r15 w_s16
  refine q_sub (ls' := [some (vr κ a), some (vi 0), none, none]) ⟨rfl, rfl, trivial⟩ ?_
  exact l_X7_condition_17 κ a hA j177 j66 j124 hj177 hj66 hj124 FU 0 (inr_b (Or.inl rfl)) s3 w_s3
abbrev R_X7_passes : Room := { frames := 1, cells := 0, slots := 0, locals := 21 }
noncomputable def f_X7_passes (a : Nat) (x1 : Int) (s0 : Mem) : Res :=
  bd (f_X7_next a s0) fun r1 s2 => if r1 = x1 then (lm (mup s2 a 12 (wr ((s2 a 12) + 1))) fun s4 => some (1, s4)) else (bd (f_X7_refuse a 1 s2) fun r5 s6 => some (r5, s6))
set_option maxHeartbeats 4000000 in
set_option maxRecDepth 10000 in
theorem c_X7_passes (κ : Kp) (a : Nat) (hA : At7 κ a) (x1 : Int) (h_x1 : InR x1) (s0 : Mem) : ∀ r σ', f_X7_passes a x1 s0 = some (r, σ') → Ct κ M_X7_passes R_X7_passes [vr κ a, vi x1] s0 r σ' := by
  intro r σ' ho
  refine Ct.of (by decide) (Nat.le_of_ble_eq_true rfl) (cat_ok rfl) (fun w_s0 => ?_) ⟨rfl, rfl⟩
  refine q_ent (ls' := [some (vr κ a), some (vi x1)]) (o := f_X7_passes a x1 s0) ⟨rfl, rfl, trivial⟩ ?_ ho
  unfold f_X7_passes
  refine q_aload_n d_X7_passes_0 rfl ?_
  refine q_callI (R' := R_X7_next) (runV (As := []) (rest := []) d_X7_passes_1.1 cv_7_86 rfl hA.1 rfl rfl ⟨rfl, rfl, by decide, by decide⟩ (Nat.le_of_ble_eq_true rfl) w_s0 rfl) d_X7_passes_1.2 (c_X7_next κ a hA s0) rfl (fun r1 s2 h_r1 w_s2 => ?_)
  refine q_iload_n (x := x1) d_X7_passes_4 rfl ?_
  refine q_icmp_eq d_X7_passes_5 h_r1 h_x1 (fun c3 => ?_) (fun c3 => ?_)
  · refine q_aload_n d_X7_passes_14 rfl ?_
    refine q_dup d_X7_passes_15 rfl ?_
    refine q_getI (k := 12) (j := 12) d_X7_passes_16 hA.1 fi_7_104 rfl rfl ?_
    refine q_iconst d_X7_passes_19 ?_
    refine q_iadd d_X7_passes_20 ?_
    refine q_putI (k := 12) (j := 12) d_X7_passes_21 hA.1 fp_7_104 rfl rfl (inr_wr _) w_s2 (fun s4 w_s4 => ?_)
    refine q_iconst d_X7_passes_24 ?_
    exact q_iretz d_X7_passes_25 rfl (Or.inr rfl) w_s4
  · refine q_aload_n d_X7_passes_8 rfl ?_
    refine q_iconst d_X7_passes_9 ?_
    refine q_callZ (R' := R_X7_refuse) (runV (As := [vi 1]) (rest := []) d_X7_passes_10.1 cv_7_151 rfl hA.1 rfl rfl ⟨rfl, rfl, by decide, by decide⟩ (Nat.le_of_ble_eq_true rfl) w_s2 rfl) d_X7_passes_10.2 (c_X7_refuse κ a hA 1 (inr_b (Or.inr rfl)) s2) rfl (fun r5 s6 h_r5 w_s6 => ?_)
    exact q_iretz d_X7_passes_13 rfl h_r5 w_s6
abbrev R_X7_lawLine : Room := { frames := 4, cells := 0, slots := 0, locals := 90 }
noncomputable def f_X7_lawLine (a : Nat) (s0 : Mem) : Res :=
  bd (f_X7_next a s0) fun r1 s2 => bd (f_X11_within r1 10 13 s2) fun r3 s4 => if r3 = 0 then (bd (f_X7_refuse a 1 s4) fun r6 s7 => some (r6, s7)) else (bd (f_X7_begins a r1 (s4 (a + 1) 4) s4) fun r8 s9 => if r8 = 0 then (some (0, s9)) else (bd (f_X7_sum a s9) fun r11 s12 => if r11 = 0 then (some (0, s12)) else (bd (f_X7_next a s12) fun r14 s15 => jn (fun (s16 : Mem) => bd (f_X7_passes a 59 s16) fun r17 s18 => if r17 = 0 then (some (0, s18)) else (bd (f_X2_closeLine (a + 1) r1 (s12 (a + 1) 5) s18) fun r20 s21 => some (1, s21))) fun j82 => if r14 = 14 then (lm (mup s15 a 12 (wr ((s15 a 12) + 1))) fun s23 => bd (f_X7_condition a s23) fun r24 s25 => if r24 = 0 then (some (0, s25)) else (j82 s25)) else (j82 s15))))
set_option maxHeartbeats 4000000 in
set_option maxRecDepth 10000 in
theorem c_X7_lawLine (κ : Kp) (a : Nat) (hA : At7 κ a) (s0 : Mem) : ∀ r σ', f_X7_lawLine a s0 = some (r, σ') → Ct κ M_X7_lawLine R_X7_lawLine [vr κ a] s0 r σ' := by
  intro r σ' ho
  refine Ct.of (by decide) (Nat.le_of_ble_eq_true rfl) (cat_ok rfl) (fun w_s0 => ?_) ⟨rfl, rfl⟩
  refine q_ent (ls' := [some (vr κ a), none, none]) (o := f_X7_lawLine a s0) ⟨rfl, trivial⟩ ?_ ho
  unfold f_X7_lawLine
  refine q_aload_n d_X7_lawLine_0 rfl ?_
  refine q_callI (R' := R_X7_next) (runV (As := []) (rest := []) d_X7_lawLine_1.1 cv_7_86 rfl hA.1 rfl rfl ⟨rfl, rfl, by decide, by decide⟩ (Nat.le_of_ble_eq_true rfl) w_s0 rfl) d_X7_lawLine_1.2 (c_X7_next κ a hA s0) rfl (fun r1 s2 h_r1 w_s2 => ?_)
  refine q_istore_n d_X7_lawLine_4 rfl ?_
  refine q_iload_n (x := r1) d_X7_lawLine_5 rfl ?_
  refine q_bipush d_X7_lawLine_6 rfl ?_
  refine q_bipush d_X7_lawLine_8 rfl ?_
  refine q_callZ (R' := R_X11_within) (runN (As := [vi r1, vi 10, vi 13]) (rest := []) d_X7_lawLine_10.1 cv_7_68 rfl ⟨rfl, rfl, by decide, by decide⟩ (Nat.le_of_ble_eq_true rfl) w_s2 rfl) d_X7_lawLine_10.2 (c_X11_within κ r1 h_r1 10 (inr_d rfl) 13 (inr_d rfl) s2) rfl (fun r3 s4 h_r3 w_s4 => ?_)
  refine q_if_ne d_X7_lawLine_13 (inr_b h_r3) (fun c5 => ?_) (fun c5 => ?_)
  · refine q_aload_n d_X7_lawLine_16 rfl ?_
    refine q_iconst d_X7_lawLine_17 ?_
    refine q_callZ (R' := R_X7_refuse) (runV (As := [vi 1]) (rest := []) d_X7_lawLine_18.1 cv_7_151 rfl hA.1 rfl rfl ⟨rfl, rfl, by decide, by decide⟩ (Nat.le_of_ble_eq_true rfl) w_s4 rfl) d_X7_lawLine_18.2 (c_X7_refuse κ a hA 1 (inr_b (Or.inr rfl)) s4) rfl (fun r6 s7 h_r6 w_s7 => ?_)
    exact q_iretz d_X7_lawLine_21 rfl h_r6 w_s7
  · refine q_aload_n d_X7_lawLine_22 rfl ?_
    refine q_iload_n (x := r1) d_X7_lawLine_23 rfl ?_
    refine q_aload_n d_X7_lawLine_24 rfl ?_
    refine q_getR (n := 1) d_X7_lawLine_25 hA.1 fi_7_12 rfl (Nat.le_of_ble_eq_true rfl) ?_
    refine q_getI (k := 4) (j := 4) d_X7_lawLine_28 hA.2.1.1 fi_7_72 rfl rfl ?_
    refine q_callZ (R' := R_X7_begins) (runV (As := [vi r1, vi (s4 (a + 1) 4)]) (rest := []) d_X7_lawLine_31.1 cv_7_157 rfl hA.1 rfl rfl ⟨rfl, rfl, by decide, by decide⟩ (Nat.le_of_ble_eq_true rfl) w_s4 rfl) d_X7_lawLine_31.2 (c_X7_begins κ a hA r1 h_r1 (s4 (a + 1) 4) (w_s4 _ _) s4) rfl (fun r8 s9 h_r8 w_s9 => ?_)
    refine q_if_eq d_X7_lawLine_34 (inr_b h_r8) (fun c10 => ?_) (fun c10 => ?_)
    · refine q_iconst d_X7_lawLine_44 ?_
      exact q_iretz d_X7_lawLine_45 rfl (Or.inl rfl) w_s9
    · refine q_aload_n d_X7_lawLine_37 rfl ?_
      refine q_callZ (R' := R_X7_sum) (runV (As := []) (rest := []) d_X7_lawLine_38.1 cv_7_161 rfl hA.1 rfl rfl ⟨rfl, rfl, by decide, by decide⟩ (Nat.le_of_ble_eq_true rfl) w_s9 rfl) d_X7_lawLine_38.2 (c_X7_sum κ a hA s9) rfl (fun r11 s12 h_r11 w_s12 => ?_)
      refine q_if_ne d_X7_lawLine_41 (inr_b h_r11) (fun c13 => ?_) (fun c13 => ?_)
      · refine q_iconst d_X7_lawLine_44 ?_
        exact q_iretz d_X7_lawLine_45 rfl (Or.inl rfl) w_s12
      · refine q_aload_n d_X7_lawLine_46 rfl ?_
        refine q_getR (n := 1) d_X7_lawLine_47 hA.1 fi_7_12 rfl (Nat.le_of_ble_eq_true rfl) ?_
        refine q_getI (k := 5) (j := 5) d_X7_lawLine_50 hA.2.1.1 fi_7_75 rfl rfl ?_
        refine q_istore_n d_X7_lawLine_53 rfl ?_
        refine q_aload_n d_X7_lawLine_54 rfl ?_
        refine q_callI (R' := R_X7_next) (runV (As := []) (rest := []) d_X7_lawLine_55.1 cv_7_86 rfl hA.1 rfl rfl ⟨rfl, rfl, by decide, by decide⟩ (Nat.le_of_ble_eq_true rfl) w_s12 rfl) d_X7_lawLine_55.2 (c_X7_next κ a hA s12) rfl (fun r14 s15 h_r14 w_s15 => ?_)
        refine q_bipush d_X7_lawLine_58 rfl ?_
        refine q_jn (α := Mem → Res) (fun j82 => ∀ (s16 : Mem) (w_s16 : WF s16), EO κ M_X7_lawLine R_X7_lawLine 82 [some (vr κ a), some (vi r1), some (vi (s12 (a + 1) 5))] [] s16 (j82 s16)) ?_ (fun j82 hj82 => ?_)
        · intro s16 w_s16
          refine q_aload_n d_X7_lawLine_82 rfl ?_
          refine q_bipush d_X7_lawLine_83 rfl ?_
          refine q_callZ (R' := R_X7_passes) (runV (As := [vi 59]) (rest := []) d_X7_lawLine_85.1 cv_7_167 rfl hA.1 rfl rfl ⟨rfl, rfl, by decide, by decide⟩ (Nat.le_of_ble_eq_true rfl) w_s16 rfl) d_X7_lawLine_85.2 (c_X7_passes κ a hA 59 (inr_d rfl) s16) rfl (fun r17 s18 h_r17 w_s18 => ?_)
          refine q_if_ne d_X7_lawLine_88 (inr_b h_r17) (fun c19 => ?_) (fun c19 => ?_)
          · refine q_iconst d_X7_lawLine_91 ?_
            exact q_iretz d_X7_lawLine_92 rfl (Or.inl rfl) w_s18
          · refine q_aload_n d_X7_lawLine_93 rfl ?_
            refine q_getR (n := 1) d_X7_lawLine_94 hA.1 fi_7_12 rfl (Nat.le_of_ble_eq_true rfl) ?_
            refine q_iload_n (x := r1) d_X7_lawLine_97 rfl ?_
            refine q_iload_n (x := s12 (a + 1) 5) d_X7_lawLine_98 rfl ?_
            refine q_callV (R' := R_X2_closeLine) (runV (As := [vi r1, vi (s12 (a + 1) 5)]) (rest := []) d_X7_lawLine_99.1 cv_7_170 rfl hA.2.1.1 rfl rfl ⟨rfl, rfl, by decide, by decide⟩ (Nat.le_of_ble_eq_true rfl) w_s18 rfl) d_X7_lawLine_99.2 (c_X2_closeLine κ (a + 1) hA.2.1 r1 h_r1 (s12 (a + 1) 5) (w_s12 _ _) s18) rfl (fun r20 s21 w_s21 => ?_)
            refine q_iconst d_X7_lawLine_102 ?_
            exact q_iretz d_X7_lawLine_103 rfl (Or.inr rfl) w_s21
        refine q_icmp_ne d_X7_lawLine_60 h_r14 (inr_d rfl) (fun c22 => ?_) (fun c22 => ?_)
        · refine q_aload_n d_X7_lawLine_63 rfl ?_
          refine q_dup d_X7_lawLine_64 rfl ?_
          refine q_getI (k := 12) (j := 12) d_X7_lawLine_65 hA.1 fi_7_104 rfl rfl ?_
          refine q_iconst d_X7_lawLine_68 ?_
          refine q_iadd d_X7_lawLine_69 ?_
          refine q_putI (k := 12) (j := 12) d_X7_lawLine_70 hA.1 fp_7_104 rfl rfl (inr_wr _) w_s15 (fun s23 w_s23 => ?_)
          refine q_aload_n d_X7_lawLine_73 rfl ?_
          refine q_callZ (R' := R_X7_condition) (runV (As := []) (rest := []) d_X7_lawLine_74.1 cv_7_164 rfl hA.1 rfl rfl ⟨rfl, rfl, by decide, by decide⟩ (Nat.le_of_ble_eq_true rfl) w_s23 rfl) d_X7_lawLine_74.2 (c_X7_condition κ a hA s23) rfl (fun r24 s25 h_r24 w_s25 => ?_)
          refine q_if_ne d_X7_lawLine_77 (inr_b h_r24) (fun c26 => ?_) (fun c26 => ?_)
          · refine q_iconst d_X7_lawLine_80 ?_
            exact q_iretz d_X7_lawLine_81 rfl (Or.inl rfl) w_s25
          · refine q_sub (ls' := [some (vr κ a), some (vi r1), some (vi (s12 (a + 1) 5))]) ⟨rfl, rfl, rfl, trivial⟩ ?_
            exact hj82 s25 w_s25
        · refine q_sub (ls' := [some (vr κ a), some (vi r1), some (vi (s12 (a + 1) 5))]) ⟨rfl, rfl, rfl, trivial⟩ ?_
          exact hj82 s15 w_s15
abbrev R_X7_currentLine : Room := { frames := 2, cells := 0, slots := 0, locals := 44 }
noncomputable def f_X7_currentLine (a : Nat) (s0 : Mem) : Res :=
  bd (f_X7_begins a 7 (s0 (a + 8) 2) s0) fun r1 s2 => if r1 = 0 then (some (0, s2)) else (bd (f_X7_passesNumber a 0 23 s2) fun r4 s5 => if r4 = 0 then (some (0, s5)) else (bd (f_X7_next a s5) fun r7 s8 => jn (fun (_ : Unit) => lm (mup s8 a 12 (wr ((s8 a 12) + 1))) fun s9 => bd (f_X7_passesNumber a 0 5 s9) fun r10 s11 => if r10 = 0 then (some (0, s11)) else (bd (f_X7_passes a 59 s11) fun r13 s14 => if r13 = 0 then (some (0, s14)) else (jn (fun (y16 : Int) => bd (f_X1_enter (a + 8) (s5 a 13) y16 s14) fun r17 s18 => some (1, s18)) fun j110 => if r7 = 18 then (j110 (s11 a 13)) else (j110 (wr (-(s11 a 13))))))) fun j56 => if r7 = 18 then (j56 ()) else (if r7 = 19 then (j56 ()) else (bd (f_X7_refuse a 1 s8) fun r22 s23 => some (r22, s23)))))
set_option maxHeartbeats 4000000 in
set_option maxRecDepth 10000 in
theorem c_X7_currentLine (κ : Kp) (a : Nat) (hA : At7 κ a) (s0 : Mem) : ∀ r σ', f_X7_currentLine a s0 = some (r, σ') → Ct κ M_X7_currentLine R_X7_currentLine [vr κ a] s0 r σ' := by
  intro r σ' ho
  refine Ct.of (by decide) (Nat.le_of_ble_eq_true rfl) (cat_ok rfl) (fun w_s0 => ?_) ⟨rfl, rfl⟩
  refine q_ent (ls' := [some (vr κ a), none, none, none]) (o := f_X7_currentLine a s0) ⟨rfl, trivial⟩ ?_ ho
  unfold f_X7_currentLine
  refine q_aload_n d_X7_currentLine_0 rfl ?_
  refine q_bipush d_X7_currentLine_1 rfl ?_
  refine q_aload_n d_X7_currentLine_3 rfl ?_
  refine q_getR (n := 8) d_X7_currentLine_4 hA.1 fi_7_21 rfl (Nat.le_of_ble_eq_true rfl) ?_
  refine q_getI (k := 2) (j := 2) d_X7_currentLine_7 hA.2.2.1.1 fi_7_78 rfl rfl ?_
  refine q_callZ (R' := R_X7_begins) (runV (As := [vi 7, vi (s0 (a + 8) 2)]) (rest := []) d_X7_currentLine_10.1 cv_7_157 rfl hA.1 rfl rfl ⟨rfl, rfl, by decide, by decide⟩ (Nat.le_of_ble_eq_true rfl) w_s0 rfl) d_X7_currentLine_10.2 (c_X7_begins κ a hA 7 (inr_d rfl) (s0 (a + 8) 2) (w_s0 _ _) s0) rfl (fun r1 s2 h_r1 w_s2 => ?_)
  refine q_if_eq d_X7_currentLine_13 (inr_b h_r1) (fun c3 => ?_) (fun c3 => ?_)
  · refine q_iconst d_X7_currentLine_26 ?_
    exact q_iretz d_X7_currentLine_27 rfl (Or.inl rfl) w_s2
  · refine q_aload_n d_X7_currentLine_16 rfl ?_
    refine q_iconst d_X7_currentLine_17 ?_
    refine q_bipush d_X7_currentLine_18 rfl ?_
    refine q_callZ (R' := R_X7_passesNumber) (runV (As := [vi 0, vi 23]) (rest := []) d_X7_currentLine_20.1 cv_7_181 rfl hA.1 rfl rfl ⟨rfl, rfl, by decide, by decide⟩ (Nat.le_of_ble_eq_true rfl) w_s2 rfl) d_X7_currentLine_20.2 (c_X7_passesNumber κ a hA 0 (inr_b (Or.inl rfl)) 23 (inr_d rfl) s2) rfl (fun r4 s5 h_r4 w_s5 => ?_)
    refine q_if_ne d_X7_currentLine_23 (inr_b h_r4) (fun c6 => ?_) (fun c6 => ?_)
    · refine q_iconst d_X7_currentLine_26 ?_
      exact q_iretz d_X7_currentLine_27 rfl (Or.inl rfl) w_s5
    · refine q_aload_n d_X7_currentLine_28 rfl ?_
      refine q_getI (k := 13) (j := 13) d_X7_currentLine_29 hA.1 fi_7_154 rfl rfl ?_
      refine q_istore_n d_X7_currentLine_32 rfl ?_
      refine q_aload_n d_X7_currentLine_33 rfl ?_
      refine q_callI (R' := R_X7_next) (runV (As := []) (rest := []) d_X7_currentLine_34.1 cv_7_86 rfl hA.1 rfl rfl ⟨rfl, rfl, by decide, by decide⟩ (Nat.le_of_ble_eq_true rfl) w_s5 rfl) d_X7_currentLine_34.2 (c_X7_next κ a hA s5) rfl (fun r7 s8 h_r7 w_s8 => ?_)
      refine q_istore_n d_X7_currentLine_37 rfl ?_
      refine q_iload_n (x := r7) d_X7_currentLine_38 rfl ?_
      refine q_bipush d_X7_currentLine_39 rfl ?_
      refine q_jn (α := Unit → Res) (fun j56 => EO κ M_X7_currentLine R_X7_currentLine 56 [some (vr κ a), some (vi (s5 a 13)), some (vi r7), none] [] s8 (j56 ())) ?_ (fun j56 hj56 => ?_)
      · refine q_aload_n d_X7_currentLine_56 rfl ?_
        refine q_dup d_X7_currentLine_57 rfl ?_
        refine q_getI (k := 12) (j := 12) d_X7_currentLine_58 hA.1 fi_7_104 rfl rfl ?_
        refine q_iconst d_X7_currentLine_61 ?_
        refine q_iadd d_X7_currentLine_62 ?_
        refine q_putI (k := 12) (j := 12) d_X7_currentLine_63 hA.1 fp_7_104 rfl rfl (inr_wr _) w_s8 (fun s9 w_s9 => ?_)
        refine q_aload_n d_X7_currentLine_66 rfl ?_
        refine q_iconst d_X7_currentLine_67 ?_
        refine q_iconst d_X7_currentLine_68 ?_
        refine q_callZ (R' := R_X7_passesNumber) (runV (As := [vi 0, vi 5]) (rest := []) d_X7_currentLine_69.1 cv_7_181 rfl hA.1 rfl rfl ⟨rfl, rfl, by decide, by decide⟩ (Nat.le_of_ble_eq_true rfl) w_s9 rfl) d_X7_currentLine_69.2 (c_X7_passesNumber κ a hA 0 (inr_b (Or.inl rfl)) 5 (inr_d rfl) s9) rfl (fun r10 s11 h_r10 w_s11 => ?_)
        refine q_if_ne d_X7_currentLine_72 (inr_b h_r10) (fun c12 => ?_) (fun c12 => ?_)
        · refine q_iconst d_X7_currentLine_75 ?_
          exact q_iretz d_X7_currentLine_76 rfl (Or.inl rfl) w_s11
        · refine q_aload_n d_X7_currentLine_77 rfl ?_
          refine q_getI (k := 13) (j := 13) d_X7_currentLine_78 hA.1 fi_7_154 rfl rfl ?_
          refine q_istore_n d_X7_currentLine_81 rfl ?_
          refine q_aload_n d_X7_currentLine_82 rfl ?_
          refine q_bipush d_X7_currentLine_83 rfl ?_
          refine q_callZ (R' := R_X7_passes) (runV (As := [vi 59]) (rest := []) d_X7_currentLine_85.1 cv_7_167 rfl hA.1 rfl rfl ⟨rfl, rfl, by decide, by decide⟩ (Nat.le_of_ble_eq_true rfl) w_s11 rfl) d_X7_currentLine_85.2 (c_X7_passes κ a hA 59 (inr_d rfl) s11) rfl (fun r13 s14 h_r13 w_s14 => ?_)
          refine q_if_ne d_X7_currentLine_88 (inr_b h_r13) (fun c15 => ?_) (fun c15 => ?_)
          · refine q_iconst d_X7_currentLine_91 ?_
            exact q_iretz d_X7_currentLine_92 rfl (Or.inl rfl) w_s14
          · refine q_aload_n d_X7_currentLine_93 rfl ?_
            refine q_getR (n := 8) d_X7_currentLine_94 hA.1 fi_7_21 rfl (Nat.le_of_ble_eq_true rfl) ?_
            refine q_iload_n (x := s5 a 13) d_X7_currentLine_97 rfl ?_
            refine q_iload_n (x := r7) d_X7_currentLine_98 rfl ?_
            refine q_bipush d_X7_currentLine_99 rfl ?_
            refine q_jn (α := Int → Res) (fun j110 => ∀ (y16 : Int) (h_y16 : InR y16), EO κ M_X7_currentLine R_X7_currentLine 110 [none, none, none, none] [vi y16, vi (s5 a 13), vr κ (a + 8)] s14 (j110 y16)) ?_ (fun j110 hj110 => ?_)
            · intro y16 h_y16
              refine q_callV (R' := R_X1_enter) (runV (As := [vi (s5 a 13), vi y16]) (rest := []) d_X7_currentLine_110.1 cv_7_205 rfl hA.2.2.1.1 rfl rfl ⟨rfl, rfl, by decide, by decide⟩ (Nat.le_of_ble_eq_true rfl) w_s14 rfl) d_X7_currentLine_110.2 (c_X1_enter κ (a + 8) hA.2.2.1 (s5 a 13) (w_s5 _ _) y16 h_y16 s14) rfl (fun r17 s18 w_s18 => ?_)
              refine q_iconst d_X7_currentLine_113 ?_
              exact q_iretz d_X7_currentLine_114 rfl (Or.inr rfl) w_s18
            refine q_icmp_ne d_X7_currentLine_101 h_r7 (inr_d rfl) (fun c19 => ?_) (fun c19 => ?_)
            · refine q_iload_n (x := s11 a 13) d_X7_currentLine_104 rfl ?_
              refine q_goto d_X7_currentLine_105 ?_
              refine q_sub (ls' := [none, none, none, none]) trivial ?_
              exact hj110 (s11 a 13) (w_s11 _ _)
            · refine q_iload_n (x := s11 a 13) d_X7_currentLine_108 rfl ?_
              refine q_ineg d_X7_currentLine_109 ?_
              refine q_sub (ls' := [none, none, none, none]) trivial ?_
              exact hj110 (wr (-(s11 a 13))) (inr_wr _)
      refine q_icmp_eq d_X7_currentLine_41 h_r7 (inr_d rfl) (fun c20 => ?_) (fun c20 => ?_)
      · refine q_sub (ls' := [some (vr κ a), some (vi (s5 a 13)), some (vi r7), none]) ⟨rfl, rfl, rfl, trivial⟩ ?_
        exact hj56 
      · refine q_iload_n (x := r7) d_X7_currentLine_44 rfl ?_
        refine q_bipush d_X7_currentLine_45 rfl ?_
        refine q_icmp_eq d_X7_currentLine_47 h_r7 (inr_d rfl) (fun c21 => ?_) (fun c21 => ?_)
        · refine q_sub (ls' := [some (vr κ a), some (vi (s5 a 13)), some (vi r7), none]) ⟨rfl, rfl, rfl, trivial⟩ ?_
          exact hj56 
        · refine q_aload_n d_X7_currentLine_50 rfl ?_
          refine q_iconst d_X7_currentLine_51 ?_
          refine q_callZ (R' := R_X7_refuse) (runV (As := [vi 1]) (rest := []) d_X7_currentLine_52.1 cv_7_151 rfl hA.1 rfl rfl ⟨rfl, rfl, by decide, by decide⟩ (Nat.le_of_ble_eq_true rfl) w_s8 rfl) d_X7_currentLine_52.2 (c_X7_refuse κ a hA 1 (inr_b (Or.inr rfl)) s8) rfl (fun r22 s23 h_r22 w_s23 => ?_)
          exact q_iretz d_X7_currentLine_55 rfl h_r22 w_s23

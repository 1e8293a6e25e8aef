abbrev R_X12_isIn : Room := { frames := 0, cells := 0, slots := 0, locals := 0 }
noncomputable def f_X12_isIn (x0 : Int) (x1 : Int) (x2 : Int) (s0 : Mem) : Res :=
  if x0 < x1 then (some (0, s0)) else (if x2 < x0 then (some (0, s0)) else (some (1, s0)))
set_option maxHeartbeats 4000000 in
set_option maxRecDepth 10000 in
theorem c_X12_isIn (κ : Kp) (x0 : Int) (h_x0 : InR x0) (x1 : Int) (h_x1 : InR x1) (x2 : Int) (h_x2 : InR x2) (s0 : Mem) : ∀ r σ', f_X12_isIn x0 x1 x2 s0 = some (r, σ') → Ct κ M_X12_isIn R_X12_isIn [vi x0, vi x1, vi x2] s0 r σ' := by
  intro r σ' ho
  refine Ct.of (by decide) (Nat.le_of_ble_eq_true rfl) (cat_ok rfl) (fun w_s0 => ?_) ⟨rfl, rfl⟩
  refine q_ent (ls' := [some (vi x0), some (vi x1), some (vi x2)]) (o := f_X12_isIn x0 x1 x2 s0) ⟨rfl, rfl, rfl, trivial⟩ ?_ ho
  unfold f_X12_isIn
  refine q_iload_n (x := x0) d_X12_isIn_0 rfl ?_
  refine q_iload_n (x := x1) d_X12_isIn_1 rfl ?_
  refine q_icmp_lt d_X12_isIn_2 h_x0 h_x1 (fun c1 => ?_) (fun c1 => ?_)
  · refine q_iconst d_X12_isIn_14 ?_
    exact q_iretz d_X12_isIn_15 rfl (Or.inl rfl) w_s0
  · refine q_iload_n (x := x0) d_X12_isIn_5 rfl ?_
    refine q_iload_n (x := x2) d_X12_isIn_6 rfl ?_
    refine q_icmp_gt d_X12_isIn_7 h_x0 h_x2 (fun c2 => ?_) (fun c2 => ?_)
    · refine q_iconst d_X12_isIn_14 ?_
      exact q_iretz d_X12_isIn_15 rfl (Or.inl rfl) w_s0
    · refine q_iconst d_X12_isIn_10 ?_
      refine q_goto d_X12_isIn_11 ?_
      exact q_iretz d_X12_isIn_15 rfl (Or.inr rfl) w_s0
abbrev R_X12_lesser : Room := { frames := 0, cells := 0, slots := 0, locals := 0 }
noncomputable def f_X12_lesser (x0 : Int) (x1 : Int) (s0 : Mem) : Res :=
  if x0 < x1 then (some (x0, s0)) else (some (x1, s0))
set_option maxHeartbeats 4000000 in
set_option maxRecDepth 10000 in
theorem c_X12_lesser (κ : Kp) (x0 : Int) (h_x0 : InR x0) (x1 : Int) (h_x1 : InR x1) (s0 : Mem) : ∀ r σ', f_X12_lesser x0 x1 s0 = some (r, σ') → Ct κ M_X12_lesser R_X12_lesser [vi x0, vi x1] s0 r σ' := by
  intro r σ' ho
  refine Ct.of (by decide) (Nat.le_of_ble_eq_true rfl) (cat_ok rfl) (fun w_s0 => ?_) ⟨rfl, rfl⟩
  refine q_ent (ls' := [some (vi x0), some (vi x1)]) (o := f_X12_lesser x0 x1 s0) ⟨rfl, rfl, trivial⟩ ?_ ho
  unfold f_X12_lesser
  refine q_iload_n (x := x0) d_X12_lesser_0 rfl ?_
  refine q_iload_n (x := x1) d_X12_lesser_1 rfl ?_
  refine q_icmp_ge d_X12_lesser_2 h_x0 h_x1 (fun c1 => ?_) (fun c1 => ?_)
  · refine q_iload_n (x := x0) d_X12_lesser_5 rfl ?_
    refine q_goto d_X12_lesser_6 ?_
    exact q_ireti d_X12_lesser_10 rfl h_x0 w_s0
  · refine q_iload_n (x := x1) d_X12_lesser_9 rfl ?_
    exact q_ireti d_X12_lesser_10 rfl h_x1 w_s0
abbrev R_X12_greater : Room := { frames := 0, cells := 0, slots := 0, locals := 0 }
noncomputable def f_X12_greater (x0 : Int) (x1 : Int) (s0 : Mem) : Res :=
  if x1 < x0 then (some (x0, s0)) else (some (x1, s0))
set_option maxHeartbeats 4000000 in
set_option maxRecDepth 10000 in
theorem c_X12_greater (κ : Kp) (x0 : Int) (h_x0 : InR x0) (x1 : Int) (h_x1 : InR x1) (s0 : Mem) : ∀ r σ', f_X12_greater x0 x1 s0 = some (r, σ') → Ct κ M_X12_greater R_X12_greater [vi x0, vi x1] s0 r σ' := by
  intro r σ' ho
  refine Ct.of (by decide) (Nat.le_of_ble_eq_true rfl) (cat_ok rfl) (fun w_s0 => ?_) ⟨rfl, rfl⟩
  refine q_ent (ls' := [some (vi x0), some (vi x1)]) (o := f_X12_greater x0 x1 s0) ⟨rfl, rfl, trivial⟩ ?_ ho
  unfold f_X12_greater
  refine q_iload_n (x := x0) d_X12_greater_0 rfl ?_
  refine q_iload_n (x := x1) d_X12_greater_1 rfl ?_
  refine q_icmp_le d_X12_greater_2 h_x0 h_x1 (fun c1 => ?_) (fun c1 => ?_)
  · refine q_iload_n (x := x0) d_X12_greater_5 rfl ?_
    refine q_goto d_X12_greater_6 ?_
    exact q_ireti d_X12_greater_10 rfl h_x0 w_s0
  · refine q_iload_n (x := x1) d_X12_greater_9 rfl ?_
    exact q_ireti d_X12_greater_10 rfl h_x1 w_s0
abbrev R_X12_held : Room := { frames := 1, cells := 0, slots := 0, locals := 21 }
noncomputable def f_X12_held (x0 : Int) (x1 : Int) (x2 : Int) (s0 : Mem) : Res :=
  bd (f_X12_lesser x2 x0 s0) fun r1 s2 => bd (f_X12_greater x1 r1 s2) fun r3 s4 => some (r3, s4)
set_option maxHeartbeats 4000000 in
set_option maxRecDepth 10000 in
theorem c_X12_held (κ : Kp) (x0 : Int) (h_x0 : InR x0) (x1 : Int) (h_x1 : InR x1) (x2 : Int) (h_x2 : InR x2) (s0 : Mem) : ∀ r σ', f_X12_held x0 x1 x2 s0 = some (r, σ') → Ct κ M_X12_held R_X12_held [vi x0, vi x1, vi x2] s0 r σ' := by
  intro r σ' ho
  refine Ct.of (by decide) (Nat.le_of_ble_eq_true rfl) (cat_ok rfl) (fun w_s0 => ?_) ⟨rfl, rfl⟩
  refine q_ent (ls' := [some (vi x0), some (vi x1), some (vi x2)]) (o := f_X12_held x0 x1 x2 s0) ⟨rfl, rfl, rfl, trivial⟩ ?_ ho
  unfold f_X12_held
  refine q_iload_n (x := x1) d_X12_held_0 rfl ?_
  refine q_iload_n (x := x2) d_X12_held_1 rfl ?_
  refine q_iload_n (x := x0) d_X12_held_2 rfl ?_
  refine q_callI (R' := R_X12_lesser) (runS (As := [vi x2, vi x0]) (rest := [vi x1]) d_X12_held_3.1 cv_12_53 rfl ⟨rfl, rfl, by decide, by decide⟩ (Nat.le_of_ble_eq_true rfl) w_s0 rfl) d_X12_held_3.2 (c_X12_lesser κ x2 h_x2 x0 h_x0 s0) rfl (fun r1 s2 h_r1 w_s2 => ?_)
  refine q_callI (R' := R_X12_greater) (runS (As := [vi x1, vi r1]) (rest := []) d_X12_held_6.1 cv_12_57 rfl ⟨rfl, rfl, by decide, by decide⟩ (Nat.le_of_ble_eq_true rfl) w_s2 rfl) d_X12_held_6.2 (c_X12_greater κ x1 h_x1 r1 h_r1 s2) rfl (fun r3 s4 h_r3 w_s4 => ?_)
  exact q_ireti d_X12_held_9 rfl h_r3 w_s4
abbrev R_X12_isReach : Room := { frames := 1, cells := 0, slots := 0, locals := 22 }
noncomputable def f_X12_isReach (x0 : Int) (s0 : Mem) : Res :=
  bd (f_X12_isIn x0 0 15 s0) fun r1 s2 => some (r1, s2)
set_option maxHeartbeats 4000000 in
set_option maxRecDepth 10000 in
theorem c_X12_isReach (κ : Kp) (x0 : Int) (h_x0 : InR x0) (s0 : Mem) : ∀ r σ', f_X12_isReach x0 s0 = some (r, σ') → Ct κ M_X12_isReach R_X12_isReach [vi x0] s0 r σ' := by
  intro r σ' ho
  refine Ct.of (by decide) (Nat.le_of_ble_eq_true rfl) (cat_ok rfl) (fun w_s0 => ?_) ⟨rfl, rfl⟩
  refine q_ent (ls' := [some (vi x0)]) (o := f_X12_isReach x0 s0) ⟨rfl, trivial⟩ ?_ ho
  unfold f_X12_isReach
  refine q_iload_n (x := x0) d_X12_isReach_0 rfl ?_
  refine q_iconst d_X12_isReach_1 ?_
  refine q_bipush d_X12_isReach_2 rfl ?_
  refine q_callZ (R' := R_X12_isIn) (runS (As := [vi x0, vi 0, vi 15]) (rest := []) d_X12_isReach_4.1 cv_12_60 rfl ⟨rfl, rfl, by decide, by decide⟩ (Nat.le_of_ble_eq_true rfl) w_s0 rfl) d_X12_isReach_4.2 (c_X12_isIn κ x0 h_x0 0 (inr_b (Or.inl rfl)) 15 (inr_d rfl) s0) rfl (fun r1 s2 h_r1 w_s2 => ?_)
  exact q_iretz d_X12_isReach_7 rfl h_r1 w_s2
abbrev R_X12_isBoat : Room := { frames := 1, cells := 0, slots := 0, locals := 22 }
noncomputable def f_X12_isBoat (a : Nat) (x1 : Int) (s0 : Mem) : Res :=
  gd ((0 : Int) ≤ 58 ∧ (58 : Int) < 1732) (bd (f_X12_isIn x1 0 (wr ((s0 (a + 1) 58) - 1)) s0) fun r2 s3 => some (r2, s3))
set_option maxHeartbeats 4000000 in
set_option maxRecDepth 10000 in
theorem c_X12_isBoat (κ : Kp) (a : Nat) (hA : At12 κ a) (x1 : Int) (h_x1 : InR x1) (s0 : Mem) : ∀ r σ', f_X12_isBoat a x1 s0 = some (r, σ') → Ct κ M_X12_isBoat R_X12_isBoat [vr κ a, vi x1] s0 r σ' := by
  intro r σ' ho
  refine Ct.of (by decide) (Nat.le_of_ble_eq_true rfl) (cat_ok rfl) (fun w_s0 => ?_) ⟨rfl, rfl⟩
  refine q_ent (ls' := [some (vr κ a), some (vi x1)]) (o := f_X12_isBoat a x1 s0) ⟨rfl, rfl, trivial⟩ ?_ ho
  unfold f_X12_isBoat
  refine q_iload_n (x := x1) d_X12_isBoat_0 rfl ?_
  refine q_iconst d_X12_isBoat_1 ?_
  refine q_aload_n d_X12_isBoat_2 rfl ?_
  refine q_getR (n := 1) d_X12_isBoat_3 hA.1 fi_12_7 rfl (Nat.le_of_ble_eq_true rfl) ?_
  refine q_bipush d_X12_isBoat_6 rfl ?_
  refine q_iaload (m := 1732) d_X12_isBoat_8 hA.2.1 (by decide) rfl (fun g1 => ?_)
  refine q_iconst d_X12_isBoat_9 ?_
  refine q_isub d_X12_isBoat_10 ?_
  refine q_callZ (R' := R_X12_isIn) (runS (As := [vi x1, vi 0, vi (wr ((s0 (a + 1) 58) - 1))]) (rest := []) d_X12_isBoat_11.1 cv_12_60 rfl ⟨rfl, rfl, by decide, by decide⟩ (Nat.le_of_ble_eq_true rfl) w_s0 rfl) d_X12_isBoat_11.2 (c_X12_isIn κ x1 h_x1 0 (inr_b (Or.inl rfl)) (wr ((s0 (a + 1) 58) - 1)) (inr_wr _) s0) rfl (fun r2 s3 h_r2 w_s3 => ?_)
  exact q_iretz d_X12_isBoat_14 rfl h_r2 w_s3
abbrev R_X12_isAfloat : Room := { frames := 2, cells := 0, slots := 0, locals := 43 }
noncomputable def f_X12_isAfloat (a : Nat) (x1 : Int) (s0 : Mem) : Res :=
  bd (f_X12_isBoat a x1 s0) fun r1 s2 => if r1 = 0 then (some (0, s2)) else (gd ((0 : Int) ≤ wr (47 + x1) ∧ wr (47 + x1) < 1732) (if s2 (a + 1) (wr (47 + x1)) = 0 then (some (1, s2)) else (some (0, s2))))
set_option maxHeartbeats 4000000 in
set_option maxRecDepth 10000 in
theorem c_X12_isAfloat (κ : Kp) (a : Nat) (hA : At12 κ a) (x1 : Int) (h_x1 : InR x1) (s0 : Mem) : ∀ r σ', f_X12_isAfloat a x1 s0 = some (r, σ') → Ct κ M_X12_isAfloat R_X12_isAfloat [vr κ a, vi x1] s0 r σ' := by
  intro r σ' ho
  refine Ct.of (by decide) (Nat.le_of_ble_eq_true rfl) (cat_ok rfl) (fun w_s0 => ?_) ⟨rfl, rfl⟩
  refine q_ent (ls' := [some (vr κ a), some (vi x1)]) (o := f_X12_isAfloat a x1 s0) ⟨rfl, rfl, trivial⟩ ?_ ho
  unfold f_X12_isAfloat
  refine q_aload_n d_X12_isAfloat_0 rfl ?_
  refine q_iload_n (x := x1) d_X12_isAfloat_1 rfl ?_
  refine q_callZ (R' := R_X12_isBoat) (runV (As := [vi x1]) (rest := []) d_X12_isAfloat_2.1 cv_12_64 rfl hA.1 rfl rfl ⟨rfl, rfl, by decide, by decide⟩ (Nat.le_of_ble_eq_true rfl) w_s0 rfl) d_X12_isAfloat_2.2 (c_X12_isBoat κ a hA x1 h_x1 s0) rfl (fun r1 s2 h_r1 w_s2 => ?_)
  refine q_if_eq d_X12_isAfloat_5 (inr_b h_r1) (fun c3 => ?_) (fun c3 => ?_)
  · refine q_iconst d_X12_isAfloat_24 ?_
    exact q_iretz d_X12_isAfloat_25 rfl (Or.inl rfl) w_s2
  · refine q_aload_n d_X12_isAfloat_8 rfl ?_
    refine q_getR (n := 1) d_X12_isAfloat_9 hA.1 fi_12_7 rfl (Nat.le_of_ble_eq_true rfl) ?_
    refine q_bipush d_X12_isAfloat_12 rfl ?_
    refine q_iload_n (x := x1) d_X12_isAfloat_14 rfl ?_
    refine q_iadd d_X12_isAfloat_15 ?_
    refine q_iaload (m := 1732) d_X12_isAfloat_16 hA.2.1 (by decide) rfl (fun g4 => ?_)
    refine q_if_ne d_X12_isAfloat_17 (w_s2 _ _) (fun c5 => ?_) (fun c5 => ?_)
    · refine q_iconst d_X12_isAfloat_20 ?_
      refine q_goto d_X12_isAfloat_21 ?_
      exact q_iretz d_X12_isAfloat_25 rfl (Or.inr rfl) w_s2
    · refine q_iconst d_X12_isAfloat_24 ?_
      exact q_iretz d_X12_isAfloat_25 rfl (Or.inl rfl) w_s2
abbrev R_X12_stuckIn : Room := { frames := 0, cells := 0, slots := 0, locals := 0 }
noncomputable def f_X12_stuckIn (a : Nat) (x1 : Int) (s0 : Mem) : Res :=
  gd ((0 : Int) ≤ wr (17 + x1) ∧ wr (17 + x1) < 1732) (gd ((0 : Int) ≤ wr (27 + x1) ∧ wr (27 + x1) < 1732) (some (wr ((s0 (a + 1) (wr (17 + x1))) + (s0 (a + 1) (wr (27 + x1)))), s0)))
set_option maxHeartbeats 4000000 in
set_option maxRecDepth 10000 in
theorem c_X12_stuckIn (κ : Kp) (a : Nat) (hA : At12 κ a) (x1 : Int) (h_x1 : InR x1) (s0 : Mem) : ∀ r σ', f_X12_stuckIn a x1 s0 = some (r, σ') → Ct κ M_X12_stuckIn R_X12_stuckIn [vr κ a, vi x1] s0 r σ' := by
  intro r σ' ho
  refine Ct.of (by decide) (Nat.le_of_ble_eq_true rfl) (cat_ok rfl) (fun w_s0 => ?_) ⟨rfl, rfl⟩
  refine q_ent (ls' := [some (vr κ a), some (vi x1)]) (o := f_X12_stuckIn a x1 s0) ⟨rfl, rfl, trivial⟩ ?_ ho
  unfold f_X12_stuckIn
  refine q_aload_n d_X12_stuckIn_0 rfl ?_
  refine q_getR (n := 1) d_X12_stuckIn_1 hA.1 fi_12_7 rfl (Nat.le_of_ble_eq_true rfl) ?_
  refine q_bipush d_X12_stuckIn_4 rfl ?_
  refine q_iload_n (x := x1) d_X12_stuckIn_6 rfl ?_
  refine q_iadd d_X12_stuckIn_7 ?_
  refine q_iaload (m := 1732) d_X12_stuckIn_8 hA.2.1 (by decide) rfl (fun g1 => ?_)
  refine q_aload_n d_X12_stuckIn_9 rfl ?_
  refine q_getR (n := 1) d_X12_stuckIn_10 hA.1 fi_12_7 rfl (Nat.le_of_ble_eq_true rfl) ?_
  refine q_bipush d_X12_stuckIn_13 rfl ?_
  refine q_iload_n (x := x1) d_X12_stuckIn_15 rfl ?_
  refine q_iadd d_X12_stuckIn_16 ?_
  refine q_iaload (m := 1732) d_X12_stuckIn_17 hA.2.1 (by decide) rfl (fun g2 => ?_)
  refine q_iadd d_X12_stuckIn_18 ?_
  exact q_ireti d_X12_stuckIn_19 rfl (inr_wr _) w_s0
abbrev R_X12_leanOf : Room := { frames := 1, cells := 0, slots := 0, locals := 21 }
noncomputable def f_X12_leanOf (a : Nat) (x1 : Int) (s0 : Mem) : Res :=
  gd ((0 : Int) ≤ wr (17 + x1) ∧ wr (17 + x1) < 1732) (gd ((0 : Int) ≤ wr (27 + x1) ∧ wr (27 + x1) < 1732) (gd ((0 : Int) ≤ wr (27 + x1) ∧ wr (27 + x1) < 1732) (gd ((0 : Int) ≤ wr (17 + x1) ∧ wr (17 + x1) < 1732) (bd (f_X12_greater (wr ((s0 (a + 1) (wr (17 + x1))) - (s0 (a + 1) (wr (27 + x1))))) (wr ((s0 (a + 1) (wr (27 + x1))) - (s0 (a + 1) (wr (17 + x1))))) s0) fun r5 s6 => some (r5, s6)))))
set_option maxHeartbeats 4000000 in
set_option maxRecDepth 10000 in
theorem c_X12_leanOf (κ : Kp) (a : Nat) (hA : At12 κ a) (x1 : Int) (h_x1 : InR x1) (s0 : Mem) : ∀ r σ', f_X12_leanOf a x1 s0 = some (r, σ') → Ct κ M_X12_leanOf R_X12_leanOf [vr κ a, vi x1] s0 r σ' := by
  intro r σ' ho
  refine Ct.of (by decide) (Nat.le_of_ble_eq_true rfl) (cat_ok rfl) (fun w_s0 => ?_) ⟨rfl, rfl⟩
  refine q_ent (ls' := [some (vr κ a), some (vi x1)]) (o := f_X12_leanOf a x1 s0) ⟨rfl, rfl, trivial⟩ ?_ ho
  unfold f_X12_leanOf
  refine q_aload_n d_X12_leanOf_0 rfl ?_
  refine q_getR (n := 1) d_X12_leanOf_1 hA.1 fi_12_7 rfl (Nat.le_of_ble_eq_true rfl) ?_
  refine q_bipush d_X12_leanOf_4 rfl ?_
  refine q_iload_n (x := x1) d_X12_leanOf_6 rfl ?_
  refine q_iadd d_X12_leanOf_7 ?_
  refine q_iaload (m := 1732) d_X12_leanOf_8 hA.2.1 (by decide) rfl (fun g1 => ?_)
  refine q_aload_n d_X12_leanOf_9 rfl ?_
  refine q_getR (n := 1) d_X12_leanOf_10 hA.1 fi_12_7 rfl (Nat.le_of_ble_eq_true rfl) ?_
  refine q_bipush d_X12_leanOf_13 rfl ?_
  refine q_iload_n (x := x1) d_X12_leanOf_15 rfl ?_
  refine q_iadd d_X12_leanOf_16 ?_
  refine q_iaload (m := 1732) d_X12_leanOf_17 hA.2.1 (by decide) rfl (fun g2 => ?_)
  refine q_isub d_X12_leanOf_18 ?_
  refine q_aload_n d_X12_leanOf_19 rfl ?_
  refine q_getR (n := 1) d_X12_leanOf_20 hA.1 fi_12_7 rfl (Nat.le_of_ble_eq_true rfl) ?_
  refine q_bipush d_X12_leanOf_23 rfl ?_
  refine q_iload_n (x := x1) d_X12_leanOf_25 rfl ?_
  refine q_iadd d_X12_leanOf_26 ?_
  refine q_iaload (m := 1732) d_X12_leanOf_27 hA.2.1 (by decide) rfl (fun g3 => ?_)
  refine q_aload_n d_X12_leanOf_28 rfl ?_
  refine q_getR (n := 1) d_X12_leanOf_29 hA.1 fi_12_7 rfl (Nat.le_of_ble_eq_true rfl) ?_
  refine q_bipush d_X12_leanOf_32 rfl ?_
  refine q_iload_n (x := x1) d_X12_leanOf_34 rfl ?_
  refine q_iadd d_X12_leanOf_35 ?_
  refine q_iaload (m := 1732) d_X12_leanOf_36 hA.2.1 (by decide) rfl (fun g4 => ?_)
  refine q_isub d_X12_leanOf_37 ?_
  refine q_callI (R' := R_X12_greater) (runS (As := [vi (wr ((s0 (a + 1) (wr (17 + x1))) - (s0 (a + 1) (wr (27 + x1))))), vi (wr ((s0 (a + 1) (wr (27 + x1))) - (s0 (a + 1) (wr (17 + x1)))))]) (rest := []) d_X12_leanOf_38.1 cv_12_57 rfl ⟨rfl, rfl, by decide, by decide⟩ (Nat.le_of_ble_eq_true rfl) w_s0 rfl) d_X12_leanOf_38.2 (c_X12_greater κ (wr ((s0 (a + 1) (wr (17 + x1))) - (s0 (a + 1) (wr (27 + x1))))) (inr_wr _) (wr ((s0 (a + 1) (wr (27 + x1))) - (s0 (a + 1) (wr (17 + x1))))) (inr_wr _) s0) rfl (fun r5 s6 h_r5 w_s6 => ?_)
  exact q_ireti d_X12_leanOf_41 rfl h_r5 w_s6
abbrev R_X12_count0 : Room := { frames := 0, cells := 0, slots := 0, locals := 0 }
noncomputable def f_X12_count0_4 (p0 : Int) (k24 : Int → Res) (s0 : Mem) : Nat → Int → Int → Res
  | 0, _, _ => none
  | n + 1, x1, x2 =>
    if x2 < 16 then (f_X12_count0_4 p0 k24 s0 n (wr (x1 + (iand (ishr p0 x2) 1))) (wr (x2 + 1))) else (k24 x1)
noncomputable def f_X12_count0 (x0 : Int) (s0 : Mem) : Res :=
  jn (fun (v1 : Int) => some (v1, s0)) fun j24 => f_X12_count0_4 x0 j24 s0 FU 0 0
set_option maxHeartbeats 4000000 in
set_option maxRecDepth 10000 in
theorem l_X12_count0_4 (κ : Kp) (p0 : Int) (h_p0 : InR p0) (k24 : Int → Res) (s0 : Mem) (w_s0 : WF s0) (hk24 : ∀ (z1 : Int) (h_z1 : InR z1), EO κ M_X12_count0 R_X12_count0 24 [none, some (vi z1), none] [] s0 (k24 z1)) : ∀ (n : Nat) (x1 : Int) (h_x1 : InR x1) (x2 : Int) (h_x2 : InR x2), EO κ M_X12_count0 R_X12_count0 4 [some (vi p0), some (vi x1), some (vi x2)] [] s0 (f_X12_count0_4 p0 k24 s0 n x1 x2) := by
  intro n
  induction n with
  | zero => exact fun _ _ _ _ => q_none
  | succ n ih =>
    intro x1 h_x1 x2 h_x2
    rw [f_X12_count0_4]
    refine q_iload_n (x := x2) d_X12_count0_4 rfl ?_
    refine q_bipush d_X12_count0_5 rfl ?_
    refine q_icmp_ge d_X12_count0_7 h_x2 (inr_d rfl) (fun c2 => ?_) (fun c2 => ?_)
    · refine q_iload_n (x := x1) d_X12_count0_10 rfl ?_
      refine q_iload_n (x := p0) d_X12_count0_11 rfl ?_
      refine q_iload_n (x := x2) d_X12_count0_12 rfl ?_
      refine q_ishr d_X12_count0_13 ?_
      refine q_iconst d_X12_count0_14 ?_
      refine q_iand d_X12_count0_15 ?_
      refine q_iadd d_X12_count0_16 ?_
      refine q_istore_n d_X12_count0_17 rfl ?_
      refine q_iinc (x := x2) d_X12_count0_18 rfl rfl ?_
      refine q_goto d_X12_count0_21 ?_
      refine q_sub (ls' := [some (vi p0), some (vi (wr (x1 + (iand (ishr p0 x2) 1)))), some (vi (wr (x2 + 1)))]) ⟨rfl, rfl, rfl, trivial⟩ ?_
      exact ih (wr (x1 + (iand (ishr p0 x2) 1))) (inr_wr _) (wr (x2 + 1)) (inr_wr _)
    · refine q_sub (ls' := [none, some (vi x1), none]) ⟨rfl, trivial⟩ ?_
      exact hk24 x1 h_x1
set_option maxHeartbeats 4000000 in
set_option maxRecDepth 10000 in
theorem c_X12_count0 (κ : Kp) (x0 : Int) (h_x0 : InR x0) (s0 : Mem) : ∀ r σ', f_X12_count0 x0 s0 = some (r, σ') → Ct κ M_X12_count0 R_X12_count0 [vi x0] s0 r σ' := by
  intro r σ' ho
  refine Ct.of (by decide) (Nat.le_of_ble_eq_true rfl) (cat_ok rfl) (fun w_s0 => ?_) ⟨rfl, rfl⟩
  refine q_ent (ls' := [some (vi x0), none, none]) (o := f_X12_count0 x0 s0) ⟨rfl, trivial⟩ ?_ ho
  unfold f_X12_count0
  refine q_iconst d_X12_count0_0 ?_
  refine q_istore_n d_X12_count0_1 rfl ?_
  refine q_iconst d_X12_count0_2 ?_
  refine q_istore_n d_X12_count0_3 rfl ?_
  refine q_jn (α := Int → Res) (fun j24 => ∀ (v1 : Int) (h_v1 : InR v1), EO κ M_X12_count0 R_X12_count0 24 [none, some (vi v1), none] [] s0 (j24 v1)) ?_ (fun j24 hj24 => ?_)
  · intro v1 h_v1
    refine q_iload_n (x := v1) d_X12_count0_24 rfl ?_
    exact q_ireti d_X12_count0_25 rfl h_v1 w_s0
  refine q_sub (ls' := [some (vi x0), some (vi 0), some (vi 0)]) ⟨rfl, rfl, rfl, trivial⟩ ?_
  exact l_X12_count0_4 κ x0 h_x0 j24 s0 w_s0 hj24 FU 0 (inr_b (Or.inl rfl)) 0 (inr_b (Or.inl rfl))
abbrev R_X12_forgets : Room := { frames := 0, cells := 0, slots := 0, locals := 0 }
noncomputable def f_X12_forgets (a : Nat) (s0 : Mem) : Res :=
  lm (mup s0 a 4 0) fun s1 => some (0, s1)
set_option maxHeartbeats 4000000 in
set_option maxRecDepth 10000 in
theorem c_X12_forgets (κ : Kp) (a : Nat) (hA : At12 κ a) (s0 : Mem) : ∀ r σ', f_X12_forgets a s0 = some (r, σ') → Ct κ M_X12_forgets R_X12_forgets [vr κ a] s0 r σ' := by
  intro r σ' ho
  refine Ct.of (by decide) (Nat.le_of_ble_eq_true rfl) (cat_ok rfl) (fun w_s0 => ?_) ⟨rfl, rfl⟩
  refine q_ent (ls' := [some (vr κ a)]) (o := f_X12_forgets a s0) ⟨rfl, trivial⟩ ?_ ho
  unfold f_X12_forgets
  refine q_aload_n d_X12_forgets_0 rfl ?_
  refine q_iconst d_X12_forgets_1 ?_
  refine q_putI (k := 4) (j := 4) d_X12_forgets_2 hA.1 fp_12_68 rfl rfl (inr_b (Or.inl rfl)) w_s0 (fun s1 w_s1 => ?_)
  exact q_vret d_X12_forgets_5 rfl w_s1
abbrev R_X12_state : Room := { frames := 1, cells := 0, slots := 0, locals := 20 }
noncomputable def f_X12_state (a : Nat) (x1 : Int) (s0 : Mem) : Res :=
  gd ((0 : Int) ≤ 5 ∧ (5 : Int) < 1732) (gd ((0 : Int) ≤ 5 ∧ (5 : Int) < 1732) (lm (mup s0 (a + 1) 5 x1) fun s3 => bd (f_X12_forgets a s3) fun r4 s5 => some (s0 (a + 1) 5, s5)))
set_option maxHeartbeats 4000000 in
set_option maxRecDepth 10000 in
theorem c_X12_state (κ : Kp) (a : Nat) (hA : At12 κ a) (x1 : Int) (h_x1 : InR x1) (s0 : Mem) : ∀ r σ', f_X12_state a x1 s0 = some (r, σ') → Ct κ M_X12_state R_X12_state [vr κ a, vi x1] s0 r σ' := by
  intro r σ' ho
  refine Ct.of (by decide) (Nat.le_of_ble_eq_true rfl) (cat_ok rfl) (fun w_s0 => ?_) ⟨rfl, rfl⟩
  refine q_ent (ls' := [some (vr κ a), some (vi x1), none]) (o := f_X12_state a x1 s0) ⟨rfl, rfl, trivial⟩ ?_ ho
  unfold f_X12_state
  refine q_aload_n d_X12_state_0 rfl ?_
  refine q_getR (n := 1) d_X12_state_1 hA.1 fi_12_7 rfl (Nat.le_of_ble_eq_true rfl) ?_
  refine q_iconst d_X12_state_4 ?_
  refine q_iaload (m := 1732) d_X12_state_5 hA.2.1 (by decide) rfl (fun g1 => ?_)
  refine q_istore_n d_X12_state_6 rfl ?_
  refine q_aload_n d_X12_state_7 rfl ?_
  refine q_getR (n := 1) d_X12_state_8 hA.1 fi_12_7 rfl (Nat.le_of_ble_eq_true rfl) ?_
  refine q_iconst d_X12_state_11 ?_
  refine q_iload_n (x := x1) d_X12_state_12 rfl ?_
  refine q_iastore (m := 1732) d_X12_state_13 hA.2.1 (by decide) rfl h_x1 w_s0 (fun g2 s3 w_s3 => ?_)
  refine q_aload_n d_X12_state_14 rfl ?_
  refine q_callV (R' := R_X12_forgets) (runV (As := []) (rest := []) d_X12_state_15.1 cv_12_71 rfl hA.1 rfl rfl ⟨rfl, rfl, by decide, by decide⟩ (Nat.le_of_ble_eq_true rfl) w_s3 rfl) d_X12_state_15.2 (c_X12_forgets κ a hA s3) rfl (fun r4 s5 w_s5 => ?_)
  refine q_iload_n (x := s0 (a + 1) 5) d_X12_state_18 rfl ?_
  exact q_ireti d_X12_state_19 rfl (w_s0 _ _) w_s5
abbrev R_X12_draw : Room := { frames := 0, cells := 0, slots := 0, locals := 0 }
noncomputable def f_X12_draw (a : Nat) (x1 : Int) (s0 : Mem) : Res :=
  gd ((0 : Int) ≤ 5 ∧ (5 : Int) < 1732) (gd ((0 : Int) ≤ 5 ∧ (5 : Int) < 1732) (lm (mup s0 (a + 1) 5 (wr ((wr (1664525 * (s0 (a + 1) 5))) + 1013904223))) fun s3 => gd ((0 : Int) ≤ 5 ∧ (5 : Int) < 1732) (gd (x1 ≠ 0) (some (Int.tmod (iushr (s3 (a + 1) 5) 8) x1, s3)))))
set_option maxHeartbeats 4000000 in
set_option maxRecDepth 10000 in
theorem c_X12_draw (κ : Kp) (a : Nat) (hA : At12 κ a) (x1 : Int) (h_x1 : InR x1) (s0 : Mem) : ∀ r σ', f_X12_draw a x1 s0 = some (r, σ') → Ct κ M_X12_draw R_X12_draw [vr κ a, vi x1] s0 r σ' := by
  intro r σ' ho
  refine Ct.of (by decide) (Nat.le_of_ble_eq_true rfl) (cat_ok rfl) (fun w_s0 => ?_) ⟨rfl, rfl⟩
  refine q_ent (ls' := [some (vr κ a), some (vi x1)]) (o := f_X12_draw a x1 s0) ⟨rfl, rfl, trivial⟩ ?_ ho
  unfold f_X12_draw
  refine q_aload_n d_X12_draw_0 rfl ?_
  refine q_getR (n := 1) d_X12_draw_1 hA.1 fi_12_7 rfl (Nat.le_of_ble_eq_true rfl) ?_
  refine q_iconst d_X12_draw_4 ?_
  refine q_ldc (n := 1664525) d_X12_draw_5 ck_12_74 rfl ?_
  refine q_aload_n d_X12_draw_7 rfl ?_
  refine q_getR (n := 1) d_X12_draw_8 hA.1 fi_12_7 rfl (Nat.le_of_ble_eq_true rfl) ?_
  refine q_iconst d_X12_draw_11 ?_
  refine q_iaload (m := 1732) d_X12_draw_12 hA.2.1 (by decide) rfl (fun g1 => ?_)
  refine q_imul d_X12_draw_13 ?_
  refine q_ldc (n := 1013904223) d_X12_draw_14 ck_12_75 rfl ?_
  refine q_iadd d_X12_draw_16 ?_
  refine q_iastore (m := 1732) d_X12_draw_17 hA.2.1 (by decide) rfl (inr_wr _) w_s0 (fun g2 s3 w_s3 => ?_)
  refine q_aload_n d_X12_draw_18 rfl ?_
  refine q_getR (n := 1) d_X12_draw_19 hA.1 fi_12_7 rfl (Nat.le_of_ble_eq_true rfl) ?_
  refine q_iconst d_X12_draw_22 ?_
  refine q_iaload (m := 1732) d_X12_draw_23 hA.2.1 (by decide) rfl (fun g4 => ?_)
  refine q_bipush d_X12_draw_24 rfl ?_
  refine q_iushr d_X12_draw_26 ?_
  refine q_iload_n (x := x1) d_X12_draw_27 rfl ?_
  refine q_irem d_X12_draw_28 (inr_i32 _) h_x1 (fun g5 => ?_)
  exact q_ireti d_X12_draw_29 rfl (inr_tmod (inr_i32 _) h_x1) w_s3
abbrev R_X12_boat : Room := { frames := 2, cells := 0, slots := 0, locals := 42 }
noncomputable def f_X12_boat (a : Nat) (x1 : Int) (x2 : Int) (x3 : Int) (s0 : Mem) : Res :=
  bd (f_X12_isIn x1 1 40 s0) fun r1 s2 => if r1 = 0 then (some ((-1), s2)) else (bd (f_X12_isIn x2 0 2 s2) fun r4 s5 => if r4 = 0 then (some ((-1), s5)) else (bd (f_X12_isReach x3 s5) fun r7 s8 => if r7 = 0 then (some ((-1), s8)) else (gd ((0 : Int) ≤ 58 ∧ (58 : Int) < 1732) (if s8 (a + 1) 58 = 10 then (some ((-1), s8)) else (gd ((0 : Int) ≤ 58 ∧ (58 : Int) < 1732) (gd ((0 : Int) ≤ wr (65 + (s8 (a + 1) 58)) ∧ wr (65 + (s8 (a + 1) 58)) < 1732) (lm (mup s8 (a + 1) (wr (65 + (s8 (a + 1) 58))) x1) fun s14 => gd ((0 : Int) ≤ wr (75 + (s8 (a + 1) 58)) ∧ wr (75 + (s8 (a + 1) 58)) < 1732) (lm (mup s14 (a + 1) (wr (75 + (s8 (a + 1) 58))) x2) fun s16 => gd ((0 : Int) ≤ wr (7 + (s8 (a + 1) 58)) ∧ wr (7 + (s8 (a + 1) 58)) < 1732) (lm (mup s16 (a + 1) (wr (7 + (s8 (a + 1) 58))) x3) fun s18 => gd ((0 : Int) ≤ wr (17 + (s8 (a + 1) 58)) ∧ wr (17 + (s8 (a + 1) 58)) < 1732) (lm (mup s18 (a + 1) (wr (17 + (s8 (a + 1) 58))) 0) fun s20 => gd ((0 : Int) ≤ wr (27 + (s8 (a + 1) 58)) ∧ wr (27 + (s8 (a + 1) 58)) < 1732) (lm (mup s20 (a + 1) (wr (27 + (s8 (a + 1) 58))) 0) fun s22 => gd ((0 : Int) ≤ wr (37 + (s8 (a + 1) 58)) ∧ wr (37 + (s8 (a + 1) 58)) < 1732) (lm (mup s22 (a + 1) (wr (37 + (s8 (a + 1) 58))) 0) fun s24 => gd ((0 : Int) ≤ wr (47 + (s8 (a + 1) 58)) ∧ wr (47 + (s8 (a + 1) 58)) < 1732) (lm (mup s24 (a + 1) (wr (47 + (s8 (a + 1) 58))) 0) fun s26 => gd ((0 : Int) ≤ 58 ∧ (58 : Int) < 1732) (gd ((0 : Int) ≤ 58 ∧ (58 : Int) < 1732) (lm (mup s26 (a + 1) 58 (wr ((s26 (a + 1) 58) + 1))) fun s29 => bd (f_X12_forgets a s29) fun r30 s31 => some (s8 (a + 1) 58, s31))))))))))))))))
set_option maxHeartbeats 4000000 in
set_option maxRecDepth 10000 in
theorem c_X12_boat (κ : Kp) (a : Nat) (hA : At12 κ a) (x1 : Int) (h_x1 : InR x1) (x2 : Int) (h_x2 : InR x2) (x3 : Int) (h_x3 : InR x3) (s0 : Mem) : ∀ r σ', f_X12_boat a x1 x2 x3 s0 = some (r, σ') → Ct κ M_X12_boat R_X12_boat [vr κ a, vi x1, vi x2, vi x3] s0 r σ' := by
  intro r σ' ho
  refine Ct.of (by decide) (Nat.le_of_ble_eq_true rfl) (cat_ok rfl) (fun w_s0 => ?_) ⟨rfl, rfl⟩
  refine q_ent (ls' := [some (vr κ a), some (vi x1), some (vi x2), some (vi x3), none]) (o := f_X12_boat a x1 x2 x3 s0) ⟨rfl, rfl, rfl, rfl, trivial⟩ ?_ ho
  unfold f_X12_boat
  refine q_iload_n (x := x1) d_X12_boat_0 rfl ?_
  refine q_iconst d_X12_boat_1 ?_
  refine q_bipush d_X12_boat_2 rfl ?_
  refine q_callZ (R' := R_X12_isIn) (runS (As := [vi x1, vi 1, vi 40]) (rest := []) d_X12_boat_4.1 cv_12_60 rfl ⟨rfl, rfl, by decide, by decide⟩ (Nat.le_of_ble_eq_true rfl) w_s0 rfl) d_X12_boat_4.2 (c_X12_isIn κ x1 h_x1 1 (inr_b (Or.inr rfl)) 40 (inr_d rfl) s0) rfl (fun r1 s2 h_r1 w_s2 => ?_)
  refine q_if_eq d_X12_boat_7 (inr_b h_r1) (fun c3 => ?_) (fun c3 => ?_)
  · refine q_iconst d_X12_boat_38 ?_
    exact q_ireti d_X12_boat_39 rfl (inr_d rfl) w_s2
  · refine q_iload_n (x := x2) d_X12_boat_10 rfl ?_
    refine q_iconst d_X12_boat_11 ?_
    refine q_iconst d_X12_boat_12 ?_
    refine q_callZ (R' := R_X12_isIn) (runS (As := [vi x2, vi 0, vi 2]) (rest := []) d_X12_boat_13.1 cv_12_60 rfl ⟨rfl, rfl, by decide, by decide⟩ (Nat.le_of_ble_eq_true rfl) w_s2 rfl) d_X12_boat_13.2 (c_X12_isIn κ x2 h_x2 0 (inr_b (Or.inl rfl)) 2 (inr_d rfl) s2) rfl (fun r4 s5 h_r4 w_s5 => ?_)
    refine q_if_eq d_X12_boat_16 (inr_b h_r4) (fun c6 => ?_) (fun c6 => ?_)
    · refine q_iconst d_X12_boat_38 ?_
      exact q_ireti d_X12_boat_39 rfl (inr_d rfl) w_s5
    · refine q_iload_n (x := x3) d_X12_boat_19 rfl ?_
      refine q_callZ (R' := R_X12_isReach) (runS (As := [vi x3]) (rest := []) d_X12_boat_20.1 cv_12_76 rfl ⟨rfl, rfl, by decide, by decide⟩ (Nat.le_of_ble_eq_true rfl) w_s5 rfl) d_X12_boat_20.2 (c_X12_isReach κ x3 h_x3 s5) rfl (fun r7 s8 h_r7 w_s8 => ?_)
      refine q_if_eq d_X12_boat_23 (inr_b h_r7) (fun c9 => ?_) (fun c9 => ?_)
      · refine q_iconst d_X12_boat_38 ?_
        exact q_ireti d_X12_boat_39 rfl (inr_d rfl) w_s8
      · refine q_aload_n d_X12_boat_26 rfl ?_
        refine q_getR (n := 1) d_X12_boat_27 hA.1 fi_12_7 rfl (Nat.le_of_ble_eq_true rfl) ?_
        refine q_bipush d_X12_boat_30 rfl ?_
        refine q_iaload (m := 1732) d_X12_boat_32 hA.2.1 (by decide) rfl (fun g10 => ?_)
        refine q_bipush d_X12_boat_33 rfl ?_
        refine q_icmp_ne d_X12_boat_35 (w_s8 _ _) (inr_d rfl) (fun c11 => ?_) (fun c11 => ?_)
        · refine q_iconst d_X12_boat_38 ?_
          exact q_ireti d_X12_boat_39 rfl (inr_d rfl) w_s8
        · refine q_aload_n d_X12_boat_40 rfl ?_
          refine q_getR (n := 1) d_X12_boat_41 hA.1 fi_12_7 rfl (Nat.le_of_ble_eq_true rfl) ?_
          refine q_bipush d_X12_boat_44 rfl ?_
          refine q_iaload (m := 1732) d_X12_boat_46 hA.2.1 (by decide) rfl (fun g12 => ?_)
          refine q_istore d_X12_boat_47 rfl ?_
          refine q_aload_n d_X12_boat_49 rfl ?_
          refine q_getR (n := 1) d_X12_boat_50 hA.1 fi_12_7 rfl (Nat.le_of_ble_eq_true rfl) ?_
          refine q_bipush d_X12_boat_53 rfl ?_
          refine q_iload (x := s8 (a + 1) 58) d_X12_boat_55 rfl ?_
          refine q_iadd d_X12_boat_57 ?_
          refine q_iload_n (x := x1) d_X12_boat_58 rfl ?_
          refine q_iastore (m := 1732) d_X12_boat_59 hA.2.1 (by decide) rfl h_x1 w_s8 (fun g13 s14 w_s14 => ?_)
          refine q_aload_n d_X12_boat_60 rfl ?_
          refine q_getR (n := 1) d_X12_boat_61 hA.1 fi_12_7 rfl (Nat.le_of_ble_eq_true rfl) ?_
          refine q_bipush d_X12_boat_64 rfl ?_
          refine q_iload (x := s8 (a + 1) 58) d_X12_boat_66 rfl ?_
          refine q_iadd d_X12_boat_68 ?_
          refine q_iload_n (x := x2) d_X12_boat_69 rfl ?_
          refine q_iastore (m := 1732) d_X12_boat_70 hA.2.1 (by decide) rfl h_x2 w_s14 (fun g15 s16 w_s16 => ?_)
          refine q_aload_n d_X12_boat_71 rfl ?_
          refine q_getR (n := 1) d_X12_boat_72 hA.1 fi_12_7 rfl (Nat.le_of_ble_eq_true rfl) ?_
          refine q_bipush d_X12_boat_75 rfl ?_
          refine q_iload (x := s8 (a + 1) 58) d_X12_boat_77 rfl ?_
          refine q_iadd d_X12_boat_79 ?_
          refine q_iload_n (x := x3) d_X12_boat_80 rfl ?_
          refine q_iastore (m := 1732) d_X12_boat_81 hA.2.1 (by decide) rfl h_x3 w_s16 (fun g17 s18 w_s18 => ?_)
          refine q_aload_n d_X12_boat_82 rfl ?_
          refine q_getR (n := 1) d_X12_boat_83 hA.1 fi_12_7 rfl (Nat.le_of_ble_eq_true rfl) ?_
          refine q_bipush d_X12_boat_86 rfl ?_
          refine q_iload (x := s8 (a + 1) 58) d_X12_boat_88 rfl ?_
          refine q_iadd d_X12_boat_90 ?_
          refine q_iconst d_X12_boat_91 ?_
          refine q_iastore (m := 1732) d_X12_boat_92 hA.2.1 (by decide) rfl (inr_b (Or.inl rfl)) w_s18 (fun g19 s20 w_s20 => ?_)
          refine q_aload_n d_X12_boat_93 rfl ?_
          refine q_getR (n := 1) d_X12_boat_94 hA.1 fi_12_7 rfl (Nat.le_of_ble_eq_true rfl) ?_
          refine q_bipush d_X12_boat_97 rfl ?_
          refine q_iload (x := s8 (a + 1) 58) d_X12_boat_99 rfl ?_
          refine q_iadd d_X12_boat_101 ?_
          refine q_iconst d_X12_boat_102 ?_
          refine q_iastore (m := 1732) d_X12_boat_103 hA.2.1 (by decide) rfl (inr_b (Or.inl rfl)) w_s20 (fun g21 s22 w_s22 => ?_)
          refine q_aload_n d_X12_boat_104 rfl ?_
          refine q_getR (n := 1) d_X12_boat_105 hA.1 fi_12_7 rfl (Nat.le_of_ble_eq_true rfl) ?_
          refine q_bipush d_X12_boat_108 rfl ?_
          refine q_iload (x := s8 (a + 1) 58) d_X12_boat_110 rfl ?_
          refine q_iadd d_X12_boat_112 ?_
          refine q_iconst d_X12_boat_113 ?_
          refine q_iastore (m := 1732) d_X12_boat_114 hA.2.1 (by decide) rfl (inr_b (Or.inl rfl)) w_s22 (fun g23 s24 w_s24 => ?_)
          refine q_aload_n d_X12_boat_115 rfl ?_
          refine q_getR (n := 1) d_X12_boat_116 hA.1 fi_12_7 rfl (Nat.le_of_ble_eq_true rfl) ?_
          refine q_bipush d_X12_boat_119 rfl ?_
          refine q_iload (x := s8 (a + 1) 58) d_X12_boat_121 rfl ?_
          refine q_iadd d_X12_boat_123 ?_
          refine q_iconst d_X12_boat_124 ?_
          refine q_iastore (m := 1732) d_X12_boat_125 hA.2.1 (by decide) rfl (inr_b (Or.inl rfl)) w_s24 (fun g25 s26 w_s26 => ?_)
          refine q_aload_n d_X12_boat_126 rfl ?_
          refine q_getR (n := 1) d_X12_boat_127 hA.1 fi_12_7 rfl (Nat.le_of_ble_eq_true rfl) ?_
          refine q_bipush d_X12_boat_130 rfl ?_
          refine q_dup2 d_X12_boat_132 rfl rfl ?_
          refine q_iaload (m := 1732) d_X12_boat_133 hA.2.1 (by decide) rfl (fun g27 => ?_)
          refine q_iconst d_X12_boat_134 ?_
          refine q_iadd d_X12_boat_135 ?_
          refine q_iastore (m := 1732) d_X12_boat_136 hA.2.1 (by decide) rfl (inr_wr _) w_s26 (fun g28 s29 w_s29 => ?_)
          refine q_aload_n d_X12_boat_137 rfl ?_
          refine q_callV (R' := R_X12_forgets) (runV (As := []) (rest := []) d_X12_boat_138.1 cv_12_71 rfl hA.1 rfl rfl ⟨rfl, rfl, by decide, by decide⟩ (Nat.le_of_ble_eq_true rfl) w_s29 rfl) d_X12_boat_138.2 (c_X12_forgets κ a hA s29) rfl (fun r30 s31 w_s31 => ?_)
          refine q_iload (x := s8 (a + 1) 58) d_X12_boat_141 rfl ?_
          exact q_ireti d_X12_boat_143 rfl (w_s8 _ _) w_s31
abbrev R_X12_canSet : Room := { frames := 2, cells := 0, slots := 0, locals := 43 }
noncomputable def f_X12_canSet (a : Nat) (x1 : Int) (x2 : Int) (x3 : Int) (s0 : Mem) : Res :=
  if x1 = 0 then (bd (f_X12_isIn x3 0 9 s0) fun r2 s3 => some (r2, s3)) else (if x1 = 1 then (bd (f_X12_isIn x3 0 9 s0) fun r5 s6 => some (r5, s6)) else (if x1 = 2 then (bd (f_X12_isIn x3 0 99 s0) fun r8 s9 => some (r8, s9)) else (if x1 = 3 then (bd (f_X12_isIn x3 0 1000 s0) fun r11 s12 => some (r11, s12)) else (if x1 = 4 then (bd (f_X12_isReach x2 s0) fun r14 s15 => if r14 = 0 then (some (0, s15)) else (bd (f_X12_isIn x3 0 99 s15) fun r17 s18 => if r17 = 0 then (some (0, s18)) else (some (1, s18)))) else (if x1 = 5 then (bd (f_X12_isBoat a x2 s0) fun r21 s22 => if r21 = 0 then (some (0, s22)) else (bd (f_X12_isIn x3 0 999 s22) fun r24 s25 => if r24 = 0 then (some (0, s25)) else (some (1, s25)))) else (if x1 = 6 then (bd (f_X12_isBoat a x2 s0) fun r28 s29 => if r28 = 0 then (some (0, s29)) else (bd (f_X12_isIn x3 0 999 s29) fun r31 s32 => if r31 = 0 then (some (0, s32)) else (some (1, s32)))) else (some (0, s0))))))))
set_option maxHeartbeats 4000000 in
set_option maxRecDepth 10000 in
theorem c_X12_canSet (κ : Kp) (a : Nat) (hA : At12 κ a) (x1 : Int) (h_x1 : InR x1) (x2 : Int) (h_x2 : InR x2) (x3 : Int) (h_x3 : InR x3) (s0 : Mem) : ∀ r σ', f_X12_canSet a x1 x2 x3 s0 = some (r, σ') → Ct κ M_X12_canSet R_X12_canSet [vr κ a, vi x1, vi x2, vi x3] s0 r σ' := by
  intro r σ' ho
  refine Ct.of (by decide) (Nat.le_of_ble_eq_true rfl) (cat_ok rfl) (fun w_s0 => ?_) ⟨rfl, rfl⟩
  refine q_ent (ls' := [some (vr κ a), some (vi x1), some (vi x2), some (vi x3)]) (o := f_X12_canSet a x1 x2 x3 s0) ⟨rfl, rfl, rfl, rfl, trivial⟩ ?_ ho
  unfold f_X12_canSet
  refine q_iload_n (x := x1) d_X12_canSet_0 rfl ?_
  refine q_ite (fun c1 => ?_) (fun c1 => ?_)
  · refine q_tswC (tgt := 44) d_X12_canSet_1 h_x1 c1 (by decide) (by decide) rfl (by decide) ?_
    refine q_iload_n (x := x3) d_X12_canSet_44 rfl ?_
    refine q_iconst d_X12_canSet_45 ?_
    refine q_bipush d_X12_canSet_46 rfl ?_
    refine q_callZ (R' := R_X12_isIn) (runS (As := [vi x3, vi 0, vi 9]) (rest := []) d_X12_canSet_48.1 cv_12_60 rfl ⟨rfl, rfl, by decide, by decide⟩ (Nat.le_of_ble_eq_true rfl) w_s0 rfl) d_X12_canSet_48.2 (c_X12_isIn κ x3 h_x3 0 (inr_b (Or.inl rfl)) 9 (inr_d rfl) s0) rfl (fun r2 s3 h_r2 w_s3 => ?_)
    exact q_iretz d_X12_canSet_51 rfl h_r2 w_s3
  refine q_ite (fun c4 => ?_) (fun c4 => ?_)
  · refine q_tswC (tgt := 44) d_X12_canSet_1 h_x1 c4 (by decide) (by decide) rfl (by decide) ?_
    refine q_iload_n (x := x3) d_X12_canSet_44 rfl ?_
    refine q_iconst d_X12_canSet_45 ?_
    refine q_bipush d_X12_canSet_46 rfl ?_
    refine q_callZ (R' := R_X12_isIn) (runS (As := [vi x3, vi 0, vi 9]) (rest := []) d_X12_canSet_48.1 cv_12_60 rfl ⟨rfl, rfl, by decide, by decide⟩ (Nat.le_of_ble_eq_true rfl) w_s0 rfl) d_X12_canSet_48.2 (c_X12_isIn κ x3 h_x3 0 (inr_b (Or.inl rfl)) 9 (inr_d rfl) s0) rfl (fun r5 s6 h_r5 w_s6 => ?_)
    exact q_iretz d_X12_canSet_51 rfl h_r5 w_s6
  refine q_ite (fun c7 => ?_) (fun c7 => ?_)
  · refine q_tswC (tgt := 52) d_X12_canSet_1 h_x1 c7 (by decide) (by decide) rfl (by decide) ?_
    refine q_iload_n (x := x3) d_X12_canSet_52 rfl ?_
    refine q_iconst d_X12_canSet_53 ?_
    refine q_bipush d_X12_canSet_54 rfl ?_
    refine q_callZ (R' := R_X12_isIn) (runS (As := [vi x3, vi 0, vi 99]) (rest := []) d_X12_canSet_56.1 cv_12_60 rfl ⟨rfl, rfl, by decide, by decide⟩ (Nat.le_of_ble_eq_true rfl) w_s0 rfl) d_X12_canSet_56.2 (c_X12_isIn κ x3 h_x3 0 (inr_b (Or.inl rfl)) 99 (inr_d rfl) s0) rfl (fun r8 s9 h_r8 w_s9 => ?_)
    exact q_iretz d_X12_canSet_59 rfl h_r8 w_s9
  refine q_ite (fun c10 => ?_) (fun c10 => ?_)
  · refine q_tswC (tgt := 60) d_X12_canSet_1 h_x1 c10 (by decide) (by decide) rfl (by decide) ?_
    refine q_iload_n (x := x3) d_X12_canSet_60 rfl ?_
    refine q_iconst d_X12_canSet_61 ?_
    refine q_sipush d_X12_canSet_62 rfl ?_
    refine q_callZ (R' := R_X12_isIn) (runS (As := [vi x3, vi 0, vi 1000]) (rest := []) d_X12_canSet_65.1 cv_12_60 rfl ⟨rfl, rfl, by decide, by decide⟩ (Nat.le_of_ble_eq_true rfl) w_s0 rfl) d_X12_canSet_65.2 (c_X12_isIn κ x3 h_x3 0 (inr_b (Or.inl rfl)) 1000 (inr_d rfl) s0) rfl (fun r11 s12 h_r11 w_s12 => ?_)
    exact q_iretz d_X12_canSet_68 rfl h_r11 w_s12
  refine q_ite (fun c13 => ?_) (fun c13 => ?_)
  · refine q_tswC (tgt := 69) d_X12_canSet_1 h_x1 c13 (by decide) (by decide) rfl (by decide) ?_
    refine q_iload_n (x := x2) d_X12_canSet_69 rfl ?_
    refine q_callZ (R' := R_X12_isReach) (runS (As := [vi x2]) (rest := []) d_X12_canSet_70.1 cv_12_76 rfl ⟨rfl, rfl, by decide, by decide⟩ (Nat.le_of_ble_eq_true rfl) w_s0 rfl) d_X12_canSet_70.2 (c_X12_isReach κ x2 h_x2 s0) rfl (fun r14 s15 h_r14 w_s15 => ?_)
    refine q_if_eq d_X12_canSet_73 (inr_b h_r14) (fun c16 => ?_) (fun c16 => ?_)
    · refine q_iconst d_X12_canSet_90 ?_
      exact q_iretz d_X12_canSet_91 rfl (Or.inl rfl) w_s15
    · refine q_iload_n (x := x3) d_X12_canSet_76 rfl ?_
      refine q_iconst d_X12_canSet_77 ?_
      refine q_bipush d_X12_canSet_78 rfl ?_
      refine q_callZ (R' := R_X12_isIn) (runS (As := [vi x3, vi 0, vi 99]) (rest := []) d_X12_canSet_80.1 cv_12_60 rfl ⟨rfl, rfl, by decide, by decide⟩ (Nat.le_of_ble_eq_true rfl) w_s15 rfl) d_X12_canSet_80.2 (c_X12_isIn κ x3 h_x3 0 (inr_b (Or.inl rfl)) 99 (inr_d rfl) s15) rfl (fun r17 s18 h_r17 w_s18 => ?_)
      refine q_if_eq d_X12_canSet_83 (inr_b h_r17) (fun c19 => ?_) (fun c19 => ?_)
      · refine q_iconst d_X12_canSet_90 ?_
        exact q_iretz d_X12_canSet_91 rfl (Or.inl rfl) w_s18
      · refine q_iconst d_X12_canSet_86 ?_
        refine q_goto d_X12_canSet_87 ?_
        exact q_iretz d_X12_canSet_91 rfl (Or.inr rfl) w_s18
  refine q_ite (fun c20 => ?_) (fun c20 => ?_)
  · refine q_tswC (tgt := 92) d_X12_canSet_1 h_x1 c20 (by decide) (by decide) rfl (by decide) ?_
    refine q_aload_n d_X12_canSet_92 rfl ?_
    refine q_iload_n (x := x2) d_X12_canSet_93 rfl ?_
    refine q_callZ (R' := R_X12_isBoat) (runV (As := [vi x2]) (rest := []) d_X12_canSet_94.1 cv_12_64 rfl hA.1 rfl rfl ⟨rfl, rfl, by decide, by decide⟩ (Nat.le_of_ble_eq_true rfl) w_s0 rfl) d_X12_canSet_94.2 (c_X12_isBoat κ a hA x2 h_x2 s0) rfl (fun r21 s22 h_r21 w_s22 => ?_)
    refine q_if_eq d_X12_canSet_97 (inr_b h_r21) (fun c23 => ?_) (fun c23 => ?_)
    · refine q_iconst d_X12_canSet_115 ?_
      exact q_iretz d_X12_canSet_116 rfl (Or.inl rfl) w_s22
    · refine q_iload_n (x := x3) d_X12_canSet_100 rfl ?_
      refine q_iconst d_X12_canSet_101 ?_
      refine q_sipush d_X12_canSet_102 rfl ?_
      refine q_callZ (R' := R_X12_isIn) (runS (As := [vi x3, vi 0, vi 999]) (rest := []) d_X12_canSet_105.1 cv_12_60 rfl ⟨rfl, rfl, by decide, by decide⟩ (Nat.le_of_ble_eq_true rfl) w_s22 rfl) d_X12_canSet_105.2 (c_X12_isIn κ x3 h_x3 0 (inr_b (Or.inl rfl)) 999 (inr_d rfl) s22) rfl (fun r24 s25 h_r24 w_s25 => ?_)
      refine q_if_eq d_X12_canSet_108 (inr_b h_r24) (fun c26 => ?_) (fun c26 => ?_)
      · refine q_iconst d_X12_canSet_115 ?_
        exact q_iretz d_X12_canSet_116 rfl (Or.inl rfl) w_s25
      · refine q_iconst d_X12_canSet_111 ?_
        refine q_goto d_X12_canSet_112 ?_
        exact q_iretz d_X12_canSet_116 rfl (Or.inr rfl) w_s25
  refine q_ite (fun c27 => ?_) (fun c27 => ?_)
  · refine q_tswC (tgt := 92) d_X12_canSet_1 h_x1 c27 (by decide) (by decide) rfl (by decide) ?_
    refine q_aload_n d_X12_canSet_92 rfl ?_
    refine q_iload_n (x := x2) d_X12_canSet_93 rfl ?_
    refine q_callZ (R' := R_X12_isBoat) (runV (As := [vi x2]) (rest := []) d_X12_canSet_94.1 cv_12_64 rfl hA.1 rfl rfl ⟨rfl, rfl, by decide, by decide⟩ (Nat.le_of_ble_eq_true rfl) w_s0 rfl) d_X12_canSet_94.2 (c_X12_isBoat κ a hA x2 h_x2 s0) rfl (fun r28 s29 h_r28 w_s29 => ?_)
    refine q_if_eq d_X12_canSet_97 (inr_b h_r28) (fun c30 => ?_) (fun c30 => ?_)
    · refine q_iconst d_X12_canSet_115 ?_
      exact q_iretz d_X12_canSet_116 rfl (Or.inl rfl) w_s29
    · refine q_iload_n (x := x3) d_X12_canSet_100 rfl ?_
      refine q_iconst d_X12_canSet_101 ?_
      refine q_sipush d_X12_canSet_102 rfl ?_
      refine q_callZ (R' := R_X12_isIn) (runS (As := [vi x3, vi 0, vi 999]) (rest := []) d_X12_canSet_105.1 cv_12_60 rfl ⟨rfl, rfl, by decide, by decide⟩ (Nat.le_of_ble_eq_true rfl) w_s29 rfl) d_X12_canSet_105.2 (c_X12_isIn κ x3 h_x3 0 (inr_b (Or.inl rfl)) 999 (inr_d rfl) s29) rfl (fun r31 s32 h_r31 w_s32 => ?_)
      refine q_if_eq d_X12_canSet_108 (inr_b h_r31) (fun c33 => ?_) (fun c33 => ?_)
      · refine q_iconst d_X12_canSet_115 ?_
        exact q_iretz d_X12_canSet_116 rfl (Or.inl rfl) w_s32
      · refine q_iconst d_X12_canSet_111 ?_
        refine q_goto d_X12_canSet_112 ?_
        exact q_iretz d_X12_canSet_116 rfl (Or.inr rfl) w_s32
  refine q_tswD (tgt := 117) d_X12_canSet_1 h_x1 (by omega) (by decide) ?_
  refine q_iconst d_X12_canSet_117 ?_
  exact q_iretz d_X12_canSet_118 rfl (Or.inl rfl) w_s0
abbrev R_X12_placeOf : Room := { frames := 0, cells := 0, slots := 0, locals := 0 }
noncomputable def f_X12_placeOf (x0 : Int) (x1 : Int) (s0 : Mem) : Res :=
  if x0 = 0 then (some (1, s0)) else (if x0 = 1 then (some (2, s0)) else (if x0 = 2 then (some (3, s0)) else (if x0 = 3 then (some (57, s0)) else (if x0 = 4 then (some (wr (85 + x1), s0)) else (if x0 = 5 then (some (wr (17 + x1), s0)) else (some (wr (27 + x1), s0)))))))
set_option maxHeartbeats 4000000 in
set_option maxRecDepth 10000 in
theorem c_X12_placeOf (κ : Kp) (x0 : Int) (h_x0 : InR x0) (x1 : Int) (h_x1 : InR x1) (s0 : Mem) : ∀ r σ', f_X12_placeOf x0 x1 s0 = some (r, σ') → Ct κ M_X12_placeOf R_X12_placeOf [vi x0, vi x1] s0 r σ' := by
  intro r σ' ho
  refine Ct.of (by decide) (Nat.le_of_ble_eq_true rfl) (cat_ok rfl) (fun w_s0 => ?_) ⟨rfl, rfl⟩
  refine q_ent (ls' := [some (vi x0), some (vi x1)]) (o := f_X12_placeOf x0 x1 s0) ⟨rfl, rfl, trivial⟩ ?_ ho
  unfold f_X12_placeOf
  refine q_iload_n (x := x0) d_X12_placeOf_0 rfl ?_
  refine q_ite (fun c1 => ?_) (fun c1 => ?_)
  · refine q_tswC (tgt := 40) d_X12_placeOf_1 h_x0 c1 (by decide) (by decide) rfl (by decide) ?_
    refine q_iconst d_X12_placeOf_40 ?_
    exact q_ireti d_X12_placeOf_41 rfl (inr_b (Or.inr rfl)) w_s0
  refine q_ite (fun c2 => ?_) (fun c2 => ?_)
  · refine q_tswC (tgt := 42) d_X12_placeOf_1 h_x0 c2 (by decide) (by decide) rfl (by decide) ?_
    refine q_iconst d_X12_placeOf_42 ?_
    exact q_ireti d_X12_placeOf_43 rfl (inr_d rfl) w_s0
  refine q_ite (fun c3 => ?_) (fun c3 => ?_)
  · refine q_tswC (tgt := 44) d_X12_placeOf_1 h_x0 c3 (by decide) (by decide) rfl (by decide) ?_
    refine q_iconst d_X12_placeOf_44 ?_
    exact q_ireti d_X12_placeOf_45 rfl (inr_d rfl) w_s0
  refine q_ite (fun c4 => ?_) (fun c4 => ?_)
  · refine q_tswC (tgt := 46) d_X12_placeOf_1 h_x0 c4 (by decide) (by decide) rfl (by decide) ?_
    refine q_bipush d_X12_placeOf_46 rfl ?_
    exact q_ireti d_X12_placeOf_48 rfl (inr_d rfl) w_s0
  refine q_ite (fun c5 => ?_) (fun c5 => ?_)
  · refine q_tswC (tgt := 49) d_X12_placeOf_1 h_x0 c5 (by decide) (by decide) rfl (by decide) ?_
    refine q_bipush d_X12_placeOf_49 rfl ?_
    refine q_iload_n (x := x1) d_X12_placeOf_51 rfl ?_
    refine q_iadd d_X12_placeOf_52 ?_
    exact q_ireti d_X12_placeOf_53 rfl (inr_wr _) w_s0
  refine q_ite (fun c6 => ?_) (fun c6 => ?_)
  · refine q_tswC (tgt := 54) d_X12_placeOf_1 h_x0 c6 (by decide) (by decide) rfl (by decide) ?_
    refine q_bipush d_X12_placeOf_54 rfl ?_
    refine q_iload_n (x := x1) d_X12_placeOf_56 rfl ?_
    refine q_iadd d_X12_placeOf_57 ?_
    exact q_ireti d_X12_placeOf_58 rfl (inr_wr _) w_s0
  refine q_tswD (tgt := 59) d_X12_placeOf_1 h_x0 (by omega) (by decide) ?_
  refine q_bipush d_X12_placeOf_59 rfl ?_
  refine q_iload_n (x := x1) d_X12_placeOf_61 rfl ?_
  refine q_iadd d_X12_placeOf_62 ?_
  exact q_ireti d_X12_placeOf_63 rfl (inr_wr _) w_s0
abbrev R_X12_set : Room := { frames := 3, cells := 0, slots := 0, locals := 66 }
noncomputable def f_X12_set (a : Nat) (x1 : Int) (x2 : Int) (x3 : Int) (s0 : Mem) : Res :=
  bd (f_X12_canSet a x1 x2 x3 s0) fun r1 s2 => if r1 = 0 then (some (0, s2)) else (bd (f_X12_placeOf x1 x2 s2) fun r4 s5 => gd ((0 : Int) ≤ r4 ∧ r4 < 1732) (lm (mup s5 (a + 1) r4 x3) fun s7 => bd (f_X12_forgets a s7) fun r8 s9 => some (1, s9)))
set_option maxHeartbeats 4000000 in
set_option maxRecDepth 10000 in
theorem c_X12_set (κ : Kp) (a : Nat) (hA : At12 κ a) (x1 : Int) (h_x1 : InR x1) (x2 : Int) (h_x2 : InR x2) (x3 : Int) (h_x3 : InR x3) (s0 : Mem) : ∀ r σ', f_X12_set a x1 x2 x3 s0 = some (r, σ') → Ct κ M_X12_set R_X12_set [vr κ a, vi x1, vi x2, vi x3] s0 r σ' := by
  intro r σ' ho
  refine Ct.of (by decide) (Nat.le_of_ble_eq_true rfl) (cat_ok rfl) (fun w_s0 => ?_) ⟨rfl, rfl⟩
  refine q_ent (ls' := [some (vr κ a), some (vi x1), some (vi x2), some (vi x3)]) (o := f_X12_set a x1 x2 x3 s0) ⟨rfl, rfl, rfl, rfl, trivial⟩ ?_ ho
  unfold f_X12_set
  refine q_aload_n d_X12_set_0 rfl ?_
  refine q_iload_n (x := x1) d_X12_set_1 rfl ?_
  refine q_iload_n (x := x2) d_X12_set_2 rfl ?_
  refine q_iload_n (x := x3) d_X12_set_3 rfl ?_
  refine q_callZ (R' := R_X12_canSet) (runV (As := [vi x1, vi x2, vi x3]) (rest := []) d_X12_set_4.1 cv_12_79 rfl hA.1 rfl rfl ⟨rfl, rfl, by decide, by decide⟩ (Nat.le_of_ble_eq_true rfl) w_s0 rfl) d_X12_set_4.2 (c_X12_canSet κ a hA x1 h_x1 x2 h_x2 x3 h_x3 s0) rfl (fun r1 s2 h_r1 w_s2 => ?_)
  refine q_if_ne d_X12_set_7 (inr_b h_r1) (fun c3 => ?_) (fun c3 => ?_)
  · refine q_iconst d_X12_set_10 ?_
    exact q_iretz d_X12_set_11 rfl (Or.inl rfl) w_s2
  · refine q_aload_n d_X12_set_12 rfl ?_
    refine q_getR (n := 1) d_X12_set_13 hA.1 fi_12_7 rfl (Nat.le_of_ble_eq_true rfl) ?_
    refine q_iload_n (x := x1) d_X12_set_16 rfl ?_
    refine q_iload_n (x := x2) d_X12_set_17 rfl ?_
    refine q_callI (R' := R_X12_placeOf) (runS (As := [vi x1, vi x2]) (rest := [vr κ (a + 1)]) d_X12_set_18.1 cv_12_82 rfl ⟨rfl, rfl, by decide, by decide⟩ (Nat.le_of_ble_eq_true rfl) w_s2 rfl) d_X12_set_18.2 (c_X12_placeOf κ x1 h_x1 x2 h_x2 s2) rfl (fun r4 s5 h_r4 w_s5 => ?_)
    refine q_iload_n (x := x3) d_X12_set_21 rfl ?_
    refine q_iastore (m := 1732) d_X12_set_22 hA.2.1 (by decide) rfl h_x3 w_s5 (fun g6 s7 w_s7 => ?_)
    refine q_aload_n d_X12_set_23 rfl ?_
    refine q_callV (R' := R_X12_forgets) (runV (As := []) (rest := []) d_X12_set_24.1 cv_12_71 rfl hA.1 rfl rfl ⟨rfl, rfl, by decide, by decide⟩ (Nat.le_of_ble_eq_true rfl) w_s7 rfl) d_X12_set_24.2 (c_X12_forgets κ a hA s7) rfl (fun r8 s9 w_s9 => ?_)
    refine q_iconst d_X12_set_27 ?_
    exact q_iretz d_X12_set_28 rfl (Or.inr rfl) w_s9
abbrev R_X12_feed : Room := { frames := 0, cells := 0, slots := 0, locals := 0 }
noncomputable def f_X12_feed_18 (a : Nat) (p1 : Int) (p2 : Int) (p3 : Int) (p4 : Int) (p5 : Int) (k115 : Mem → Res) : Nat → Int → Mem → Res
  | 0, _, _ => none
  | n + 1, x6, s0 =>
    if x6 < 20 then (jn (fun (y4 : Int) => gd ((4 : Int) ≠ 0) (gd ((0 : Int) ≤ s0 a 16 ∧ s0 a 16 < 400) (lm (mup s0 (a + 8) (s0 a 16) (iand (ishr y4 (wr (24 - (wr (8 * (Int.tmod x6 4)))))) 255)) fun s7 => lm (mup s7 a 16 (wr ((s7 a 16) + 1))) fun s8 => f_X12_feed_18 a p1 p2 p3 p4 p5 k115 n (wr (x6 + 1)) s8))) fun j71 => if x6 < 4 then (j71 p1) else (if x6 < 8 then (j71 p2) else (if x6 < 12 then (j71 p3) else (if x6 < 16 then (j71 p4) else (j71 p5))))) else (k115 s0)
noncomputable def f_X12_feed (a : Nat) (x1 : Int) (x2 : Int) (x3 : Int) (x4 : Int) (x5 : Int) (s0 : Mem) : Res :=
  if 400 < wr ((s0 a 16) + 20) then (some ((-1), s0)) else (jn (fun (s2 : Mem) => some (s2 a 16, s2)) fun j115 => f_X12_feed_18 a x1 x2 x3 x4 x5 j115 FU 0 s0)
set_option maxHeartbeats 4000000 in
set_option maxRecDepth 10000 in
theorem l_X12_feed_18 (κ : Kp) (a : Nat) (hA : At12 κ a) (p1 : Int) (h_p1 : InR p1) (p2 : Int) (h_p2 : InR p2) (p3 : Int) (h_p3 : InR p3) (p4 : Int) (h_p4 : InR p4) (p5 : Int) (h_p5 : InR p5) (k115 : Mem → Res) (hk115 : ∀ (sz : Mem) (w_sz : WF sz), EO κ M_X12_feed R_X12_feed 115 [some (vr κ a), none, none, none, none, none, none, none] [] sz (k115 sz)) : ∀ (n : Nat) (x6 : Int) (h_x6 : InR x6) (s0 : Mem) (w_s0 : WF s0), EO κ M_X12_feed R_X12_feed 18 [some (vr κ a), some (vi p1), some (vi p2), some (vi p3), some (vi p4), some (vi p5), some (vi x6), none] [] s0 (f_X12_feed_18 a p1 p2 p3 p4 p5 k115 n x6 s0) := by
  intro n
  induction n with
  | zero => exact fun _ _ _ _ => q_none
  | succ n ih =>
    intro x6 h_x6 s0 w_s0
    rw [f_X12_feed_18]
    refine q_iload (x := x6) d_X12_feed_18 rfl ?_
    refine q_bipush d_X12_feed_20 rfl ?_
    refine q_icmp_ge d_X12_feed_22 h_x6 (inr_d rfl) (fun c3 => ?_) (fun c3 => ?_)
    · refine q_iload (x := x6) d_X12_feed_25 rfl ?_
      refine q_iconst d_X12_feed_27 ?_
      refine q_jn (α := Int → Res) (fun j71 => ∀ (y4 : Int) (h_y4 : InR y4), EO κ M_X12_feed R_X12_feed 71 [some (vr κ a), some (vi p1), some (vi p2), some (vi p3), some (vi p4), some (vi p5), some (vi x6), none] [vi y4] s0 (j71 y4)) ?_ (fun j71 hj71 => ?_)
      · intro y4 h_y4
        refine q_istore d_X12_feed_71 rfl ?_
        refine q_aload_n d_X12_feed_73 rfl ?_
        refine q_getR (n := 8) d_X12_feed_74 hA.1 fi_12_31 rfl (Nat.le_of_ble_eq_true rfl) ?_
        refine q_aload_n d_X12_feed_77 rfl ?_
        refine q_getI (k := 16) (j := 16) d_X12_feed_78 hA.1 fi_12_85 rfl rfl ?_
        refine q_iload (x := y4) d_X12_feed_81 rfl ?_
        refine q_bipush d_X12_feed_83 rfl ?_
        refine q_bipush d_X12_feed_85 rfl ?_
        refine q_iload (x := x6) d_X12_feed_87 rfl ?_
        refine q_iconst d_X12_feed_89 ?_
        refine q_irem d_X12_feed_90 h_x6 (inr_d rfl) (fun g5 => ?_)
        refine q_imul d_X12_feed_91 ?_
        refine q_isub d_X12_feed_92 ?_
        refine q_ishr d_X12_feed_93 ?_
        refine q_sipush d_X12_feed_94 rfl ?_
        refine q_iand d_X12_feed_97 ?_
        refine q_iastore (m := 400) d_X12_feed_98 hA.2.2.2.2.2.2.2.2.1 (by decide) rfl (inr_i32 _) w_s0 (fun g6 s7 w_s7 => ?_)
        refine q_aload_n d_X12_feed_99 rfl ?_
        refine q_dup d_X12_feed_100 rfl ?_
        refine q_getI (k := 16) (j := 16) d_X12_feed_101 hA.1 fi_12_85 rfl rfl ?_
        refine q_iconst d_X12_feed_104 ?_
        refine q_iadd d_X12_feed_105 ?_
        refine q_putI (k := 16) (j := 16) d_X12_feed_106 hA.1 fp_12_85 rfl rfl (inr_wr _) w_s7 (fun s8 w_s8 => ?_)
        refine q_iinc (x := x6) d_X12_feed_109 rfl rfl ?_
        refine q_goto d_X12_feed_112 ?_
        refine q_sub (ls' := [some (vr κ a), some (vi p1), some (vi p2), some (vi p3), some (vi p4), some (vi p5), some (vi (wr (x6 + 1))), none]) ⟨rfl, rfl, rfl, rfl, rfl, rfl, rfl, trivial⟩ ?_
        exact ih (wr (x6 + 1)) (inr_wr _) s8 w_s8
      refine q_icmp_ge d_X12_feed_28 h_x6 (inr_d rfl) (fun c9 => ?_) (fun c9 => ?_)
      · refine q_iload_n (x := p1) d_X12_feed_31 rfl ?_
        refine q_goto d_X12_feed_32 ?_
        refine q_sub (ls' := [some (vr κ a), some (vi p1), some (vi p2), some (vi p3), some (vi p4), some (vi p5), some (vi x6), none]) ⟨rfl, rfl, rfl, rfl, rfl, rfl, rfl, trivial⟩ ?_
        exact hj71 p1 h_p1
      · refine q_iload (x := x6) d_X12_feed_35 rfl ?_
        refine q_bipush d_X12_feed_37 rfl ?_
        refine q_icmp_ge d_X12_feed_39 h_x6 (inr_d rfl) (fun c10 => ?_) (fun c10 => ?_)
        · refine q_iload_n (x := p2) d_X12_feed_42 rfl ?_
          refine q_goto d_X12_feed_43 ?_
          refine q_sub (ls' := [some (vr κ a), some (vi p1), some (vi p2), some (vi p3), some (vi p4), some (vi p5), some (vi x6), none]) ⟨rfl, rfl, rfl, rfl, rfl, rfl, rfl, trivial⟩ ?_
          exact hj71 p2 h_p2
        · refine q_iload (x := x6) d_X12_feed_46 rfl ?_
          refine q_bipush d_X12_feed_48 rfl ?_
          refine q_icmp_ge d_X12_feed_50 h_x6 (inr_d rfl) (fun c11 => ?_) (fun c11 => ?_)
          · refine q_iload_n (x := p3) d_X12_feed_53 rfl ?_
            refine q_goto d_X12_feed_54 ?_
            refine q_sub (ls' := [some (vr κ a), some (vi p1), some (vi p2), some (vi p3), some (vi p4), some (vi p5), some (vi x6), none]) ⟨rfl, rfl, rfl, rfl, rfl, rfl, rfl, trivial⟩ ?_
            exact hj71 p3 h_p3
          · refine q_iload (x := x6) d_X12_feed_57 rfl ?_
            refine q_bipush d_X12_feed_59 rfl ?_
            refine q_icmp_ge d_X12_feed_61 h_x6 (inr_d rfl) (fun c12 => ?_) (fun c12 => ?_)
            · refine q_iload (x := p4) d_X12_feed_64 rfl ?_
              refine q_goto d_X12_feed_66 ?_
              refine q_sub (ls' := [some (vr κ a), some (vi p1), some (vi p2), some (vi p3), some (vi p4), some (vi p5), some (vi x6), none]) ⟨rfl, rfl, rfl, rfl, rfl, rfl, rfl, trivial⟩ ?_
              exact hj71 p4 h_p4
            · refine q_iload (x := p5) d_X12_feed_69 rfl ?_
              refine q_sub (ls' := [some (vr κ a), some (vi p1), some (vi p2), some (vi p3), some (vi p4), some (vi p5), some (vi x6), none]) ⟨rfl, rfl, rfl, rfl, rfl, rfl, rfl, trivial⟩ ?_
              exact hj71 p5 h_p5
    · refine q_sub (ls' := [some (vr κ a), none, none, none, none, none, none, none]) ⟨rfl, trivial⟩ ?_
      exact hk115 s0 w_s0
set_option maxHeartbeats 4000000 in
set_option maxRecDepth 10000 in
theorem c_X12_feed (κ : Kp) (a : Nat) (hA : At12 κ a) (x1 : Int) (h_x1 : InR x1) (x2 : Int) (h_x2 : InR x2) (x3 : Int) (h_x3 : InR x3) (x4 : Int) (h_x4 : InR x4) (x5 : Int) (h_x5 : InR x5) (s0 : Mem) : ∀ r σ', f_X12_feed a x1 x2 x3 x4 x5 s0 = some (r, σ') → Ct κ M_X12_feed R_X12_feed [vr κ a, vi x1, vi x2, vi x3, vi x4, vi x5] s0 r σ' := by
  intro r σ' ho
  refine Ct.of (by decide) (Nat.le_of_ble_eq_true rfl) (cat_ok rfl) (fun w_s0 => ?_) ⟨rfl, rfl⟩
  refine q_ent (ls' := [some (vr κ a), some (vi x1), some (vi x2), some (vi x3), some (vi x4), some (vi x5), none, none]) (o := f_X12_feed a x1 x2 x3 x4 x5 s0) ⟨rfl, rfl, rfl, rfl, rfl, rfl, trivial⟩ ?_ ho
  unfold f_X12_feed
  refine q_aload_n d_X12_feed_0 rfl ?_
  refine q_getI (k := 16) (j := 16) d_X12_feed_1 hA.1 fi_12_85 rfl rfl ?_
  refine q_bipush d_X12_feed_4 rfl ?_
  refine q_iadd d_X12_feed_6 ?_
  refine q_sipush d_X12_feed_7 rfl ?_
  refine q_icmp_le d_X12_feed_10 (inr_wr _) (inr_d rfl) (fun c1 => ?_) (fun c1 => ?_)
  · refine q_iconst d_X12_feed_13 ?_
    exact q_ireti d_X12_feed_14 rfl (inr_d rfl) w_s0
  · refine q_iconst d_X12_feed_15 ?_
    refine q_istore d_X12_feed_16 rfl ?_
    refine q_jn (α := Mem → Res) (fun j115 => ∀ (s2 : Mem) (w_s2 : WF s2), EO κ M_X12_feed R_X12_feed 115 [some (vr κ a), none, none, none, none, none, none, none] [] s2 (j115 s2)) ?_ (fun j115 hj115 => ?_)
    · intro s2 w_s2
      refine q_aload_n d_X12_feed_115 rfl ?_
      refine q_getI (k := 16) (j := 16) d_X12_feed_116 hA.1 fi_12_85 rfl rfl ?_
      exact q_ireti d_X12_feed_119 rfl (w_s2 _ _) w_s2
    refine q_sub (ls' := [some (vr κ a), some (vi x1), some (vi x2), some (vi x3), some (vi x4), some (vi x5), some (vi 0), none]) ⟨rfl, rfl, rfl, rfl, rfl, rfl, rfl, trivial⟩ ?_
    exact l_X12_feed_18 κ a hA x1 h_x1 x2 h_x2 x3 h_x3 x4 h_x4 x5 h_x5 j115 hj115 FU 0 (inr_b (Or.inl rfl)) s0 w_s0
abbrev R_X12_end : Room := { frames := 1, cells := 0, slots := 0, locals := 22 }
noncomputable def f_X12_end (a : Nat) (x1 : Int) (s0 : Mem) : Res :=
  bd (f_X12_isIn x1 0 (s0 a 16) s0) fun r1 s2 => if r1 = 0 then (some (0, s2)) else (lm (mup s2 a 16 x1) fun s4 => some (1, s4))
set_option maxHeartbeats 4000000 in
set_option maxRecDepth 10000 in
theorem c_X12_end (κ : Kp) (a : Nat) (hA : At12 κ a) (x1 : Int) (h_x1 : InR x1) (s0 : Mem) : ∀ r σ', f_X12_end a x1 s0 = some (r, σ') → Ct κ M_X12_end R_X12_end [vr κ a, vi x1] s0 r σ' := by
  intro r σ' ho
  refine Ct.of (by decide) (Nat.le_of_ble_eq_true rfl) (cat_ok rfl) (fun w_s0 => ?_) ⟨rfl, rfl⟩
  refine q_ent (ls' := [some (vr κ a), some (vi x1)]) (o := f_X12_end a x1 s0) ⟨rfl, rfl, trivial⟩ ?_ ho
  unfold f_X12_end
  refine q_iload_n (x := x1) d_X12_end_0 rfl ?_
  refine q_iconst d_X12_end_1 ?_
  refine q_aload_n d_X12_end_2 rfl ?_
  refine q_getI (k := 16) (j := 16) d_X12_end_3 hA.1 fi_12_85 rfl rfl ?_
  refine q_callZ (R' := R_X12_isIn) (runS (As := [vi x1, vi 0, vi (s0 a 16)]) (rest := []) d_X12_end_6.1 cv_12_60 rfl ⟨rfl, rfl, by decide, by decide⟩ (Nat.le_of_ble_eq_true rfl) w_s0 rfl) d_X12_end_6.2 (c_X12_isIn κ x1 h_x1 0 (inr_b (Or.inl rfl)) (s0 a 16) (w_s0 _ _) s0) rfl (fun r1 s2 h_r1 w_s2 => ?_)
  refine q_if_ne d_X12_end_9 (inr_b h_r1) (fun c3 => ?_) (fun c3 => ?_)
  · refine q_iconst d_X12_end_12 ?_
    exact q_iretz d_X12_end_13 rfl (Or.inl rfl) w_s2
  · refine q_aload_n d_X12_end_14 rfl ?_
    refine q_iload_n (x := x1) d_X12_end_15 rfl ?_
    refine q_putI (k := 16) (j := 16) d_X12_end_16 hA.1 fp_12_85 rfl rfl h_x1 w_s2 (fun s4 w_s4 => ?_)
    refine q_iconst d_X12_end_19 ?_
    exact q_iretz d_X12_end_20 rfl (Or.inr rfl) w_s4
abbrev R_X12_see : Room := { frames := 0, cells := 0, slots := 0, locals := 0 }
noncomputable def f_X12_see (a : Nat) (x1 : Int) (s0 : Mem) : Res :=
  if x1 < s0 a 16 then (gd ((0 : Int) ≤ x1 ∧ x1 < 400) (some (s0 (a + 8) x1, s0))) else (some ((-1), s0))
set_option maxHeartbeats 4000000 in
set_option maxRecDepth 10000 in
theorem c_X12_see (κ : Kp) (a : Nat) (hA : At12 κ a) (x1 : Int) (h_x1 : InR x1) (s0 : Mem) : ∀ r σ', f_X12_see a x1 s0 = some (r, σ') → Ct κ M_X12_see R_X12_see [vr κ a, vi x1] s0 r σ' := by
  intro r σ' ho
  refine Ct.of (by decide) (Nat.le_of_ble_eq_true rfl) (cat_ok rfl) (fun w_s0 => ?_) ⟨rfl, rfl⟩
  refine q_ent (ls' := [some (vr κ a), some (vi x1)]) (o := f_X12_see a x1 s0) ⟨rfl, rfl, trivial⟩ ?_ ho
  unfold f_X12_see
  refine q_iload_n (x := x1) d_X12_see_0 rfl ?_
  refine q_aload_n d_X12_see_1 rfl ?_
  refine q_getI (k := 16) (j := 16) d_X12_see_2 hA.1 fi_12_85 rfl rfl ?_
  refine q_icmp_ge d_X12_see_5 h_x1 (w_s0 _ _) (fun c1 => ?_) (fun c1 => ?_)
  · refine q_aload_n d_X12_see_8 rfl ?_
    refine q_getR (n := 8) d_X12_see_9 hA.1 fi_12_31 rfl (Nat.le_of_ble_eq_true rfl) ?_
    refine q_iload_n (x := x1) d_X12_see_12 rfl ?_
    refine q_iaload (m := 400) d_X12_see_13 hA.2.2.2.2.2.2.2.2.1 (by decide) rfl (fun g2 => ?_)
    refine q_goto d_X12_see_14 ?_
    exact q_ireti d_X12_see_18 rfl (w_s0 _ _) w_s0
  · refine q_iconst d_X12_see_17 ?_
    exact q_ireti d_X12_see_18 rfl (inr_d rfl) w_s0
abbrev R_X12_isLetter : Room := { frames := 1, cells := 0, slots := 0, locals := 22 }
noncomputable def f_X12_isLetter (x0 : Int) (s0 : Mem) : Res :=
  bd (f_X12_isIn x0 97 122 s0) fun r1 s2 => if r1 = 0 then (bd (f_X12_isIn x0 65 90 s2) fun r4 s5 => if r4 = 0 then (some (0, s5)) else (some (1, s5))) else (some (1, s2))
set_option maxHeartbeats 4000000 in
set_option maxRecDepth 10000 in
theorem c_X12_isLetter (κ : Kp) (x0 : Int) (h_x0 : InR x0) (s0 : Mem) : ∀ r σ', f_X12_isLetter x0 s0 = some (r, σ') → Ct κ M_X12_isLetter R_X12_isLetter [vi x0] s0 r σ' := by
  intro r σ' ho
  refine Ct.of (by decide) (Nat.le_of_ble_eq_true rfl) (cat_ok rfl) (fun w_s0 => ?_) ⟨rfl, rfl⟩
  refine q_ent (ls' := [some (vi x0)]) (o := f_X12_isLetter x0 s0) ⟨rfl, trivial⟩ ?_ ho
  unfold f_X12_isLetter
  refine q_iload_n (x := x0) d_X12_isLetter_0 rfl ?_
  refine q_bipush d_X12_isLetter_1 rfl ?_
  refine q_bipush d_X12_isLetter_3 rfl ?_
  refine q_callZ (R' := R_X12_isIn) (runS (As := [vi x0, vi 97, vi 122]) (rest := []) d_X12_isLetter_5.1 cv_12_60 rfl ⟨rfl, rfl, by decide, by decide⟩ (Nat.le_of_ble_eq_true rfl) w_s0 rfl) d_X12_isLetter_5.2 (c_X12_isIn κ x0 h_x0 97 (inr_d rfl) 122 (inr_d rfl) s0) rfl (fun r1 s2 h_r1 w_s2 => ?_)
  refine q_if_ne d_X12_isLetter_8 (inr_b h_r1) (fun c3 => ?_) (fun c3 => ?_)
  · refine q_iload_n (x := x0) d_X12_isLetter_11 rfl ?_
    refine q_bipush d_X12_isLetter_12 rfl ?_
    refine q_bipush d_X12_isLetter_14 rfl ?_
    refine q_callZ (R' := R_X12_isIn) (runS (As := [vi x0, vi 65, vi 90]) (rest := []) d_X12_isLetter_16.1 cv_12_60 rfl ⟨rfl, rfl, by decide, by decide⟩ (Nat.le_of_ble_eq_true rfl) w_s2 rfl) d_X12_isLetter_16.2 (c_X12_isIn κ x0 h_x0 65 (inr_d rfl) 90 (inr_d rfl) s2) rfl (fun r4 s5 h_r4 w_s5 => ?_)
    refine q_if_eq d_X12_isLetter_19 (inr_b h_r4) (fun c6 => ?_) (fun c6 => ?_)
    · refine q_iconst d_X12_isLetter_26 ?_
      exact q_iretz d_X12_isLetter_27 rfl (Or.inl rfl) w_s5
    · refine q_iconst d_X12_isLetter_22 ?_
      refine q_goto d_X12_isLetter_23 ?_
      exact q_iretz d_X12_isLetter_27 rfl (Or.inr rfl) w_s5
  · refine q_iconst d_X12_isLetter_22 ?_
    refine q_goto d_X12_isLetter_23 ?_
    exact q_iretz d_X12_isLetter_27 rfl (Or.inr rfl) w_s2
abbrev R_X12_isDigit : Room := { frames := 1, cells := 0, slots := 0, locals := 22 }
noncomputable def f_X12_isDigit (x0 : Int) (s0 : Mem) : Res :=
  bd (f_X12_isIn x0 48 57 s0) fun r1 s2 => some (r1, s2)
set_option maxHeartbeats 4000000 in
set_option maxRecDepth 10000 in
theorem c_X12_isDigit (κ : Kp) (x0 : Int) (h_x0 : InR x0) (s0 : Mem) : ∀ r σ', f_X12_isDigit x0 s0 = some (r, σ') → Ct κ M_X12_isDigit R_X12_isDigit [vi x0] s0 r σ' := by
  intro r σ' ho
  refine Ct.of (by decide) (Nat.le_of_ble_eq_true rfl) (cat_ok rfl) (fun w_s0 => ?_) ⟨rfl, rfl⟩
  refine q_ent (ls' := [some (vi x0)]) (o := f_X12_isDigit x0 s0) ⟨rfl, trivial⟩ ?_ ho
  unfold f_X12_isDigit
  refine q_iload_n (x := x0) d_X12_isDigit_0 rfl ?_
  refine q_bipush d_X12_isDigit_1 rfl ?_
  refine q_bipush d_X12_isDigit_3 rfl ?_
  refine q_callZ (R' := R_X12_isIn) (runS (As := [vi x0, vi 48, vi 57]) (rest := []) d_X12_isDigit_5.1 cv_12_60 rfl ⟨rfl, rfl, by decide, by decide⟩ (Nat.le_of_ble_eq_true rfl) w_s0 rfl) d_X12_isDigit_5.2 (c_X12_isIn κ x0 h_x0 48 (inr_d rfl) 57 (inr_d rfl) s0) rfl (fun r1 s2 h_r1 w_s2 => ?_)
  exact q_iretz d_X12_isDigit_8 rfl h_r1 w_s2
abbrev R_X12_is : Room := { frames := 4, cells := 0, slots := 0, locals := 85 }
noncomputable def f_X12_is_24 (a : Nat) (b1 : Nat) : Nat → Int → Int → Mem → Res
  | 0, _, _, _ => none
  | n + 1, x2, x3, s0 =>
    bd (f_J0_length_8abf5 b1 s0) fun r4 s5 => if x3 < r4 then (if x2 = 0 then (some (x2, s5)) else (gd ((0 : Int) ≤ wr ((s5 a 19) + x3) ∧ wr ((s5 a 19) + x3) < 400) (bd (f_J0_charAt_5068e b1 x3 s5) fun r9 s10 => jn (fun (y11 : Int) => f_X12_is_24 a b1 n y11 (wr (x3 + 1)) s10) fun j60 => if s5 (a + 8) (wr ((s5 a 19) + x3)) = r9 then (j60 1) else (j60 0)))) else (some (x2, s5))
noncomputable def f_X12_is (a : Nat) (i1 : Nat) (s0 : Mem) : Res :=
  bd (f_J0_length_8abf5 i1 s0) fun r1 s2 => jn (fun (y3 : Int) => f_X12_is_24 a i1 FU y3 0 s2) fun j21 => if wr ((s0 a 17) - (s0 a 19)) = r1 then (j21 1) else (j21 0)
set_option maxHeartbeats 4000000 in
set_option maxRecDepth 10000 in
theorem l_X12_is_24 (κ : Kp) (a : Nat) (hA : At12 κ a) (b1 : Nat) (hb1 : b1 < nStr)   : ∀ (n : Nat) (x2 : Int) (h_x2 : x2 = 0 ∨ x2 = 1) (x3 : Int) (h_x3 : InR x3) (s0 : Mem) (w_s0 : WF s0), EO κ M_X12_is R_X12_is 24 [some (vr κ a), some (vs κ b1), some (vi x2), some (vi x3)] [] s0 (f_X12_is_24 a b1 n x2 x3 s0) := by
  intro n
  induction n with
  | zero => exact fun _ _ _ _ _ _ => q_none
  | succ n ih =>
    intro x2 h_x2 x3 h_x3 s0 w_s0
    rw [f_X12_is_24]
    refine q_iload_n (x := x3) d_X12_is_24 rfl ?_
    refine q_aload_n d_X12_is_25 rfl ?_
    refine q_callI (R' := R_J0_length_8abf5) (runVS (As := []) (rest := [vi x3]) d_X12_is_26.1 cv_12_94 rfl hb1 rfl ⟨rfl, rfl, by decide, by decide⟩ (Nat.le_of_ble_eq_true rfl) w_s0 rfl) d_X12_is_26.2 (c_J0_length_8abf5 κ b1 hb1 s0) rfl (fun r4 s5 h_r4 w_s5 => ?_)
    refine q_icmp_ge d_X12_is_29 h_x3 h_r4 (fun c6 => ?_) (fun c6 => ?_)
    · refine q_iload_n (x := x2) d_X12_is_32 rfl ?_
      refine q_if_eq d_X12_is_33 (inr_b h_x2) (fun c7 => ?_) (fun c7 => ?_)
      · refine q_iload_n (x := x2) d_X12_is_67 rfl ?_
        exact q_iretz d_X12_is_68 rfl h_x2 w_s5
      · refine q_aload_n d_X12_is_36 rfl ?_
        refine q_getR (n := 8) d_X12_is_37 hA.1 fi_12_31 rfl (Nat.le_of_ble_eq_true rfl) ?_
        refine q_aload_n d_X12_is_40 rfl ?_
        refine q_getI (k := 19) (j := 19) d_X12_is_41 hA.1 fi_12_91 rfl rfl ?_
        refine q_iload_n (x := x3) d_X12_is_44 rfl ?_
        refine q_iadd d_X12_is_45 ?_
        refine q_iaload (m := 400) d_X12_is_46 hA.2.2.2.2.2.2.2.2.1 (by decide) rfl (fun g8 => ?_)
        refine q_aload_n d_X12_is_47 rfl ?_
        refine q_iload_n (x := x3) d_X12_is_48 rfl ?_
        refine q_callC (R' := R_J0_charAt_5068e) (runVS (As := [vi x3]) (rest := [vi (s5 (a + 8) (wr ((s5 a 19) + x3)))]) d_X12_is_49.1 cv_12_100 rfl hb1 rfl ⟨rfl, rfl, by decide, by decide⟩ (Nat.le_of_ble_eq_true rfl) w_s5 rfl) d_X12_is_49.2 (c_J0_charAt_5068e κ b1 hb1 x3 h_x3 s5) rfl (fun r9 s10 h_r9 w_s10 => ?_)
        refine q_jn (α := Int → Res) (fun j60 => ∀ (y11 : Int) (h_y11 : y11 = 0 ∨ y11 = 1), EO κ M_X12_is R_X12_is 60 [some (vr κ a), some (vs κ b1), none, some (vi x3)] [vi y11] s10 (j60 y11)) ?_ (fun j60 hj60 => ?_)
        · intro y11 h_y11
          refine q_istore_n d_X12_is_60 rfl ?_
          refine q_iinc (x := x3) d_X12_is_61 rfl rfl ?_
          refine q_goto d_X12_is_64 ?_
          refine q_sub (ls' := [some (vr κ a), some (vs κ b1), some (vi y11), some (vi (wr (x3 + 1)))]) ⟨rfl, rfl, rfl, rfl, trivial⟩ ?_
          exact ih y11 h_y11 (wr (x3 + 1)) (inr_wr _) s10 w_s10
        refine q_icmp_ne d_X12_is_52 (w_s5 _ _) (inr_c h_r9) (fun c12 => ?_) (fun c12 => ?_)
        · refine q_iconst d_X12_is_55 ?_
          refine q_goto d_X12_is_56 ?_
          refine q_sub (ls' := [some (vr κ a), some (vs κ b1), none, some (vi x3)]) ⟨rfl, rfl, rfl, trivial⟩ ?_
          exact hj60 1 (Or.inr rfl)
        · refine q_iconst d_X12_is_59 ?_
          refine q_sub (ls' := [some (vr κ a), some (vs κ b1), none, some (vi x3)]) ⟨rfl, rfl, rfl, trivial⟩ ?_
          exact hj60 0 (Or.inl rfl)
    · refine q_iload_n (x := x2) d_X12_is_67 rfl ?_
      exact q_iretz d_X12_is_68 rfl h_x2 w_s5
set_option maxHeartbeats 4000000 in
set_option maxRecDepth 10000 in
theorem c_X12_is (κ : Kp) (a : Nat) (hA : At12 κ a) (i1 : Nat) (hi1 : i1 < nStr) (s0 : Mem) : ∀ r σ', f_X12_is a i1 s0 = some (r, σ') → Ct κ M_X12_is R_X12_is [vr κ a, vs κ i1] s0 r σ' := by
  intro r σ' ho
  refine Ct.of (by decide) (Nat.le_of_ble_eq_true rfl) (cat_ok rfl) (fun w_s0 => ?_) ⟨rfl, rfl⟩
  refine q_ent (ls' := [some (vr κ a), some (vs κ i1), none, none]) (o := f_X12_is a i1 s0) ⟨rfl, rfl, trivial⟩ ?_ ho
  unfold f_X12_is
  refine q_aload_n d_X12_is_0 rfl ?_
  refine q_getI (k := 17) (j := 17) d_X12_is_1 hA.1 fi_12_88 rfl rfl ?_
  refine q_aload_n d_X12_is_4 rfl ?_
  refine q_getI (k := 19) (j := 19) d_X12_is_5 hA.1 fi_12_91 rfl rfl ?_
  refine q_isub d_X12_is_8 ?_
  refine q_aload_n d_X12_is_9 rfl ?_
  refine q_callI (R' := R_J0_length_8abf5) (runVS (As := []) (rest := [vi (wr ((s0 a 17) - (s0 a 19)))]) d_X12_is_10.1 cv_12_94 rfl hi1 rfl ⟨rfl, rfl, by decide, by decide⟩ (Nat.le_of_ble_eq_true rfl) w_s0 rfl) d_X12_is_10.2 (c_J0_length_8abf5 κ i1 hi1 s0) rfl (fun r1 s2 h_r1 w_s2 => ?_)
  refine q_jn (α := Int → Res) (fun j21 => ∀ (y3 : Int) (h_y3 : y3 = 0 ∨ y3 = 1), EO κ M_X12_is R_X12_is 21 [some (vr κ a), some (vs κ i1), none, none] [vi y3] s2 (j21 y3)) ?_ (fun j21 hj21 => ?_)
  · intro y3 h_y3
    refine q_istore_n d_X12_is_21 rfl ?_
    refine q_iconst d_X12_is_22 ?_
    refine q_istore_n d_X12_is_23 rfl ?_
    refine q_sub (ls' := [some (vr κ a), some (vs κ i1), some (vi y3), some (vi 0)]) ⟨rfl, rfl, rfl, rfl, trivial⟩ ?_
    exact l_X12_is_24 κ a hA i1 hi1   FU y3 h_y3 0 (inr_b (Or.inl rfl)) s2 w_s2
  refine q_icmp_ne d_X12_is_13 (inr_wr _) h_r1 (fun c13 => ?_) (fun c13 => ?_)
  · refine q_iconst d_X12_is_16 ?_
    refine q_goto d_X12_is_17 ?_
    refine q_sub (ls' := [some (vr κ a), some (vs κ i1), none, none]) ⟨rfl, rfl, trivial⟩ ?_
    exact hj21 1 (Or.inr rfl)
  · refine q_iconst d_X12_is_20 ?_
    refine q_sub (ls' := [some (vr κ a), some (vs κ i1), none, none]) ⟨rfl, rfl, trivial⟩ ?_
    exact hj21 0 (Or.inl rfl)
abbrev R_X12_asked : Room := { frames := 5, cells := 0, slots := 0, locals := 108 }
noncomputable def f_X12_asked (a : Nat) (s0 : Mem) : Res :=
  bd (f_X12_is a 2 s0) fun r1 s2 => if r1 = 0 then (bd (f_X12_is a 3 s2) fun r4 s5 => if r4 = 0 then (bd (f_X12_is a 4 s5) fun r7 s8 => if r7 = 0 then (bd (f_X12_is a 5 s8) fun r10 s11 => if r10 = 0 then (bd (f_X12_is a 6 s11) fun r13 s14 => if r13 = 0 then (bd (f_X12_is a 7 s14) fun r16 s17 => if r16 = 0 then (bd (f_X12_is a 8 s17) fun r19 s20 => if r19 = 0 then (bd (f_X12_is a 9 s20) fun r22 s23 => if r22 = 0 then (bd (f_X12_is a 10 s23) fun r25 s26 => if r25 = 0 then (bd (f_X12_is a 11 s26) fun r28 s29 => if r28 = 0 then (some (1, s29)) else (some (50, s29))) else (some (49, s26))) else (some (48, s23))) else (some (47, s20))) else (some (46, s17))) else (some (45, s14))) else (some (44, s11))) else (some (43, s8))) else (some (42, s5))) else (some (41, s2))
set_option maxHeartbeats 4000000 in
set_option maxRecDepth 10000 in
theorem c_X12_asked (κ : Kp) (a : Nat) (hA : At12 κ a) (s0 : Mem) : ∀ r σ', f_X12_asked a s0 = some (r, σ') → Ct κ M_X12_asked R_X12_asked [vr κ a] s0 r σ' := by
  intro r σ' ho
  refine Ct.of (by decide) (Nat.le_of_ble_eq_true rfl) (cat_ok rfl) (fun w_s0 => ?_) ⟨rfl, rfl⟩
  refine q_ent (ls' := [some (vr κ a)]) (o := f_X12_asked a s0) ⟨rfl, trivial⟩ ?_ ho
  unfold f_X12_asked
  refine q_aload_n d_X12_asked_0 rfl ?_
  refine q_ldcS d_X12_asked_1 sr_12_104 ?_
  refine q_callZ (R' := R_X12_is) (runV (As := [vs κ 2]) (rest := []) d_X12_asked_3.1 cv_12_106 rfl hA.1 rfl rfl ⟨rfl, rfl, by decide, by decide⟩ (Nat.le_of_ble_eq_true rfl) w_s0 rfl) d_X12_asked_3.2 (c_X12_is κ a hA 2 (Nat.le_of_ble_eq_true rfl) s0) rfl (fun r1 s2 h_r1 w_s2 => ?_)
  refine q_if_eq d_X12_asked_6 (inr_b h_r1) (fun c3 => ?_) (fun c3 => ?_)
  · refine q_aload_n d_X12_asked_12 rfl ?_
    refine q_ldcS d_X12_asked_13 sr_12_110 ?_
    refine q_callZ (R' := R_X12_is) (runV (As := [vs κ 3]) (rest := []) d_X12_asked_15.1 cv_12_106 rfl hA.1 rfl rfl ⟨rfl, rfl, by decide, by decide⟩ (Nat.le_of_ble_eq_true rfl) w_s2 rfl) d_X12_asked_15.2 (c_X12_is κ a hA 3 (Nat.le_of_ble_eq_true rfl) s2) rfl (fun r4 s5 h_r4 w_s5 => ?_)
    refine q_if_eq d_X12_asked_18 (inr_b h_r4) (fun c6 => ?_) (fun c6 => ?_)
    · refine q_aload_n d_X12_asked_24 rfl ?_
      refine q_ldcS d_X12_asked_25 sr_12_112 ?_
      refine q_callZ (R' := R_X12_is) (runV (As := [vs κ 4]) (rest := []) d_X12_asked_27.1 cv_12_106 rfl hA.1 rfl rfl ⟨rfl, rfl, by decide, by decide⟩ (Nat.le_of_ble_eq_true rfl) w_s5 rfl) d_X12_asked_27.2 (c_X12_is κ a hA 4 (Nat.le_of_ble_eq_true rfl) s5) rfl (fun r7 s8 h_r7 w_s8 => ?_)
      refine q_if_eq d_X12_asked_30 (inr_b h_r7) (fun c9 => ?_) (fun c9 => ?_)
      · refine q_aload_n d_X12_asked_36 rfl ?_
        refine q_ldcS d_X12_asked_37 sr_12_114 ?_
        refine q_callZ (R' := R_X12_is) (runV (As := [vs κ 5]) (rest := []) d_X12_asked_39.1 cv_12_106 rfl hA.1 rfl rfl ⟨rfl, rfl, by decide, by decide⟩ (Nat.le_of_ble_eq_true rfl) w_s8 rfl) d_X12_asked_39.2 (c_X12_is κ a hA 5 (Nat.le_of_ble_eq_true rfl) s8) rfl (fun r10 s11 h_r10 w_s11 => ?_)
        refine q_if_eq d_X12_asked_42 (inr_b h_r10) (fun c12 => ?_) (fun c12 => ?_)
        · refine q_aload_n d_X12_asked_48 rfl ?_
          refine q_ldcS d_X12_asked_49 sr_12_116 ?_
          refine q_callZ (R' := R_X12_is) (runV (As := [vs κ 6]) (rest := []) d_X12_asked_51.1 cv_12_106 rfl hA.1 rfl rfl ⟨rfl, rfl, by decide, by decide⟩ (Nat.le_of_ble_eq_true rfl) w_s11 rfl) d_X12_asked_51.2 (c_X12_is κ a hA 6 (Nat.le_of_ble_eq_true rfl) s11) rfl (fun r13 s14 h_r13 w_s14 => ?_)
          refine q_if_eq d_X12_asked_54 (inr_b h_r13) (fun c15 => ?_) (fun c15 => ?_)
          · refine q_aload_n d_X12_asked_60 rfl ?_
            refine q_ldcS d_X12_asked_61 sr_12_118 ?_
            refine q_callZ (R' := R_X12_is) (runV (As := [vs κ 7]) (rest := []) d_X12_asked_63.1 cv_12_106 rfl hA.1 rfl rfl ⟨rfl, rfl, by decide, by decide⟩ (Nat.le_of_ble_eq_true rfl) w_s14 rfl) d_X12_asked_63.2 (c_X12_is κ a hA 7 (Nat.le_of_ble_eq_true rfl) s14) rfl (fun r16 s17 h_r16 w_s17 => ?_)
            refine q_if_eq d_X12_asked_66 (inr_b h_r16) (fun c18 => ?_) (fun c18 => ?_)
            · refine q_aload_n d_X12_asked_72 rfl ?_
              refine q_ldcS d_X12_asked_73 sr_12_120 ?_
              refine q_callZ (R' := R_X12_is) (runV (As := [vs κ 8]) (rest := []) d_X12_asked_75.1 cv_12_106 rfl hA.1 rfl rfl ⟨rfl, rfl, by decide, by decide⟩ (Nat.le_of_ble_eq_true rfl) w_s17 rfl) d_X12_asked_75.2 (c_X12_is κ a hA 8 (Nat.le_of_ble_eq_true rfl) s17) rfl (fun r19 s20 h_r19 w_s20 => ?_)
              refine q_if_eq d_X12_asked_78 (inr_b h_r19) (fun c21 => ?_) (fun c21 => ?_)
              · refine q_aload_n d_X12_asked_84 rfl ?_
                refine q_ldcS d_X12_asked_85 sr_12_122 ?_
                refine q_callZ (R' := R_X12_is) (runV (As := [vs κ 9]) (rest := []) d_X12_asked_87.1 cv_12_106 rfl hA.1 rfl rfl ⟨rfl, rfl, by decide, by decide⟩ (Nat.le_of_ble_eq_true rfl) w_s20 rfl) d_X12_asked_87.2 (c_X12_is κ a hA 9 (Nat.le_of_ble_eq_true rfl) s20) rfl (fun r22 s23 h_r22 w_s23 => ?_)
                refine q_if_eq d_X12_asked_90 (inr_b h_r22) (fun c24 => ?_) (fun c24 => ?_)
                · refine q_aload_n d_X12_asked_96 rfl ?_
                  refine q_ldcS d_X12_asked_97 sr_12_124 ?_
                  refine q_callZ (R' := R_X12_is) (runV (As := [vs κ 10]) (rest := []) d_X12_asked_99.1 cv_12_106 rfl hA.1 rfl rfl ⟨rfl, rfl, by decide, by decide⟩ (Nat.le_of_ble_eq_true rfl) w_s23 rfl) d_X12_asked_99.2 (c_X12_is κ a hA 10 (Nat.le_of_ble_eq_true rfl) s23) rfl (fun r25 s26 h_r25 w_s26 => ?_)
                  refine q_if_eq d_X12_asked_102 (inr_b h_r25) (fun c27 => ?_) (fun c27 => ?_)
                  · refine q_aload_n d_X12_asked_108 rfl ?_
                    refine q_ldcS d_X12_asked_109 sr_12_126 ?_
                    refine q_callZ (R' := R_X12_is) (runV (As := [vs κ 11]) (rest := []) d_X12_asked_111.1 cv_12_106 rfl hA.1 rfl rfl ⟨rfl, rfl, by decide, by decide⟩ (Nat.le_of_ble_eq_true rfl) w_s26 rfl) d_X12_asked_111.2 (c_X12_is κ a hA 11 (Nat.le_of_ble_eq_true rfl) s26) rfl (fun r28 s29 h_r28 w_s29 => ?_)
                    refine q_if_eq d_X12_asked_114 (inr_b h_r28) (fun c30 => ?_) (fun c30 => ?_)
                    · refine q_iconst d_X12_asked_122 ?_
                      exact q_ireti d_X12_asked_123 rfl (inr_b (Or.inr rfl)) w_s29
                    · refine q_bipush d_X12_asked_117 rfl ?_
                      refine q_goto d_X12_asked_119 ?_
                      exact q_ireti d_X12_asked_123 rfl (inr_d rfl) w_s29
                  · refine q_bipush d_X12_asked_105 rfl ?_
                    exact q_ireti d_X12_asked_107 rfl (inr_d rfl) w_s26
                · refine q_bipush d_X12_asked_93 rfl ?_
                  exact q_ireti d_X12_asked_95 rfl (inr_d rfl) w_s23
              · refine q_bipush d_X12_asked_81 rfl ?_
                exact q_ireti d_X12_asked_83 rfl (inr_d rfl) w_s20
            · refine q_bipush d_X12_asked_69 rfl ?_
              exact q_ireti d_X12_asked_71 rfl (inr_d rfl) w_s17
          · refine q_bipush d_X12_asked_57 rfl ?_
            exact q_ireti d_X12_asked_59 rfl (inr_d rfl) w_s14
        · refine q_bipush d_X12_asked_45 rfl ?_
          exact q_ireti d_X12_asked_47 rfl (inr_d rfl) w_s11
      · refine q_bipush d_X12_asked_33 rfl ?_
        exact q_ireti d_X12_asked_35 rfl (inr_d rfl) w_s8
    · refine q_bipush d_X12_asked_21 rfl ?_
      exact q_ireti d_X12_asked_23 rfl (inr_d rfl) w_s5
  · refine q_bipush d_X12_asked_9 rfl ?_
    exact q_ireti d_X12_asked_11 rfl (inr_d rfl) w_s2
abbrev R_X12_lawWord : Room := { frames := 6, cells := 0, slots := 0, locals := 128 }
noncomputable def f_X12_lawWord (a : Nat) (s0 : Mem) : Res :=
  bd (f_X12_is a 12 s0) fun r1 s2 => if r1 = 0 then (bd (f_X12_is a 13 s2) fun r4 s5 => if r4 = 0 then (bd (f_X12_is a 14 s5) fun r7 s8 => if r7 = 0 then (bd (f_X12_is a 15 s8) fun r10 s11 => if r10 = 0 then (bd (f_X12_is a 16 s11) fun r13 s14 => if r13 = 0 then (bd (f_X12_is a 17 s14) fun r16 s17 => if r16 = 0 then (bd (f_X12_is a 18 s17) fun r19 s20 => if r19 = 0 then (bd (f_X12_is a 19 s20) fun r22 s23 => if r22 = 0 then (bd (f_X12_asked a s23) fun r25 s26 => some (r25, s26)) else (some (23, s23))) else (some (22, s20))) else (some (21, s17))) else (some (20, s14))) else (some (6, s11))) else (some (5, s8))) else (some (4, s5))) else (some (3, s2))
set_option maxHeartbeats 4000000 in
set_option maxRecDepth 10000 in
theorem c_X12_lawWord (κ : Kp) (a : Nat) (hA : At12 κ a) (s0 : Mem) : ∀ r σ', f_X12_lawWord a s0 = some (r, σ') → Ct κ M_X12_lawWord R_X12_lawWord [vr κ a] s0 r σ' := by
  intro r σ' ho
  refine Ct.of (by decide) (Nat.le_of_ble_eq_true rfl) (cat_ok rfl) (fun w_s0 => ?_) ⟨rfl, rfl⟩
  refine q_ent (ls' := [some (vr κ a)]) (o := f_X12_lawWord a s0) ⟨rfl, trivial⟩ ?_ ho
  unfold f_X12_lawWord
  refine q_aload_n d_X12_lawWord_0 rfl ?_
  refine q_ldcS d_X12_lawWord_1 sr_12_128 ?_
  refine q_callZ (R' := R_X12_is) (runV (As := [vs κ 12]) (rest := []) d_X12_lawWord_3.1 cv_12_106 rfl hA.1 rfl rfl ⟨rfl, rfl, by decide, by decide⟩ (Nat.le_of_ble_eq_true rfl) w_s0 rfl) d_X12_lawWord_3.2 (c_X12_is κ a hA 12 (Nat.le_of_ble_eq_true rfl) s0) rfl (fun r1 s2 h_r1 w_s2 => ?_)
  refine q_if_eq d_X12_lawWord_6 (inr_b h_r1) (fun c3 => ?_) (fun c3 => ?_)
  · refine q_aload_n d_X12_lawWord_11 rfl ?_
    refine q_ldcS d_X12_lawWord_12 sr_12_130 ?_
    refine q_callZ (R' := R_X12_is) (runV (As := [vs κ 13]) (rest := []) d_X12_lawWord_14.1 cv_12_106 rfl hA.1 rfl rfl ⟨rfl, rfl, by decide, by decide⟩ (Nat.le_of_ble_eq_true rfl) w_s2 rfl) d_X12_lawWord_14.2 (c_X12_is κ a hA 13 (Nat.le_of_ble_eq_true rfl) s2) rfl (fun r4 s5 h_r4 w_s5 => ?_)
    refine q_if_eq d_X12_lawWord_17 (inr_b h_r4) (fun c6 => ?_) (fun c6 => ?_)
    · refine q_aload_n d_X12_lawWord_22 rfl ?_
      refine q_ldcS d_X12_lawWord_23 sr_12_132 ?_
      refine q_callZ (R' := R_X12_is) (runV (As := [vs κ 14]) (rest := []) d_X12_lawWord_25.1 cv_12_106 rfl hA.1 rfl rfl ⟨rfl, rfl, by decide, by decide⟩ (Nat.le_of_ble_eq_true rfl) w_s5 rfl) d_X12_lawWord_25.2 (c_X12_is κ a hA 14 (Nat.le_of_ble_eq_true rfl) s5) rfl (fun r7 s8 h_r7 w_s8 => ?_)
      refine q_if_eq d_X12_lawWord_28 (inr_b h_r7) (fun c9 => ?_) (fun c9 => ?_)
      · refine q_aload_n d_X12_lawWord_33 rfl ?_
        refine q_ldcS d_X12_lawWord_34 sr_12_134 ?_
        refine q_callZ (R' := R_X12_is) (runV (As := [vs κ 15]) (rest := []) d_X12_lawWord_36.1 cv_12_106 rfl hA.1 rfl rfl ⟨rfl, rfl, by decide, by decide⟩ (Nat.le_of_ble_eq_true rfl) w_s8 rfl) d_X12_lawWord_36.2 (c_X12_is κ a hA 15 (Nat.le_of_ble_eq_true rfl) s8) rfl (fun r10 s11 h_r10 w_s11 => ?_)
        refine q_if_eq d_X12_lawWord_39 (inr_b h_r10) (fun c12 => ?_) (fun c12 => ?_)
        · refine q_aload_n d_X12_lawWord_45 rfl ?_
          refine q_ldcS d_X12_lawWord_46 sr_12_136 ?_
          refine q_callZ (R' := R_X12_is) (runV (As := [vs κ 16]) (rest := []) d_X12_lawWord_48.1 cv_12_106 rfl hA.1 rfl rfl ⟨rfl, rfl, by decide, by decide⟩ (Nat.le_of_ble_eq_true rfl) w_s11 rfl) d_X12_lawWord_48.2 (c_X12_is κ a hA 16 (Nat.le_of_ble_eq_true rfl) s11) rfl (fun r13 s14 h_r13 w_s14 => ?_)
          refine q_if_eq d_X12_lawWord_51 (inr_b h_r13) (fun c15 => ?_) (fun c15 => ?_)
          · refine q_aload_n d_X12_lawWord_57 rfl ?_
            refine q_ldcS d_X12_lawWord_58 sr_12_138 ?_
            refine q_callZ (R' := R_X12_is) (runV (As := [vs κ 17]) (rest := []) d_X12_lawWord_60.1 cv_12_106 rfl hA.1 rfl rfl ⟨rfl, rfl, by decide, by decide⟩ (Nat.le_of_ble_eq_true rfl) w_s14 rfl) d_X12_lawWord_60.2 (c_X12_is κ a hA 17 (Nat.le_of_ble_eq_true rfl) s14) rfl (fun r16 s17 h_r16 w_s17 => ?_)
            refine q_if_eq d_X12_lawWord_63 (inr_b h_r16) (fun c18 => ?_) (fun c18 => ?_)
            · refine q_aload_n d_X12_lawWord_69 rfl ?_
              refine q_ldcS d_X12_lawWord_70 sr_12_140 ?_
              refine q_callZ (R' := R_X12_is) (runV (As := [vs κ 18]) (rest := []) d_X12_lawWord_72.1 cv_12_106 rfl hA.1 rfl rfl ⟨rfl, rfl, by decide, by decide⟩ (Nat.le_of_ble_eq_true rfl) w_s17 rfl) d_X12_lawWord_72.2 (c_X12_is κ a hA 18 (Nat.le_of_ble_eq_true rfl) s17) rfl (fun r19 s20 h_r19 w_s20 => ?_)
              refine q_if_eq d_X12_lawWord_75 (inr_b h_r19) (fun c21 => ?_) (fun c21 => ?_)
              · refine q_aload_n d_X12_lawWord_81 rfl ?_
                refine q_ldcS d_X12_lawWord_82 sr_12_142 ?_
                refine q_callZ (R' := R_X12_is) (runV (As := [vs κ 19]) (rest := []) d_X12_lawWord_84.1 cv_12_106 rfl hA.1 rfl rfl ⟨rfl, rfl, by decide, by decide⟩ (Nat.le_of_ble_eq_true rfl) w_s20 rfl) d_X12_lawWord_84.2 (c_X12_is κ a hA 19 (Nat.le_of_ble_eq_true rfl) s20) rfl (fun r22 s23 h_r22 w_s23 => ?_)
                refine q_if_eq d_X12_lawWord_87 (inr_b h_r22) (fun c24 => ?_) (fun c24 => ?_)
                · refine q_aload_n d_X12_lawWord_95 rfl ?_
                  refine q_callI (R' := R_X12_asked) (runV (As := []) (rest := []) d_X12_lawWord_96.1 cv_12_144 rfl hA.1 rfl rfl ⟨rfl, rfl, by decide, by decide⟩ (Nat.le_of_ble_eq_true rfl) w_s23 rfl) d_X12_lawWord_96.2 (c_X12_asked κ a hA s23) rfl (fun r25 s26 h_r25 w_s26 => ?_)
                  exact q_ireti d_X12_lawWord_99 rfl h_r25 w_s26
                · refine q_bipush d_X12_lawWord_90 rfl ?_
                  refine q_goto d_X12_lawWord_92 ?_
                  exact q_ireti d_X12_lawWord_99 rfl (inr_d rfl) w_s23
              · refine q_bipush d_X12_lawWord_78 rfl ?_
                exact q_ireti d_X12_lawWord_80 rfl (inr_d rfl) w_s20
            · refine q_bipush d_X12_lawWord_66 rfl ?_
              exact q_ireti d_X12_lawWord_68 rfl (inr_d rfl) w_s17
          · refine q_bipush d_X12_lawWord_54 rfl ?_
            exact q_ireti d_X12_lawWord_56 rfl (inr_d rfl) w_s14
        · refine q_bipush d_X12_lawWord_42 rfl ?_
          exact q_ireti d_X12_lawWord_44 rfl (inr_d rfl) w_s11
      · refine q_iconst d_X12_lawWord_31 ?_
        exact q_ireti d_X12_lawWord_32 rfl (inr_d rfl) w_s8
    · refine q_iconst d_X12_lawWord_20 ?_
      exact q_ireti d_X12_lawWord_21 rfl (inr_d rfl) w_s5
  · refine q_iconst d_X12_lawWord_9 ?_
    exact q_ireti d_X12_lawWord_10 rfl (inr_d rfl) w_s2
abbrev R_X12_planWord : Room := { frames := 5, cells := 0, slots := 0, locals := 108 }
noncomputable def f_X12_planWord (a : Nat) (s0 : Mem) : Res :=
  bd (f_X12_is a 20 s0) fun r1 s2 => if r1 = 0 then (bd (f_X12_is a 21 s2) fun r4 s5 => if r4 = 0 then (bd (f_X12_is a 3 s5) fun r7 s8 => if r7 = 0 then (bd (f_X12_is a 22 s8) fun r10 s11 => if r10 = 0 then (bd (f_X12_is a 23 s11) fun r13 s14 => if r13 = 0 then (bd (f_X12_is a 24 s14) fun r16 s17 => if r16 = 0 then (some (1, s17)) else (some (15, s17))) else (some (14, s14))) else (some (13, s11))) else (some (12, s8))) else (some (11, s5))) else (some (10, s2))
set_option maxHeartbeats 4000000 in
set_option maxRecDepth 10000 in
theorem c_X12_planWord (κ : Kp) (a : Nat) (hA : At12 κ a) (s0 : Mem) : ∀ r σ', f_X12_planWord a s0 = some (r, σ') → Ct κ M_X12_planWord R_X12_planWord [vr κ a] s0 r σ' := by
  intro r σ' ho
  refine Ct.of (by decide) (Nat.le_of_ble_eq_true rfl) (cat_ok rfl) (fun w_s0 => ?_) ⟨rfl, rfl⟩
  refine q_ent (ls' := [some (vr κ a)]) (o := f_X12_planWord a s0) ⟨rfl, trivial⟩ ?_ ho
  unfold f_X12_planWord
  refine q_aload_n d_X12_planWord_0 rfl ?_
  refine q_ldcS d_X12_planWord_1 sr_12_147 ?_
  refine q_callZ (R' := R_X12_is) (runV (As := [vs κ 20]) (rest := []) d_X12_planWord_3.1 cv_12_106 rfl hA.1 rfl rfl ⟨rfl, rfl, by decide, by decide⟩ (Nat.le_of_ble_eq_true rfl) w_s0 rfl) d_X12_planWord_3.2 (c_X12_is κ a hA 20 (Nat.le_of_ble_eq_true rfl) s0) rfl (fun r1 s2 h_r1 w_s2 => ?_)
  refine q_if_eq d_X12_planWord_6 (inr_b h_r1) (fun c3 => ?_) (fun c3 => ?_)
  · refine q_aload_n d_X12_planWord_12 rfl ?_
    refine q_ldcS d_X12_planWord_13 sr_12_148 ?_
    refine q_callZ (R' := R_X12_is) (runV (As := [vs κ 21]) (rest := []) d_X12_planWord_15.1 cv_12_106 rfl hA.1 rfl rfl ⟨rfl, rfl, by decide, by decide⟩ (Nat.le_of_ble_eq_true rfl) w_s2 rfl) d_X12_planWord_15.2 (c_X12_is κ a hA 21 (Nat.le_of_ble_eq_true rfl) s2) rfl (fun r4 s5 h_r4 w_s5 => ?_)
    refine q_if_eq d_X12_planWord_18 (inr_b h_r4) (fun c6 => ?_) (fun c6 => ?_)
    · refine q_aload_n d_X12_planWord_24 rfl ?_
      refine q_ldcS d_X12_planWord_25 sr_12_110 ?_
      refine q_callZ (R' := R_X12_is) (runV (As := [vs κ 3]) (rest := []) d_X12_planWord_27.1 cv_12_106 rfl hA.1 rfl rfl ⟨rfl, rfl, by decide, by decide⟩ (Nat.le_of_ble_eq_true rfl) w_s5 rfl) d_X12_planWord_27.2 (c_X12_is κ a hA 3 (Nat.le_of_ble_eq_true rfl) s5) rfl (fun r7 s8 h_r7 w_s8 => ?_)
      refine q_if_eq d_X12_planWord_30 (inr_b h_r7) (fun c9 => ?_) (fun c9 => ?_)
      · refine q_aload_n d_X12_planWord_36 rfl ?_
        refine q_ldcS d_X12_planWord_37 sr_12_150 ?_
        refine q_callZ (R' := R_X12_is) (runV (As := [vs κ 22]) (rest := []) d_X12_planWord_39.1 cv_12_106 rfl hA.1 rfl rfl ⟨rfl, rfl, by decide, by decide⟩ (Nat.le_of_ble_eq_true rfl) w_s8 rfl) d_X12_planWord_39.2 (c_X12_is κ a hA 22 (Nat.le_of_ble_eq_true rfl) s8) rfl (fun r10 s11 h_r10 w_s11 => ?_)
        refine q_if_eq d_X12_planWord_42 (inr_b h_r10) (fun c12 => ?_) (fun c12 => ?_)
        · refine q_aload_n d_X12_planWord_48 rfl ?_
          refine q_ldcS d_X12_planWord_49 sr_12_152 ?_
          refine q_callZ (R' := R_X12_is) (runV (As := [vs κ 23]) (rest := []) d_X12_planWord_51.1 cv_12_106 rfl hA.1 rfl rfl ⟨rfl, rfl, by decide, by decide⟩ (Nat.le_of_ble_eq_true rfl) w_s11 rfl) d_X12_planWord_51.2 (c_X12_is κ a hA 23 (Nat.le_of_ble_eq_true rfl) s11) rfl (fun r13 s14 h_r13 w_s14 => ?_)
          refine q_if_eq d_X12_planWord_54 (inr_b h_r13) (fun c15 => ?_) (fun c15 => ?_)
          · refine q_aload_n d_X12_planWord_60 rfl ?_
            refine q_ldcS d_X12_planWord_61 sr_12_154 ?_
            refine q_callZ (R' := R_X12_is) (runV (As := [vs κ 24]) (rest := []) d_X12_planWord_63.1 cv_12_106 rfl hA.1 rfl rfl ⟨rfl, rfl, by decide, by decide⟩ (Nat.le_of_ble_eq_true rfl) w_s14 rfl) d_X12_planWord_63.2 (c_X12_is κ a hA 24 (Nat.le_of_ble_eq_true rfl) s14) rfl (fun r16 s17 h_r16 w_s17 => ?_)
            refine q_if_eq d_X12_planWord_66 (inr_b h_r16) (fun c18 => ?_) (fun c18 => ?_)
            · refine q_iconst d_X12_planWord_74 ?_
              exact q_ireti d_X12_planWord_75 rfl (inr_b (Or.inr rfl)) w_s17
            · refine q_bipush d_X12_planWord_69 rfl ?_
              refine q_goto d_X12_planWord_71 ?_
              exact q_ireti d_X12_planWord_75 rfl (inr_d rfl) w_s17
          · refine q_bipush d_X12_planWord_57 rfl ?_
            exact q_ireti d_X12_planWord_59 rfl (inr_d rfl) w_s14
        · refine q_bipush d_X12_planWord_45 rfl ?_
          exact q_ireti d_X12_planWord_47 rfl (inr_d rfl) w_s11
      · refine q_bipush d_X12_planWord_33 rfl ?_
        exact q_ireti d_X12_planWord_35 rfl (inr_d rfl) w_s8
    · refine q_bipush d_X12_planWord_21 rfl ?_
      exact q_ireti d_X12_planWord_23 rfl (inr_d rfl) w_s5
  · refine q_bipush d_X12_planWord_9 rfl ?_
    exact q_ireti d_X12_planWord_11 rfl (inr_d rfl) w_s2
abbrev R_X12_villageWord : Room := { frames := 5, cells := 0, slots := 0, locals := 108 }
noncomputable def f_X12_villageWord (a : Nat) (s0 : Mem) : Res :=
  bd (f_X12_is a 25 s0) fun r1 s2 => if r1 = 0 then (bd (f_X12_is a 6 s2) fun r4 s5 => if r4 = 0 then (bd (f_X12_is a 26 s5) fun r7 s8 => if r7 = 0 then (bd (f_X12_is a 14 s8) fun r10 s11 => if r10 = 0 then (some (1, s11)) else (some (5, s11))) else (some (18, s8))) else (some (17, s5))) else (some (16, s2))
set_option maxHeartbeats 4000000 in
set_option maxRecDepth 10000 in
theorem c_X12_villageWord (κ : Kp) (a : Nat) (hA : At12 κ a) (s0 : Mem) : ∀ r σ', f_X12_villageWord a s0 = some (r, σ') → Ct κ M_X12_villageWord R_X12_villageWord [vr κ a] s0 r σ' := by
  intro r σ' ho
  refine Ct.of (by decide) (Nat.le_of_ble_eq_true rfl) (cat_ok rfl) (fun w_s0 => ?_) ⟨rfl, rfl⟩
  refine q_ent (ls' := [some (vr κ a)]) (o := f_X12_villageWord a s0) ⟨rfl, trivial⟩ ?_ ho
  unfold f_X12_villageWord
  refine q_aload_n d_X12_villageWord_0 rfl ?_
  refine q_ldcS d_X12_villageWord_1 sr_12_156 ?_
  refine q_callZ (R' := R_X12_is) (runV (As := [vs κ 25]) (rest := []) d_X12_villageWord_3.1 cv_12_106 rfl hA.1 rfl rfl ⟨rfl, rfl, by decide, by decide⟩ (Nat.le_of_ble_eq_true rfl) w_s0 rfl) d_X12_villageWord_3.2 (c_X12_is κ a hA 25 (Nat.le_of_ble_eq_true rfl) s0) rfl (fun r1 s2 h_r1 w_s2 => ?_)
  refine q_if_eq d_X12_villageWord_6 (inr_b h_r1) (fun c3 => ?_) (fun c3 => ?_)
  · refine q_aload_n d_X12_villageWord_12 rfl ?_
    refine q_ldcS d_X12_villageWord_13 sr_12_116 ?_
    refine q_callZ (R' := R_X12_is) (runV (As := [vs κ 6]) (rest := []) d_X12_villageWord_15.1 cv_12_106 rfl hA.1 rfl rfl ⟨rfl, rfl, by decide, by decide⟩ (Nat.le_of_ble_eq_true rfl) w_s2 rfl) d_X12_villageWord_15.2 (c_X12_is κ a hA 6 (Nat.le_of_ble_eq_true rfl) s2) rfl (fun r4 s5 h_r4 w_s5 => ?_)
    refine q_if_eq d_X12_villageWord_18 (inr_b h_r4) (fun c6 => ?_) (fun c6 => ?_)
    · refine q_aload_n d_X12_villageWord_24 rfl ?_
      refine q_ldcS d_X12_villageWord_25 sr_12_158 ?_
      refine q_callZ (R' := R_X12_is) (runV (As := [vs κ 26]) (rest := []) d_X12_villageWord_27.1 cv_12_106 rfl hA.1 rfl rfl ⟨rfl, rfl, by decide, by decide⟩ (Nat.le_of_ble_eq_true rfl) w_s5 rfl) d_X12_villageWord_27.2 (c_X12_is κ a hA 26 (Nat.le_of_ble_eq_true rfl) s5) rfl (fun r7 s8 h_r7 w_s8 => ?_)
      refine q_if_eq d_X12_villageWord_30 (inr_b h_r7) (fun c9 => ?_) (fun c9 => ?_)
      · refine q_aload_n d_X12_villageWord_36 rfl ?_
        refine q_ldcS d_X12_villageWord_37 sr_12_132 ?_
        refine q_callZ (R' := R_X12_is) (runV (As := [vs κ 14]) (rest := []) d_X12_villageWord_39.1 cv_12_106 rfl hA.1 rfl rfl ⟨rfl, rfl, by decide, by decide⟩ (Nat.le_of_ble_eq_true rfl) w_s8 rfl) d_X12_villageWord_39.2 (c_X12_is κ a hA 14 (Nat.le_of_ble_eq_true rfl) s8) rfl (fun r10 s11 h_r10 w_s11 => ?_)
        refine q_if_eq d_X12_villageWord_42 (inr_b h_r10) (fun c12 => ?_) (fun c12 => ?_)
        · refine q_iconst d_X12_villageWord_49 ?_
          exact q_ireti d_X12_villageWord_50 rfl (inr_b (Or.inr rfl)) w_s11
        · refine q_iconst d_X12_villageWord_45 ?_
          refine q_goto d_X12_villageWord_46 ?_
          exact q_ireti d_X12_villageWord_50 rfl (inr_d rfl) w_s11
      · refine q_bipush d_X12_villageWord_33 rfl ?_
        exact q_ireti d_X12_villageWord_35 rfl (inr_d rfl) w_s8
    · refine q_bipush d_X12_villageWord_21 rfl ?_
      exact q_ireti d_X12_villageWord_23 rfl (inr_d rfl) w_s5
  · refine q_bipush d_X12_villageWord_9 rfl ?_
    exact q_ireti d_X12_villageWord_11 rfl (inr_d rfl) w_s2
abbrev R_X12_word : Room := { frames := 7, cells := 0, slots := 0, locals := 148 }
noncomputable def f_X12_word (a : Nat) (s0 : Mem) : Res :=
  if s0 a 12 = 0 then (bd (f_X12_lawWord a s0) fun r2 s3 => some (r2, s3)) else (if s0 a 12 = 1 then (bd (f_X12_is a 9 s0) fun r5 s6 => if r5 = 0 then (bd (f_X12_is a 27 s6) fun r8 s9 => if r8 = 0 then (bd (f_X12_is a 28 s9) fun r11 s12 => if r11 = 0 then (some (1, s12)) else (some (9, s12))) else (some (8, s9))) else (some (7, s6))) else (if s0 a 12 = 2 then (bd (f_X12_planWord a s0) fun r15 s16 => some (r15, s16)) else (bd (f_X12_villageWord a s0) fun r17 s18 => some (r17, s18))))
set_option maxHeartbeats 4000000 in
set_option maxRecDepth 10000 in
theorem c_X12_word (κ : Kp) (a : Nat) (hA : At12 κ a) (s0 : Mem) : ∀ r σ', f_X12_word a s0 = some (r, σ') → Ct κ M_X12_word R_X12_word [vr κ a] s0 r σ' := by
  intro r σ' ho
  refine Ct.of (by decide) (Nat.le_of_ble_eq_true rfl) (cat_ok rfl) (fun w_s0 => ?_) ⟨rfl, rfl⟩
  refine q_ent (ls' := [some (vr κ a)]) (o := f_X12_word a s0) ⟨rfl, trivial⟩ ?_ ho
  unfold f_X12_word
  refine q_aload_n d_X12_word_0 rfl ?_
  refine q_getI (k := 12) (j := 12) d_X12_word_1 hA.1 fi_12_160 rfl rfl ?_
  refine q_ite (fun c1 => ?_) (fun c1 => ?_)
  · refine q_tswC (tgt := 32) d_X12_word_4 (w_s0 _ _) c1 (by decide) (by decide) rfl (by decide) ?_
    refine q_aload_n d_X12_word_32 rfl ?_
    refine q_callI (R' := R_X12_lawWord) (runV (As := []) (rest := []) d_X12_word_33.1 cv_12_163 rfl hA.1 rfl rfl ⟨rfl, rfl, by decide, by decide⟩ (Nat.le_of_ble_eq_true rfl) w_s0 rfl) d_X12_word_33.2 (c_X12_lawWord κ a hA s0) rfl (fun r2 s3 h_r2 w_s3 => ?_)
    exact q_ireti d_X12_word_36 rfl h_r2 w_s3
  refine q_ite (fun c4 => ?_) (fun c4 => ?_)
  · refine q_tswC (tgt := 37) d_X12_word_4 (w_s0 _ _) c4 (by decide) (by decide) rfl (by decide) ?_
    refine q_aload_n d_X12_word_37 rfl ?_
    refine q_ldcS d_X12_word_38 sr_12_122 ?_
    refine q_callZ (R' := R_X12_is) (runV (As := [vs κ 9]) (rest := []) d_X12_word_40.1 cv_12_106 rfl hA.1 rfl rfl ⟨rfl, rfl, by decide, by decide⟩ (Nat.le_of_ble_eq_true rfl) w_s0 rfl) d_X12_word_40.2 (c_X12_is κ a hA 9 (Nat.le_of_ble_eq_true rfl) s0) rfl (fun r5 s6 h_r5 w_s6 => ?_)
    refine q_if_eq d_X12_word_43 (inr_b h_r5) (fun c7 => ?_) (fun c7 => ?_)
    · refine q_aload_n d_X12_word_51 rfl ?_
      refine q_ldcS d_X12_word_52 sr_12_166 ?_
      refine q_callZ (R' := R_X12_is) (runV (As := [vs κ 27]) (rest := []) d_X12_word_54.1 cv_12_106 rfl hA.1 rfl rfl ⟨rfl, rfl, by decide, by decide⟩ (Nat.le_of_ble_eq_true rfl) w_s6 rfl) d_X12_word_54.2 (c_X12_is κ a hA 27 (Nat.le_of_ble_eq_true rfl) s6) rfl (fun r8 s9 h_r8 w_s9 => ?_)
      refine q_if_eq d_X12_word_57 (inr_b h_r8) (fun c10 => ?_) (fun c10 => ?_)
      · refine q_aload_n d_X12_word_65 rfl ?_
        refine q_ldcS d_X12_word_66 sr_12_168 ?_
        refine q_callZ (R' := R_X12_is) (runV (As := [vs κ 28]) (rest := []) d_X12_word_68.1 cv_12_106 rfl hA.1 rfl rfl ⟨rfl, rfl, by decide, by decide⟩ (Nat.le_of_ble_eq_true rfl) w_s9 rfl) d_X12_word_68.2 (c_X12_is κ a hA 28 (Nat.le_of_ble_eq_true rfl) s9) rfl (fun r11 s12 h_r11 w_s12 => ?_)
        refine q_if_eq d_X12_word_71 (inr_b h_r11) (fun c13 => ?_) (fun c13 => ?_)
        · refine q_iconst d_X12_word_79 ?_
          exact q_ireti d_X12_word_80 rfl (inr_b (Or.inr rfl)) w_s12
        · refine q_bipush d_X12_word_74 rfl ?_
          refine q_goto d_X12_word_76 ?_
          exact q_ireti d_X12_word_80 rfl (inr_d rfl) w_s12
      · refine q_bipush d_X12_word_60 rfl ?_
        refine q_goto d_X12_word_62 ?_
        exact q_ireti d_X12_word_80 rfl (inr_d rfl) w_s9
    · refine q_bipush d_X12_word_46 rfl ?_
      refine q_goto d_X12_word_48 ?_
      exact q_ireti d_X12_word_80 rfl (inr_d rfl) w_s6
  refine q_ite (fun c14 => ?_) (fun c14 => ?_)
  · refine q_tswC (tgt := 81) d_X12_word_4 (w_s0 _ _) c14 (by decide) (by decide) rfl (by decide) ?_
    refine q_aload_n d_X12_word_81 rfl ?_
    refine q_callI (R' := R_X12_planWord) (runV (As := []) (rest := []) d_X12_word_82.1 cv_12_170 rfl hA.1 rfl rfl ⟨rfl, rfl, by decide, by decide⟩ (Nat.le_of_ble_eq_true rfl) w_s0 rfl) d_X12_word_82.2 (c_X12_planWord κ a hA s0) rfl (fun r15 s16 h_r15 w_s16 => ?_)
    exact q_ireti d_X12_word_85 rfl h_r15 w_s16
  refine q_tswD (tgt := 86) d_X12_word_4 (w_s0 _ _) (by omega) (by decide) ?_
  refine q_aload_n d_X12_word_86 rfl ?_
  refine q_callI (R' := R_X12_villageWord) (runV (As := []) (rest := []) d_X12_word_87.1 cv_12_173 rfl hA.1 rfl rfl ⟨rfl, rfl, by decide, by decide⟩ (Nat.le_of_ble_eq_true rfl) w_s0 rfl) d_X12_word_87.2 (c_X12_villageWord κ a hA s0) rfl (fun r17 s18 h_r17 w_s18 => ?_)
  exact q_ireti d_X12_word_90 rfl h_r17 w_s18
abbrev R_X12_next0 : Room := { frames := 8, cells := 0, slots := 0, locals := 168 }
noncomputable def f_X12_next0_126 (a : Nat) (k189 : Mem → Res) : Nat → Mem → Res
  | 0, _ => none
  | n + 1, s0 =>
    bd (f_X12_see a (s0 a 17) s0) fun r33 s34 => bd (f_X12_isDigit r33 s34) fun r35 s36 => if r35 = 0 then (k189 s36) else (jn (fun (s38 : Mem) => lm (mup s38 a 17 (wr ((s38 a 17) + 1))) fun s39 => f_X12_next0_126 a k189 n s39) fun j176 => if s36 a 17 < wr ((s36 a 19) + 4) then (bd (f_X12_see a (s36 a 17) s36) fun r41 s42 => lm (mup s42 a 20 (wr ((wr ((wr (10 * (s36 a 20))) + r41)) - 48))) fun s43 => j176 s43) else (j176 s36))
noncomputable def f_X12_next0_76 (a : Nat) (k103 : Mem → Res) : Nat → Mem → Res
  | 0, _ => none
  | n + 1, s0 =>
    bd (f_X12_see a (s0 a 17) s0) fun r48 s49 => bd (f_X12_isLetter r48 s49) fun r50 s51 => if r50 = 0 then (k103 s51) else (lm (mup s51 a 17 (wr ((s51 a 17) + 1))) fun s53 => f_X12_next0_76 a k103 n s53)
noncomputable def f_X12_next0_0 (a : Nat) (k39 : Mem → Res) : Nat → Mem → Res
  | 0, _ => none
  | n + 1, s0 =>
    bd (f_X12_see a (s0 a 17) s0) fun r54 s55 => jn (fun (s56 : Mem) => lm (mup s56 a 17 (wr ((s56 a 17) + 1))) fun s57 => f_X12_next0_0 a k39 n s57) fun j26 => if r54 = 32 then (j26 s55) else (bd (f_X12_see a (s55 a 17) s55) fun r59 s60 => if r59 = 10 then (j26 s60) else (k39 s60))
noncomputable def f_X12_next0 (a : Nat) (s0 : Mem) : Res :=
  jn (fun (s1 : Mem) => lm (mup s1 a 19 (s1 a 17)) fun s2 => bd (f_X12_see a (s2 a 17) s2) fun r3 s4 => if r3 = (-1) then (lm (mup s4 a 18 0) fun s6 => some (0, s6)) else (bd (f_X12_isLetter r3 s4) fun r7 s8 => if r7 = 0 then (bd (f_X12_isDigit r3 s8) fun r10 s11 => if r10 = 0 then (lm (mup s11 a 17 (wr ((s11 a 17) + 1))) fun s13 => jn (fun (y14 : Int) => jn (fun (y15 : Int) => lm (mup s13 a 18 y15) fun s16 => some (0, s16)) fun j303 => if y14 = 0 then (j303 1) else (j303 (wr (100 + r3)))) fun j289 => jn (fun (_ : Unit) => j289 1) fun j284 => if r3 = 59 then (j284 ()) else (if r3 = 43 then (j284 ()) else (if r3 = 45 then (j284 ()) else (if r3 = 42 then (j284 ()) else (if r3 = 47 then (j284 ()) else (if r3 = 40 then (j284 ()) else (if r3 = 41 then (j284 ()) else (if r3 = 60 then (j284 ()) else (if r3 = 61 then (j284 ()) else (if r3 = 62 then (j284 ()) else (j289 0))))))))))) else (lm (mup s11 a 20 0) fun s28 => jn (fun (s29 : Mem) => jn (fun (y30 : Int) => lm (mup s29 a 18 y30) fun s31 => some (0, s31)) fun j208 => if wr ((s29 a 17) - (s29 a 19)) < 5 then (j208 2) else (j208 1)) fun j189 => f_X12_next0_126 a j189 FU s28)) else (jn (fun (s44 : Mem) => bd (f_X12_word a s44) fun r45 s46 => lm (mup s46 a 18 r45) fun s47 => some (0, s47)) fun j103 => f_X12_next0_76 a j103 FU s8))) fun j39 => f_X12_next0_0 a j39 FU s0
set_option maxHeartbeats 4000000 in
set_option maxRecDepth 10000 in
theorem l_X12_next0_126 (κ : Kp) (a : Nat) (hA : At12 κ a) (k189 : Mem → Res) (hk189 : ∀ (sz : Mem) (w_sz : WF sz), EO κ M_X12_next0 R_X12_next0 189 [some (vr κ a), none, none] [] sz (k189 sz)) : ∀ (n : Nat) (s0 : Mem) (w_s0 : WF s0), EO κ M_X12_next0 R_X12_next0 126 [some (vr κ a), none, none] [] s0 (f_X12_next0_126 a k189 n s0) := by
  intro n
  induction n with
  | zero => exact fun _ _ => q_none
  | succ n ih =>
    intro s0 w_s0
    rw [f_X12_next0_126]
    refine q_aload_n d_X12_next0_126 rfl ?_
    refine q_aload_n d_X12_next0_127 rfl ?_
    refine q_getI (k := 17) (j := 17) d_X12_next0_128 hA.1 fi_12_88 rfl rfl ?_
    refine q_callI (R' := R_X12_see) (runV (As := [vi (s0 a 17)]) (rest := []) d_X12_next0_131.1 cv_12_176 rfl hA.1 rfl rfl ⟨rfl, rfl, by decide, by decide⟩ (Nat.le_of_ble_eq_true rfl) w_s0 rfl) d_X12_next0_131.2 (c_X12_see κ a hA (s0 a 17) (w_s0 _ _) s0) rfl (fun r33 s34 h_r33 w_s34 => ?_)
    refine q_callZ (R' := R_X12_isDigit) (runS (As := [vi r33]) (rest := []) d_X12_next0_134.1 cv_12_189 rfl ⟨rfl, rfl, by decide, by decide⟩ (Nat.le_of_ble_eq_true rfl) w_s34 rfl) d_X12_next0_134.2 (c_X12_isDigit κ r33 h_r33 s34) rfl (fun r35 s36 h_r35 w_s36 => ?_)
    refine q_if_eq d_X12_next0_137 (inr_b h_r35) (fun c37 => ?_) (fun c37 => ?_)
    · refine q_sub (ls' := [some (vr κ a), none, none]) ⟨rfl, trivial⟩ ?_
      exact hk189 s36 w_s36
    · refine q_aload_n d_X12_next0_140 rfl ?_
      refine q_getI (k := 17) (j := 17) d_X12_next0_141 hA.1 fi_12_88 rfl rfl ?_
      refine q_aload_n d_X12_next0_144 rfl ?_
      refine q_getI (k := 19) (j := 19) d_X12_next0_145 hA.1 fi_12_91 rfl rfl ?_
      refine q_iconst d_X12_next0_148 ?_
      refine q_iadd d_X12_next0_149 ?_
      refine q_jn (α := Mem → Res) (fun j176 => ∀ (s38 : Mem) (w_s38 : WF s38), EO κ M_X12_next0 R_X12_next0 176 [some (vr κ a), none, none] [] s38 (j176 s38)) ?_ (fun j176 hj176 => ?_)
      · intro s38 w_s38
        refine q_aload_n d_X12_next0_176 rfl ?_
        refine q_dup d_X12_next0_177 rfl ?_
        refine q_getI (k := 17) (j := 17) d_X12_next0_178 hA.1 fi_12_88 rfl rfl ?_
        refine q_iconst d_X12_next0_181 ?_
        refine q_iadd d_X12_next0_182 ?_
        refine q_putI (k := 17) (j := 17) d_X12_next0_183 hA.1 fp_12_88 rfl rfl (inr_wr _) w_s38 (fun s39 w_s39 => ?_)
        refine q_goto d_X12_next0_186 ?_
        refine q_sub (ls' := [some (vr κ a), none, none]) ⟨rfl, trivial⟩ ?_
        exact ih s39 w_s39
      refine q_icmp_ge d_X12_next0_150 (w_s36 _ _) (inr_wr _) (fun c40 => ?_) (fun c40 => ?_)
      · refine q_aload_n d_X12_next0_153 rfl ?_
        refine q_bipush d_X12_next0_154 rfl ?_
        refine q_aload_n d_X12_next0_156 rfl ?_
        refine q_getI (k := 20) (j := 20) d_X12_next0_157 hA.1 fi_12_192 rfl rfl ?_
        refine q_imul d_X12_next0_160 ?_
        refine q_aload_n d_X12_next0_161 rfl ?_
        refine q_aload_n d_X12_next0_162 rfl ?_
        refine q_getI (k := 17) (j := 17) d_X12_next0_163 hA.1 fi_12_88 rfl rfl ?_
        refine q_callI (R' := R_X12_see) (runV (As := [vi (s36 a 17)]) (rest := [vi (wr (10 * (s36 a 20))), vr κ a]) d_X12_next0_166.1 cv_12_176 rfl hA.1 rfl rfl ⟨rfl, rfl, by decide, by decide⟩ (Nat.le_of_ble_eq_true rfl) w_s36 rfl) d_X12_next0_166.2 (c_X12_see κ a hA (s36 a 17) (w_s36 _ _) s36) rfl (fun r41 s42 h_r41 w_s42 => ?_)
        refine q_iadd d_X12_next0_169 ?_
        refine q_bipush d_X12_next0_170 rfl ?_
        refine q_isub d_X12_next0_172 ?_
        refine q_putI (k := 20) (j := 20) d_X12_next0_173 hA.1 fp_12_192 rfl rfl (inr_wr _) w_s42 (fun s43 w_s43 => ?_)
        refine q_sub (ls' := [some (vr κ a), none, none]) ⟨rfl, trivial⟩ ?_
        exact hj176 s43 w_s43
      · refine q_sub (ls' := [some (vr κ a), none, none]) ⟨rfl, trivial⟩ ?_
        exact hj176 s36 w_s36
set_option maxHeartbeats 4000000 in
set_option maxRecDepth 10000 in
theorem l_X12_next0_76 (κ : Kp) (a : Nat) (hA : At12 κ a) (k103 : Mem → Res) (hk103 : ∀ (sz : Mem) (w_sz : WF sz), EO κ M_X12_next0 R_X12_next0 103 [some (vr κ a), none, none] [] sz (k103 sz)) : ∀ (n : Nat) (s0 : Mem) (w_s0 : WF s0), EO κ M_X12_next0 R_X12_next0 76 [some (vr κ a), none, none] [] s0 (f_X12_next0_76 a k103 n s0) := by
  intro n
  induction n with
  | zero => exact fun _ _ => q_none
  | succ n ih =>
    intro s0 w_s0
    rw [f_X12_next0_76]
    refine q_aload_n d_X12_next0_76 rfl ?_
    refine q_aload_n d_X12_next0_77 rfl ?_
    refine q_getI (k := 17) (j := 17) d_X12_next0_78 hA.1 fi_12_88 rfl rfl ?_
    refine q_callI (R' := R_X12_see) (runV (As := [vi (s0 a 17)]) (rest := []) d_X12_next0_81.1 cv_12_176 rfl hA.1 rfl rfl ⟨rfl, rfl, by decide, by decide⟩ (Nat.le_of_ble_eq_true rfl) w_s0 rfl) d_X12_next0_81.2 (c_X12_see κ a hA (s0 a 17) (w_s0 _ _) s0) rfl (fun r48 s49 h_r48 w_s49 => ?_)
    refine q_callZ (R' := R_X12_isLetter) (runS (As := [vi r48]) (rest := []) d_X12_next0_84.1 cv_12_183 rfl ⟨rfl, rfl, by decide, by decide⟩ (Nat.le_of_ble_eq_true rfl) w_s49 rfl) d_X12_next0_84.2 (c_X12_isLetter κ r48 h_r48 s49) rfl (fun r50 s51 h_r50 w_s51 => ?_)
    refine q_if_eq d_X12_next0_87 (inr_b h_r50) (fun c52 => ?_) (fun c52 => ?_)
    · refine q_sub (ls' := [some (vr κ a), none, none]) ⟨rfl, trivial⟩ ?_
      exact hk103 s51 w_s51
    · refine q_aload_n d_X12_next0_90 rfl ?_
      refine q_dup d_X12_next0_91 rfl ?_
      refine q_getI (k := 17) (j := 17) d_X12_next0_92 hA.1 fi_12_88 rfl rfl ?_
      refine q_iconst d_X12_next0_95 ?_
      refine q_iadd d_X12_next0_96 ?_
      refine q_putI (k := 17) (j := 17) d_X12_next0_97 hA.1 fp_12_88 rfl rfl (inr_wr _) w_s51 (fun s53 w_s53 => ?_)
      refine q_goto d_X12_next0_100 ?_
      refine q_sub (ls' := [some (vr κ a), none, none]) ⟨rfl, trivial⟩ ?_
      exact ih s53 w_s53
set_option maxHeartbeats 4000000 in
set_option maxRecDepth 10000 in
theorem l_X12_next0_0 (κ : Kp) (a : Nat) (hA : At12 κ a) (k39 : Mem → Res) (hk39 : ∀ (sz : Mem) (w_sz : WF sz), EO κ M_X12_next0 R_X12_next0 39 [some (vr κ a), none, none] [] sz (k39 sz)) : ∀ (n : Nat) (s0 : Mem) (w_s0 : WF s0), EO κ M_X12_next0 R_X12_next0 0 [some (vr κ a), none, none] [] s0 (f_X12_next0_0 a k39 n s0) := by
  intro n
  induction n with
  | zero => exact fun _ _ => q_none
  | succ n ih =>
    intro s0 w_s0
    rw [f_X12_next0_0]
    refine q_aload_n d_X12_next0_0 rfl ?_
    refine q_aload_n d_X12_next0_1 rfl ?_
    refine q_getI (k := 17) (j := 17) d_X12_next0_2 hA.1 fi_12_88 rfl rfl ?_
    refine q_callI (R' := R_X12_see) (runV (As := [vi (s0 a 17)]) (rest := []) d_X12_next0_5.1 cv_12_176 rfl hA.1 rfl rfl ⟨rfl, rfl, by decide, by decide⟩ (Nat.le_of_ble_eq_true rfl) w_s0 rfl) d_X12_next0_5.2 (c_X12_see κ a hA (s0 a 17) (w_s0 _ _) s0) rfl (fun r54 s55 h_r54 w_s55 => ?_)
    refine q_bipush d_X12_next0_8 rfl ?_
    refine q_jn (α := Mem → Res) (fun j26 => ∀ (s56 : Mem) (w_s56 : WF s56), EO κ M_X12_next0 R_X12_next0 26 [some (vr κ a), none, none] [] s56 (j26 s56)) ?_ (fun j26 hj26 => ?_)
    · intro s56 w_s56
      refine q_aload_n d_X12_next0_26 rfl ?_
      refine q_dup d_X12_next0_27 rfl ?_
      refine q_getI (k := 17) (j := 17) d_X12_next0_28 hA.1 fi_12_88 rfl rfl ?_
      refine q_iconst d_X12_next0_31 ?_
      refine q_iadd d_X12_next0_32 ?_
      refine q_putI (k := 17) (j := 17) d_X12_next0_33 hA.1 fp_12_88 rfl rfl (inr_wr _) w_s56 (fun s57 w_s57 => ?_)
      refine q_goto d_X12_next0_36 ?_
      refine q_sub (ls' := [some (vr κ a), none, none]) ⟨rfl, trivial⟩ ?_
      exact ih s57 w_s57
    refine q_icmp_eq d_X12_next0_10 h_r54 (inr_d rfl) (fun c58 => ?_) (fun c58 => ?_)
    · refine q_sub (ls' := [some (vr κ a), none, none]) ⟨rfl, trivial⟩ ?_
      exact hj26 s55 w_s55
    · refine q_aload_n d_X12_next0_13 rfl ?_
      refine q_aload_n d_X12_next0_14 rfl ?_
      refine q_getI (k := 17) (j := 17) d_X12_next0_15 hA.1 fi_12_88 rfl rfl ?_
      refine q_callI (R' := R_X12_see) (runV (As := [vi (s55 a 17)]) (rest := []) d_X12_next0_18.1 cv_12_176 rfl hA.1 rfl rfl ⟨rfl, rfl, by decide, by decide⟩ (Nat.le_of_ble_eq_true rfl) w_s55 rfl) d_X12_next0_18.2 (c_X12_see κ a hA (s55 a 17) (w_s55 _ _) s55) rfl (fun r59 s60 h_r59 w_s60 => ?_)
      refine q_bipush d_X12_next0_21 rfl ?_
      refine q_icmp_ne d_X12_next0_23 h_r59 (inr_d rfl) (fun c61 => ?_) (fun c61 => ?_)
      · refine q_sub (ls' := [some (vr κ a), none, none]) ⟨rfl, trivial⟩ ?_
        exact hj26 s60 w_s60
      · refine q_sub (ls' := [some (vr κ a), none, none]) ⟨rfl, trivial⟩ ?_
        exact hk39 s60 w_s60
set_option maxHeartbeats 4000000 in
set_option maxRecDepth 10000 in
theorem c_X12_next0 (κ : Kp) (a : Nat) (hA : At12 κ a) (s0 : Mem) : ∀ r σ', f_X12_next0 a s0 = some (r, σ') → Ct κ M_X12_next0 R_X12_next0 [vr κ a] s0 r σ' := by
  intro r σ' ho
  refine Ct.of (by decide) (Nat.le_of_ble_eq_true rfl) (cat_ok rfl) (fun w_s0 => ?_) ⟨rfl, rfl⟩
  refine q_ent (ls' := [some (vr κ a), none, none]) (o := f_X12_next0 a s0) ⟨rfl, trivial⟩ ?_ ho
  unfold f_X12_next0
  refine q_jn (α := Mem → Res) (fun j39 => ∀ (s1 : Mem) (w_s1 : WF s1), EO κ M_X12_next0 R_X12_next0 39 [some (vr κ a), none, none] [] s1 (j39 s1)) ?_ (fun j39 hj39 => ?_)
  · intro s1 w_s1
    refine q_aload_n d_X12_next0_39 rfl ?_
    refine q_aload_n d_X12_next0_40 rfl ?_
    refine q_getI (k := 17) (j := 17) d_X12_next0_41 hA.1 fi_12_88 rfl rfl ?_
    refine q_putI (k := 19) (j := 19) d_X12_next0_44 hA.1 fp_12_91 rfl rfl (w_s1 _ _) w_s1 (fun s2 w_s2 => ?_)
    refine q_aload_n d_X12_next0_47 rfl ?_
    refine q_aload_n d_X12_next0_48 rfl ?_
    refine q_getI (k := 17) (j := 17) d_X12_next0_49 hA.1 fi_12_88 rfl rfl ?_
    refine q_callI (R' := R_X12_see) (runV (As := [vi (s2 a 17)]) (rest := []) d_X12_next0_52.1 cv_12_176 rfl hA.1 rfl rfl ⟨rfl, rfl, by decide, by decide⟩ (Nat.le_of_ble_eq_true rfl) w_s2 rfl) d_X12_next0_52.2 (c_X12_see κ a hA (s2 a 17) (w_s2 _ _) s2) rfl (fun r3 s4 h_r3 w_s4 => ?_)
    refine q_istore_n d_X12_next0_55 rfl ?_
    refine q_iload_n (x := r3) d_X12_next0_56 rfl ?_
    refine q_iconst d_X12_next0_57 ?_
    refine q_icmp_ne d_X12_next0_58 h_r3 (inr_d rfl) (fun c5 => ?_) (fun c5 => ?_)
    · refine q_aload_n d_X12_next0_61 rfl ?_
      refine q_iconst d_X12_next0_62 ?_
      refine q_putI (k := 18) (j := 18) d_X12_next0_63 hA.1 fp_12_180 rfl rfl (inr_b (Or.inl rfl)) w_s4 (fun s6 w_s6 => ?_)
      refine q_goto d_X12_next0_66 ?_
      exact q_vret d_X12_next0_306 rfl w_s6
    · refine q_iload_n (x := r3) d_X12_next0_69 rfl ?_
      refine q_callZ (R' := R_X12_isLetter) (runS (As := [vi r3]) (rest := []) d_X12_next0_70.1 cv_12_183 rfl ⟨rfl, rfl, by decide, by decide⟩ (Nat.le_of_ble_eq_true rfl) w_s4 rfl) d_X12_next0_70.2 (c_X12_isLetter κ r3 h_r3 s4) rfl (fun r7 s8 h_r7 w_s8 => ?_)
      refine q_if_eq d_X12_next0_73 (inr_b h_r7) (fun c9 => ?_) (fun c9 => ?_)
      · refine q_iload_n (x := r3) d_X12_next0_114 rfl ?_
        refine q_callZ (R' := R_X12_isDigit) (runS (As := [vi r3]) (rest := []) d_X12_next0_115.1 cv_12_189 rfl ⟨rfl, rfl, by decide, by decide⟩ (Nat.le_of_ble_eq_true rfl) w_s8 rfl) d_X12_next0_115.2 (c_X12_isDigit κ r3 h_r3 s8) rfl (fun r10 s11 h_r10 w_s11 => ?_)
        refine q_if_eq d_X12_next0_118 (inr_b h_r10) (fun c12 => ?_) (fun c12 => ?_)
        · refine q_aload_n d_X12_next0_214 rfl ?_
          refine q_dup d_X12_next0_215 rfl ?_
          refine q_getI (k := 17) (j := 17) d_X12_next0_216 hA.1 fi_12_88 rfl rfl ?_
          refine q_iconst d_X12_next0_219 ?_
          refine q_iadd d_X12_next0_220 ?_
          refine q_putI (k := 17) (j := 17) d_X12_next0_221 hA.1 fp_12_88 rfl rfl (inr_wr _) w_s11 (fun s13 w_s13 => ?_)
          refine q_iload_n (x := r3) d_X12_next0_224 rfl ?_
          refine q_bipush d_X12_next0_225 rfl ?_
          refine q_jn (α := Int → Res) (fun j289 => ∀ (y14 : Int) (h_y14 : y14 = 0 ∨ y14 = 1), EO κ M_X12_next0 R_X12_next0 289 [some (vr κ a), some (vi r3), none] [vi y14] s13 (j289 y14)) ?_ (fun j289 hj289 => ?_)
          · intro y14 h_y14
            refine q_istore_n d_X12_next0_289 rfl ?_
            refine q_aload_n d_X12_next0_290 rfl ?_
            refine q_iload_n (x := y14) d_X12_next0_291 rfl ?_
            refine q_jn (α := Int → Res) (fun j303 => ∀ (y15 : Int) (h_y15 : InR y15), EO κ M_X12_next0 R_X12_next0 303 [none, none, none] [vi y15, vr κ a] s13 (j303 y15)) ?_ (fun j303 hj303 => ?_)
            · intro y15 h_y15
              refine q_putI (k := 18) (j := 18) d_X12_next0_303 hA.1 fp_12_180 rfl rfl h_y15 w_s13 (fun s16 w_s16 => ?_)
              exact q_vret d_X12_next0_306 rfl w_s16
            refine q_if_eq d_X12_next0_292 (inr_b h_y14) (fun c17 => ?_) (fun c17 => ?_)
            · refine q_iconst d_X12_next0_302 ?_
              refine q_sub (ls' := [none, none, none]) trivial ?_
              exact hj303 1 (inr_b (Or.inr rfl))
            · refine q_bipush d_X12_next0_295 rfl ?_
              refine q_iload_n (x := r3) d_X12_next0_297 rfl ?_
              refine q_iadd d_X12_next0_298 ?_
              refine q_goto d_X12_next0_299 ?_
              refine q_sub (ls' := [none, none, none]) trivial ?_
              exact hj303 (wr (100 + r3)) (inr_wr _)
          refine q_jn (α := Unit → Res) (fun j284 => EO κ M_X12_next0 R_X12_next0 284 [some (vr κ a), some (vi r3), none] [] s13 (j284 ())) ?_ (fun j284 hj284 => ?_)
          · refine q_iconst d_X12_next0_284 ?_
            refine q_goto d_X12_next0_285 ?_
            refine q_sub (ls' := [some (vr κ a), some (vi r3), none]) ⟨rfl, rfl, trivial⟩ ?_
            exact hj289 1 (Or.inr rfl)
          refine q_icmp_eq d_X12_next0_227 h_r3 (inr_d rfl) (fun c18 => ?_) (fun c18 => ?_)
          · refine q_sub (ls' := [some (vr κ a), some (vi r3), none]) ⟨rfl, rfl, trivial⟩ ?_
            exact hj284 
          · refine q_iload_n (x := r3) d_X12_next0_230 rfl ?_
            refine q_bipush d_X12_next0_231 rfl ?_
            refine q_icmp_eq d_X12_next0_233 h_r3 (inr_d rfl) (fun c19 => ?_) (fun c19 => ?_)
            · refine q_sub (ls' := [some (vr κ a), some (vi r3), none]) ⟨rfl, rfl, trivial⟩ ?_
              exact hj284 
            · refine q_iload_n (x := r3) d_X12_next0_236 rfl ?_
              refine q_bipush d_X12_next0_237 rfl ?_
              refine q_icmp_eq d_X12_next0_239 h_r3 (inr_d rfl) (fun c20 => ?_) (fun c20 => ?_)
              · refine q_sub (ls' := [some (vr κ a), some (vi r3), none]) ⟨rfl, rfl, trivial⟩ ?_
                exact hj284 
              · refine q_iload_n (x := r3) d_X12_next0_242 rfl ?_
                refine q_bipush d_X12_next0_243 rfl ?_
                refine q_icmp_eq d_X12_next0_245 h_r3 (inr_d rfl) (fun c21 => ?_) (fun c21 => ?_)
                · refine q_sub (ls' := [some (vr κ a), some (vi r3), none]) ⟨rfl, rfl, trivial⟩ ?_
                  exact hj284 
                · refine q_iload_n (x := r3) d_X12_next0_248 rfl ?_
                  refine q_bipush d_X12_next0_249 rfl ?_
                  refine q_icmp_eq d_X12_next0_251 h_r3 (inr_d rfl) (fun c22 => ?_) (fun c22 => ?_)
                  · refine q_sub (ls' := [some (vr κ a), some (vi r3), none]) ⟨rfl, rfl, trivial⟩ ?_
                    exact hj284 
                  · refine q_iload_n (x := r3) d_X12_next0_254 rfl ?_
                    refine q_bipush d_X12_next0_255 rfl ?_
                    refine q_icmp_eq d_X12_next0_257 h_r3 (inr_d rfl) (fun c23 => ?_) (fun c23 => ?_)
                    · refine q_sub (ls' := [some (vr κ a), some (vi r3), none]) ⟨rfl, rfl, trivial⟩ ?_
                      exact hj284 
                    · refine q_iload_n (x := r3) d_X12_next0_260 rfl ?_
                      refine q_bipush d_X12_next0_261 rfl ?_
                      refine q_icmp_eq d_X12_next0_263 h_r3 (inr_d rfl) (fun c24 => ?_) (fun c24 => ?_)
                      · refine q_sub (ls' := [some (vr κ a), some (vi r3), none]) ⟨rfl, rfl, trivial⟩ ?_
                        exact hj284 
                      · refine q_iload_n (x := r3) d_X12_next0_266 rfl ?_
                        refine q_bipush d_X12_next0_267 rfl ?_
                        refine q_icmp_eq d_X12_next0_269 h_r3 (inr_d rfl) (fun c25 => ?_) (fun c25 => ?_)
                        · refine q_sub (ls' := [some (vr κ a), some (vi r3), none]) ⟨rfl, rfl, trivial⟩ ?_
                          exact hj284 
                        · refine q_iload_n (x := r3) d_X12_next0_272 rfl ?_
                          refine q_bipush d_X12_next0_273 rfl ?_
                          refine q_icmp_eq d_X12_next0_275 h_r3 (inr_d rfl) (fun c26 => ?_) (fun c26 => ?_)
                          · refine q_sub (ls' := [some (vr κ a), some (vi r3), none]) ⟨rfl, rfl, trivial⟩ ?_
                            exact hj284 
                          · refine q_iload_n (x := r3) d_X12_next0_278 rfl ?_
                            refine q_bipush d_X12_next0_279 rfl ?_
                            refine q_icmp_ne d_X12_next0_281 h_r3 (inr_d rfl) (fun c27 => ?_) (fun c27 => ?_)
                            · refine q_sub (ls' := [some (vr κ a), some (vi r3), none]) ⟨rfl, rfl, trivial⟩ ?_
                              exact hj284 
                            · refine q_iconst d_X12_next0_288 ?_
                              refine q_sub (ls' := [some (vr κ a), some (vi r3), none]) ⟨rfl, rfl, trivial⟩ ?_
                              exact hj289 0 (Or.inl rfl)
        · refine q_aload_n d_X12_next0_121 rfl ?_
          refine q_iconst d_X12_next0_122 ?_
          refine q_putI (k := 20) (j := 20) d_X12_next0_123 hA.1 fp_12_192 rfl rfl (inr_b (Or.inl rfl)) w_s11 (fun s28 w_s28 => ?_)
          refine q_jn (α := Mem → Res) (fun j189 => ∀ (s29 : Mem) (w_s29 : WF s29), EO κ M_X12_next0 R_X12_next0 189 [some (vr κ a), none, none] [] s29 (j189 s29)) ?_ (fun j189 hj189 => ?_)
          · intro s29 w_s29
            refine q_aload_n d_X12_next0_189 rfl ?_
            refine q_aload_n d_X12_next0_190 rfl ?_
            refine q_getI (k := 17) (j := 17) d_X12_next0_191 hA.1 fi_12_88 rfl rfl ?_
            refine q_aload_n d_X12_next0_194 rfl ?_
            refine q_getI (k := 19) (j := 19) d_X12_next0_195 hA.1 fi_12_91 rfl rfl ?_
            refine q_isub d_X12_next0_198 ?_
            refine q_iconst d_X12_next0_199 ?_
            refine q_jn (α := Int → Res) (fun j208 => ∀ (y30 : Int) (h_y30 : InR y30), EO κ M_X12_next0 R_X12_next0 208 [none, none, none] [vi y30, vr κ a] s29 (j208 y30)) ?_ (fun j208 hj208 => ?_)
            · intro y30 h_y30
              refine q_putI (k := 18) (j := 18) d_X12_next0_208 hA.1 fp_12_180 rfl rfl h_y30 w_s29 (fun s31 w_s31 => ?_)
              refine q_goto d_X12_next0_211 ?_
              exact q_vret d_X12_next0_306 rfl w_s31
            refine q_icmp_ge d_X12_next0_200 (inr_wr _) (inr_d rfl) (fun c32 => ?_) (fun c32 => ?_)
            · refine q_iconst d_X12_next0_203 ?_
              refine q_goto d_X12_next0_204 ?_
              refine q_sub (ls' := [none, none, none]) trivial ?_
              exact hj208 2 (inr_d rfl)
            · refine q_iconst d_X12_next0_207 ?_
              refine q_sub (ls' := [none, none, none]) trivial ?_
              exact hj208 1 (inr_b (Or.inr rfl))
          refine q_sub (ls' := [some (vr κ a), none, none]) ⟨rfl, trivial⟩ ?_
          exact l_X12_next0_126 κ a hA j189 hj189 FU s28 w_s28
      · refine q_jn (α := Mem → Res) (fun j103 => ∀ (s44 : Mem) (w_s44 : WF s44), EO κ M_X12_next0 R_X12_next0 103 [some (vr κ a), none, none] [] s44 (j103 s44)) ?_ (fun j103 hj103 => ?_)
        · intro s44 w_s44
          refine q_aload_n d_X12_next0_103 rfl ?_
          refine q_aload_n d_X12_next0_104 rfl ?_
          refine q_callI (R' := R_X12_word) (runV (As := []) (rest := [vr κ a]) d_X12_next0_105.1 cv_12_186 rfl hA.1 rfl rfl ⟨rfl, rfl, by decide, by decide⟩ (Nat.le_of_ble_eq_true rfl) w_s44 rfl) d_X12_next0_105.2 (c_X12_word κ a hA s44) rfl (fun r45 s46 h_r45 w_s46 => ?_)
          refine q_putI (k := 18) (j := 18) d_X12_next0_108 hA.1 fp_12_180 rfl rfl h_r45 w_s46 (fun s47 w_s47 => ?_)
          refine q_goto d_X12_next0_111 ?_
          exact q_vret d_X12_next0_306 rfl w_s47
        refine q_sub (ls' := [some (vr κ a), none, none]) ⟨rfl, trivial⟩ ?_
        exact l_X12_next0_76 κ a hA j103 hj103 FU s8 w_s8
  refine q_sub (ls' := [some (vr κ a), none, none]) ⟨rfl, trivial⟩ ?_
  exact l_X12_next0_0 κ a hA j39 hj39 FU s0 w_s0
abbrev R_X12_bad : Room := { frames := 0, cells := 0, slots := 0, locals := 0 }
noncomputable def f_X12_bad (a : Nat) (x1 : Int) (s0 : Mem) : Res :=
  lm (mup s0 a 21 x1) fun s1 => lm (mup s1 a 22 (s1 a 19)) fun s2 => some (0, s2)
set_option maxHeartbeats 4000000 in
set_option maxRecDepth 10000 in
theorem c_X12_bad (κ : Kp) (a : Nat) (hA : At12 κ a) (x1 : Int) (h_x1 : InR x1) (s0 : Mem) : ∀ r σ', f_X12_bad a x1 s0 = some (r, σ') → Ct κ M_X12_bad R_X12_bad [vr κ a, vi x1] s0 r σ' := by
  intro r σ' ho
  refine Ct.of (by decide) (Nat.le_of_ble_eq_true rfl) (cat_ok rfl) (fun w_s0 => ?_) ⟨rfl, rfl⟩
  refine q_ent (ls' := [some (vr κ a), some (vi x1)]) (o := f_X12_bad a x1 s0) ⟨rfl, rfl, trivial⟩ ?_ ho
  unfold f_X12_bad
  refine q_aload_n d_X12_bad_0 rfl ?_
  refine q_iload_n (x := x1) d_X12_bad_1 rfl ?_
  refine q_putI (k := 21) (j := 21) d_X12_bad_2 hA.1 fp_12_195 rfl rfl h_x1 w_s0 (fun s1 w_s1 => ?_)
  refine q_aload_n d_X12_bad_5 rfl ?_
  refine q_aload_n d_X12_bad_6 rfl ?_
  refine q_getI (k := 19) (j := 19) d_X12_bad_7 hA.1 fi_12_91 rfl rfl ?_
  refine q_putI (k := 22) (j := 22) d_X12_bad_10 hA.1 fp_12_198 rfl rfl (w_s1 _ _) w_s1 (fun s2 w_s2 => ?_)
  refine q_iconst d_X12_bad_13 ?_
  exact q_iretz d_X12_bad_14 rfl (Or.inl rfl) w_s2
abbrev R_X12_need : Room := { frames := 9, cells := 0, slots := 0, locals := 190 }
noncomputable def f_X12_need (a : Nat) (x1 : Int) (s0 : Mem) : Res :=
  if s0 a 18 = x1 then (bd (f_X12_next0 a s0) fun r2 s3 => some (1, s3)) else (bd (f_X12_bad a 1 s0) fun r4 s5 => some (r4, s5))
set_option maxHeartbeats 4000000 in
set_option maxRecDepth 10000 in
theorem c_X12_need (κ : Kp) (a : Nat) (hA : At12 κ a) (x1 : Int) (h_x1 : InR x1) (s0 : Mem) : ∀ r σ', f_X12_need a x1 s0 = some (r, σ') → Ct κ M_X12_need R_X12_need [vr κ a, vi x1] s0 r σ' := by
  intro r σ' ho
  refine Ct.of (by decide) (Nat.le_of_ble_eq_true rfl) (cat_ok rfl) (fun w_s0 => ?_) ⟨rfl, rfl⟩
  refine q_ent (ls' := [some (vr κ a), some (vi x1)]) (o := f_X12_need a x1 s0) ⟨rfl, rfl, trivial⟩ ?_ ho
  unfold f_X12_need
  refine q_aload_n d_X12_need_0 rfl ?_
  refine q_getI (k := 18) (j := 18) d_X12_need_1 hA.1 fi_12_180 rfl rfl ?_
  refine q_iload_n (x := x1) d_X12_need_4 rfl ?_
  refine q_icmp_eq d_X12_need_5 (w_s0 _ _) h_x1 (fun c1 => ?_) (fun c1 => ?_)
  · refine q_aload_n d_X12_need_14 rfl ?_
    refine q_callV (R' := R_X12_next0) (runV (As := []) (rest := []) d_X12_need_15.1 cv_12_204 rfl hA.1 rfl rfl ⟨rfl, rfl, by decide, by decide⟩ (Nat.le_of_ble_eq_true rfl) w_s0 rfl) d_X12_need_15.2 (c_X12_next0 κ a hA s0) rfl (fun r2 s3 w_s3 => ?_)
    refine q_iconst d_X12_need_18 ?_
    exact q_iretz d_X12_need_19 rfl (Or.inr rfl) w_s3
  · refine q_aload_n d_X12_need_8 rfl ?_
    refine q_iconst d_X12_need_9 ?_
    refine q_callZ (R' := R_X12_bad) (runV (As := [vi 1]) (rest := []) d_X12_need_10.1 cv_12_201 rfl hA.1 rfl rfl ⟨rfl, rfl, by decide, by decide⟩ (Nat.le_of_ble_eq_true rfl) w_s0 rfl) d_X12_need_10.2 (c_X12_bad κ a hA 1 (inr_b (Or.inr rfl)) s0) rfl (fun r4 s5 h_r4 w_s5 => ?_)
    exact q_iretz d_X12_need_13 rfl h_r4 w_s5
abbrev R_X12_lay : Room := { frames := 0, cells := 0, slots := 0, locals := 0 }
noncomputable def f_X12_lay (a : Nat) (x1 : Int) (x2 : Int) (s0 : Mem) : Res :=
  gd ((0 : Int) ≤ wr (2 * (s0 a 14)) ∧ wr (2 * (s0 a 14)) < 820) (lm (mup s0 (a + 6) (wr (2 * (s0 a 14))) x1) fun s2 => gd ((0 : Int) ≤ wr ((wr (2 * (s2 a 14))) + 1) ∧ wr ((wr (2 * (s2 a 14))) + 1) < 820) (lm (mup s2 (a + 6) (wr ((wr (2 * (s2 a 14))) + 1)) x2) fun s4 => lm (mup s4 a 14 (wr ((s4 a 14) + 1))) fun s5 => some (0, s5)))
set_option maxHeartbeats 4000000 in
set_option maxRecDepth 10000 in
theorem c_X12_lay (κ : Kp) (a : Nat) (hA : At12 κ a) (x1 : Int) (h_x1 : InR x1) (x2 : Int) (h_x2 : InR x2) (s0 : Mem) : ∀ r σ', f_X12_lay a x1 x2 s0 = some (r, σ') → Ct κ M_X12_lay R_X12_lay [vr κ a, vi x1, vi x2] s0 r σ' := by
  intro r σ' ho
  refine Ct.of (by decide) (Nat.le_of_ble_eq_true rfl) (cat_ok rfl) (fun w_s0 => ?_) ⟨rfl, rfl⟩
  refine q_ent (ls' := [some (vr κ a), some (vi x1), some (vi x2)]) (o := f_X12_lay a x1 x2 s0) ⟨rfl, rfl, rfl, trivial⟩ ?_ ho
  unfold f_X12_lay
  refine q_aload_n d_X12_lay_0 rfl ?_
  refine q_getR (n := 6) d_X12_lay_1 hA.1 fi_12_25 rfl (Nat.le_of_ble_eq_true rfl) ?_
  refine q_iconst d_X12_lay_4 ?_
  refine q_aload_n d_X12_lay_5 rfl ?_
  refine q_getI (k := 14) (j := 14) d_X12_lay_6 hA.1 fi_12_207 rfl rfl ?_
  refine q_imul d_X12_lay_9 ?_
  refine q_iload_n (x := x1) d_X12_lay_10 rfl ?_
  refine q_iastore (m := 820) d_X12_lay_11 hA.2.2.2.2.2.2.1 (by decide) rfl h_x1 w_s0 (fun g1 s2 w_s2 => ?_)
  refine q_aload_n d_X12_lay_12 rfl ?_
  refine q_getR (n := 6) d_X12_lay_13 hA.1 fi_12_25 rfl (Nat.le_of_ble_eq_true rfl) ?_
  refine q_iconst d_X12_lay_16 ?_
  refine q_aload_n d_X12_lay_17 rfl ?_
  refine q_getI (k := 14) (j := 14) d_X12_lay_18 hA.1 fi_12_207 rfl rfl ?_
  refine q_imul d_X12_lay_21 ?_
  refine q_iconst d_X12_lay_22 ?_
  refine q_iadd d_X12_lay_23 ?_
  refine q_iload_n (x := x2) d_X12_lay_24 rfl ?_
  refine q_iastore (m := 820) d_X12_lay_25 hA.2.2.2.2.2.2.1 (by decide) rfl h_x2 w_s2 (fun g3 s4 w_s4 => ?_)
  refine q_aload_n d_X12_lay_26 rfl ?_
  refine q_dup d_X12_lay_27 rfl ?_
  refine q_getI (k := 14) (j := 14) d_X12_lay_28 hA.1 fi_12_207 rfl rfl ?_
  refine q_iconst d_X12_lay_31 ?_
  refine q_iadd d_X12_lay_32 ?_
  refine q_putI (k := 14) (j := 14) d_X12_lay_33 hA.1 fp_12_207 rfl rfl (inr_wr _) w_s4 (fun s5 w_s5 => ?_)
  exact q_vret d_X12_lay_36 rfl w_s5
abbrev R_X12_opens : Room := { frames := 9, cells := 0, slots := 0, locals := 190 }
noncomputable def f_X12_opens (a : Nat) (s0 : Mem) : Res :=
  if s0 a 24 = 8 then (bd (f_X12_bad a 3 s0) fun r2 s3 => some (r2, s3)) else (lm (mup s0 a 24 (wr ((s0 a 24) + 1))) fun s4 => bd (f_X12_next0 a s4) fun r5 s6 => some (1, s6))
set_option maxHeartbeats 4000000 in
set_option maxRecDepth 10000 in
theorem c_X12_opens (κ : Kp) (a : Nat) (hA : At12 κ a) (s0 : Mem) : ∀ r σ', f_X12_opens a s0 = some (r, σ') → Ct κ M_X12_opens R_X12_opens [vr κ a] s0 r σ' := by
  intro r σ' ho
  refine Ct.of (by decide) (Nat.le_of_ble_eq_true rfl) (cat_ok rfl) (fun w_s0 => ?_) ⟨rfl, rfl⟩
  refine q_ent (ls' := [some (vr κ a)]) (o := f_X12_opens a s0) ⟨rfl, trivial⟩ ?_ ho
  unfold f_X12_opens
  refine q_aload_n d_X12_opens_0 rfl ?_
  refine q_getI (k := 24) (j := 24) d_X12_opens_1 hA.1 fi_12_210 rfl rfl ?_
  refine q_bipush d_X12_opens_4 rfl ?_
  refine q_icmp_ne d_X12_opens_6 (w_s0 _ _) (inr_d rfl) (fun c1 => ?_) (fun c1 => ?_)
  · refine q_aload_n d_X12_opens_9 rfl ?_
    refine q_iconst d_X12_opens_10 ?_
    refine q_callZ (R' := R_X12_bad) (runV (As := [vi 3]) (rest := []) d_X12_opens_11.1 cv_12_201 rfl hA.1 rfl rfl ⟨rfl, rfl, by decide, by decide⟩ (Nat.le_of_ble_eq_true rfl) w_s0 rfl) d_X12_opens_11.2 (c_X12_bad κ a hA 3 (inr_d rfl) s0) rfl (fun r2 s3 h_r2 w_s3 => ?_)
    exact q_iretz d_X12_opens_14 rfl h_r2 w_s3
  · refine q_aload_n d_X12_opens_15 rfl ?_
    refine q_dup d_X12_opens_16 rfl ?_
    refine q_getI (k := 24) (j := 24) d_X12_opens_17 hA.1 fi_12_210 rfl rfl ?_
    refine q_iconst d_X12_opens_20 ?_
    refine q_iadd d_X12_opens_21 ?_
    refine q_putI (k := 24) (j := 24) d_X12_opens_22 hA.1 fp_12_210 rfl rfl (inr_wr _) w_s0 (fun s4 w_s4 => ?_)
    refine q_aload_n d_X12_opens_25 rfl ?_
    refine q_callV (R' := R_X12_next0) (runV (As := []) (rest := []) d_X12_opens_26.1 cv_12_204 rfl hA.1 rfl rfl ⟨rfl, rfl, by decide, by decide⟩ (Nat.le_of_ble_eq_true rfl) w_s4 rfl) d_X12_opens_26.2 (c_X12_next0 κ a hA s4) rfl (fun r5 s6 w_s6 => ?_)
    refine q_iconst d_X12_opens_29 ?_
    exact q_iretz d_X12_opens_30 rfl (Or.inr rfl) w_s6
abbrev R_X12_unit : Room := { frames := 9, cells := 0, slots := 0, locals := 190 }
noncomputable def f_X12_unit (a : Nat) (s0 : Mem) : Res :=
  bd (f_X12_isIn (s0 a 18) 41 50 s0) fun r1 s2 => jn (fun (_ : Unit) => jn (fun (y3 : Int) => bd (f_X12_lay a y3 (s2 a 20) s2) fun r4 s5 => bd (f_X12_next0 a s5) fun r6 s7 => some (1, s7)) fun j46 => if r1 = 0 then (j46 0) else (j46 (wr ((s2 a 18) - 40)))) fun j30 => if s2 a 18 = 2 then (j30 ()) else (if r1 = 0 then (bd (f_X12_bad a 1 s2) fun r11 s12 => some (r11, s12)) else (j30 ()))
set_option maxHeartbeats 4000000 in
set_option maxRecDepth 10000 in
theorem c_X12_unit (κ : Kp) (a : Nat) (hA : At12 κ a) (s0 : Mem) : ∀ r σ', f_X12_unit a s0 = some (r, σ') → Ct κ M_X12_unit R_X12_unit [vr κ a] s0 r σ' := by
  intro r σ' ho
  refine Ct.of (by decide) (Nat.le_of_ble_eq_true rfl) (cat_ok rfl) (fun w_s0 => ?_) ⟨rfl, rfl⟩
  refine q_ent (ls' := [some (vr κ a), none]) (o := f_X12_unit a s0) ⟨rfl, trivial⟩ ?_ ho
  unfold f_X12_unit
  refine q_aload_n d_X12_unit_0 rfl ?_
  refine q_getI (k := 18) (j := 18) d_X12_unit_1 hA.1 fi_12_180 rfl rfl ?_
  refine q_bipush d_X12_unit_4 rfl ?_
  refine q_bipush d_X12_unit_6 rfl ?_
  refine q_callZ (R' := R_X12_isIn) (runS (As := [vi (s0 a 18), vi 41, vi 50]) (rest := []) d_X12_unit_8.1 cv_12_60 rfl ⟨rfl, rfl, by decide, by decide⟩ (Nat.le_of_ble_eq_true rfl) w_s0 rfl) d_X12_unit_8.2 (c_X12_isIn κ (s0 a 18) (w_s0 _ _) 41 (inr_d rfl) 50 (inr_d rfl) s0) rfl (fun r1 s2 h_r1 w_s2 => ?_)
  refine q_istore_n d_X12_unit_11 rfl ?_
  refine q_aload_n d_X12_unit_12 rfl ?_
  refine q_getI (k := 18) (j := 18) d_X12_unit_13 hA.1 fi_12_180 rfl rfl ?_
  refine q_iconst d_X12_unit_16 ?_
  refine q_jn (α := Unit → Res) (fun j30 => EO κ M_X12_unit R_X12_unit 30 [some (vr κ a), some (vi r1)] [] s2 (j30 ())) ?_ (fun j30 hj30 => ?_)
  · refine q_aload_n d_X12_unit_30 rfl ?_
    refine q_iload_n (x := r1) d_X12_unit_31 rfl ?_
    refine q_jn (α := Int → Res) (fun j46 => ∀ (y3 : Int) (h_y3 : InR y3), EO κ M_X12_unit R_X12_unit 46 [some (vr κ a), none] [vi y3, vr κ a] s2 (j46 y3)) ?_ (fun j46 hj46 => ?_)
    · intro y3 h_y3
      refine q_aload_n d_X12_unit_46 rfl ?_
      refine q_getI (k := 20) (j := 20) d_X12_unit_47 hA.1 fi_12_192 rfl rfl ?_
      refine q_callV (R' := R_X12_lay) (runV (As := [vi y3, vi (s2 a 20)]) (rest := []) d_X12_unit_50.1 cv_12_217 rfl hA.1 rfl rfl ⟨rfl, rfl, by decide, by decide⟩ (Nat.le_of_ble_eq_true rfl) w_s2 rfl) d_X12_unit_50.2 (c_X12_lay κ a hA y3 h_y3 (s2 a 20) (w_s2 _ _) s2) rfl (fun r4 s5 w_s5 => ?_)
      refine q_aload_n d_X12_unit_53 rfl ?_
      refine q_callV (R' := R_X12_next0) (runV (As := []) (rest := []) d_X12_unit_54.1 cv_12_204 rfl hA.1 rfl rfl ⟨rfl, rfl, by decide, by decide⟩ (Nat.le_of_ble_eq_true rfl) w_s5 rfl) d_X12_unit_54.2 (c_X12_next0 κ a hA s5) rfl (fun r6 s7 w_s7 => ?_)
      refine q_iconst d_X12_unit_57 ?_
      exact q_iretz d_X12_unit_58 rfl (Or.inr rfl) w_s7
    refine q_if_eq d_X12_unit_32 (inr_b h_r1) (fun c8 => ?_) (fun c8 => ?_)
    · refine q_iconst d_X12_unit_45 ?_
      refine q_sub (ls' := [some (vr κ a), none]) ⟨rfl, trivial⟩ ?_
      exact hj46 0 (inr_b (Or.inl rfl))
    · refine q_aload_n d_X12_unit_35 rfl ?_
      refine q_getI (k := 18) (j := 18) d_X12_unit_36 hA.1 fi_12_180 rfl rfl ?_
      refine q_bipush d_X12_unit_39 rfl ?_
      refine q_isub d_X12_unit_41 ?_
      refine q_goto d_X12_unit_42 ?_
      refine q_sub (ls' := [some (vr κ a), none]) ⟨rfl, trivial⟩ ?_
      exact hj46 (wr ((s2 a 18) - 40)) (inr_wr _)
  refine q_icmp_eq d_X12_unit_17 (w_s2 _ _) (inr_d rfl) (fun c9 => ?_) (fun c9 => ?_)
  · refine q_sub (ls' := [some (vr κ a), some (vi r1)]) ⟨rfl, rfl, trivial⟩ ?_
    exact hj30 
  · refine q_iload_n (x := r1) d_X12_unit_20 rfl ?_
    refine q_if_ne d_X12_unit_21 (inr_b h_r1) (fun c10 => ?_) (fun c10 => ?_)
    · refine q_aload_n d_X12_unit_24 rfl ?_
      refine q_iconst d_X12_unit_25 ?_
      refine q_callZ (R' := R_X12_bad) (runV (As := [vi 1]) (rest := []) d_X12_unit_26.1 cv_12_201 rfl hA.1 rfl rfl ⟨rfl, rfl, by decide, by decide⟩ (Nat.le_of_ble_eq_true rfl) w_s2 rfl) d_X12_unit_26.2 (c_X12_bad κ a hA 1 (inr_b (Or.inr rfl)) s2) rfl (fun r11 s12 h_r11 w_s12 => ?_)
      exact q_iretz d_X12_unit_29 rfl h_r11 w_s12
    · refine q_sub (ls' := [some (vr κ a), some (vi r1)]) ⟨rfl, rfl, trivial⟩ ?_
      exact hj30 
abbrev R_X12_product : Room := { frames := 10, cells := 0, slots := 0, locals := 211 }
noncomputable def f_X12_product_9 (a : Nat) (k66 : Mem → Res) (k76 : Mem → Res) : Nat → Mem → Res
  | 0, _ => none
  | n + 1, s0 =>
    jn (fun (_ : Unit) => jn (fun (y10 : Int) => bd (f_X12_next0 a s0) fun r11 s12 => jn (fun (s13 : Mem) => f_X12_product_9 a k66 k76 n s13) fun j112 => if y10 = 0 then (bd (f_X12_unit a s12) fun r15 s16 => if r15 = 0 then (some (0, s16)) else (bd (f_X12_lay a 25 0 s16) fun r18 s19 => j112 s19)) else (if s12 a 18 = 2 then (if s12 a 20 = 0 then (k76 s12) else (bd (f_X12_next0 a s12) fun r22 s23 => bd (f_X12_lay a 26 (s12 a 20) s23) fun r24 s25 => j112 s25)) else (k66 s12))) fun j44 => if s0 a 18 = 147 then (j44 1) else (j44 0)) fun j29 => if s0 a 18 = 142 then (j29 ()) else (if s0 a 18 = 147 then (j29 ()) else (some (1, s0)))
noncomputable def f_X12_product (a : Nat) (s0 : Mem) : Res :=
  bd (f_X12_unit a s0) fun r1 s2 => if r1 = 0 then (some (0, s2)) else (jn (fun (s4 : Mem) => bd (f_X12_bad a 2 s4) fun r5 s6 => some (r5, s6)) fun j76 => jn (fun (s7 : Mem) => bd (f_X12_bad a 1 s7) fun r8 s9 => some (r8, s9)) fun j66 => f_X12_product_9 a j66 j76 FU s2)
set_option maxHeartbeats 4000000 in
set_option maxRecDepth 10000 in
theorem l_X12_product_9 (κ : Kp) (a : Nat) (hA : At12 κ a) (k66 : Mem → Res) (k76 : Mem → Res) (hk66 : ∀ (sz : Mem) (w_sz : WF sz), EO κ M_X12_product R_X12_product 66 [some (vr κ a), none, none] [] sz (k66 sz)) (hk76 : ∀ (sz : Mem) (w_sz : WF sz), EO κ M_X12_product R_X12_product 76 [some (vr κ a), none, none] [] sz (k76 sz)) : ∀ (n : Nat) (s0 : Mem) (w_s0 : WF s0), EO κ M_X12_product R_X12_product 9 [some (vr κ a), none, none] [] s0 (f_X12_product_9 a k66 k76 n s0) := by
  intro n
  induction n with
  | zero => exact fun _ _ => q_none
  | succ n ih =>
    intro s0 w_s0
    rw [f_X12_product_9]
    refine q_aload_n d_X12_product_9 rfl ?_
    refine q_getI (k := 18) (j := 18) d_X12_product_10 hA.1 fi_12_180 rfl rfl ?_
    refine q_sipush d_X12_product_13 rfl ?_
    refine q_jn (α := Unit → Res) (fun j29 => EO κ M_X12_product R_X12_product 29 [some (vr κ a), none, none] [] s0 (j29 ())) ?_ (fun j29 hj29 => ?_)
    · refine q_aload_n d_X12_product_29 rfl ?_
      refine q_getI (k := 18) (j := 18) d_X12_product_30 hA.1 fi_12_180 rfl rfl ?_
      refine q_sipush d_X12_product_33 rfl ?_
      refine q_jn (α := Int → Res) (fun j44 => ∀ (y10 : Int) (h_y10 : y10 = 0 ∨ y10 = 1), EO κ M_X12_product R_X12_product 44 [some (vr κ a), none, none] [vi y10] s0 (j44 y10)) ?_ (fun j44 hj44 => ?_)
      · intro y10 h_y10
        refine q_istore_n d_X12_product_44 rfl ?_
        refine q_aload_n d_X12_product_45 rfl ?_
        refine q_callV (R' := R_X12_next0) (runV (As := []) (rest := []) d_X12_product_46.1 cv_12_204 rfl hA.1 rfl rfl ⟨rfl, rfl, by decide, by decide⟩ (Nat.le_of_ble_eq_true rfl) w_s0 rfl) d_X12_product_46.2 (c_X12_next0 κ a hA s0) rfl (fun r11 s12 w_s12 => ?_)
        refine q_iload_n (x := y10) d_X12_product_49 rfl ?_
        refine q_jn (α := Mem → Res) (fun j112 => ∀ (s13 : Mem) (w_s13 : WF s13), EO κ M_X12_product R_X12_product 112 [some (vr κ a), none, none] [] s13 (j112 s13)) ?_ (fun j112 hj112 => ?_)
        · intro s13 w_s13
          refine q_goto d_X12_product_112 ?_
          refine q_sub (ls' := [some (vr κ a), none, none]) ⟨rfl, trivial⟩ ?_
          exact ih s13 w_s13
        refine q_if_eq d_X12_product_50 (inr_b h_y10) (fun c14 => ?_) (fun c14 => ?_)
        · refine q_aload_n d_X12_product_96 rfl ?_
          refine q_callZ (R' := R_X12_unit) (runV (As := []) (rest := []) d_X12_product_97.1 cv_12_221 rfl hA.1 rfl rfl ⟨rfl, rfl, by decide, by decide⟩ (Nat.le_of_ble_eq_true rfl) w_s12 rfl) d_X12_product_97.2 (c_X12_unit κ a hA s12) rfl (fun r15 s16 h_r15 w_s16 => ?_)
          refine q_if_ne d_X12_product_100 (inr_b h_r15) (fun c17 => ?_) (fun c17 => ?_)
          · refine q_iconst d_X12_product_103 ?_
            exact q_iretz d_X12_product_104 rfl (Or.inl rfl) w_s16
          · refine q_aload_n d_X12_product_105 rfl ?_
            refine q_bipush d_X12_product_106 rfl ?_
            refine q_iconst d_X12_product_108 ?_
            refine q_callV (R' := R_X12_lay) (runV (As := [vi 25, vi 0]) (rest := []) d_X12_product_109.1 cv_12_217 rfl hA.1 rfl rfl ⟨rfl, rfl, by decide, by decide⟩ (Nat.le_of_ble_eq_true rfl) w_s16 rfl) d_X12_product_109.2 (c_X12_lay κ a hA 25 (inr_d rfl) 0 (inr_b (Or.inl rfl)) s16) rfl (fun r18 s19 w_s19 => ?_)
            refine q_sub (ls' := [some (vr κ a), none, none]) ⟨rfl, trivial⟩ ?_
            exact hj112 s19 w_s19
        · refine q_aload_n d_X12_product_53 rfl ?_
          refine q_getI (k := 20) (j := 20) d_X12_product_54 hA.1 fi_12_192 rfl rfl ?_
          refine q_istore_n d_X12_product_57 rfl ?_
          refine q_aload_n d_X12_product_58 rfl ?_
          refine q_getI (k := 18) (j := 18) d_X12_product_59 hA.1 fi_12_180 rfl rfl ?_
          refine q_iconst d_X12_product_62 ?_
          refine q_icmp_eq d_X12_product_63 (w_s12 _ _) (inr_d rfl) (fun c20 => ?_) (fun c20 => ?_)
          · refine q_iload_n (x := s12 a 20) d_X12_product_72 rfl ?_
            refine q_if_ne d_X12_product_73 (w_s12 _ _) (fun c21 => ?_) (fun c21 => ?_)
            · refine q_sub (ls' := [some (vr κ a), none, none]) ⟨rfl, trivial⟩ ?_
              exact hk76 s12 w_s12
            · refine q_aload_n d_X12_product_82 rfl ?_
              refine q_callV (R' := R_X12_next0) (runV (As := []) (rest := []) d_X12_product_83.1 cv_12_204 rfl hA.1 rfl rfl ⟨rfl, rfl, by decide, by decide⟩ (Nat.le_of_ble_eq_true rfl) w_s12 rfl) d_X12_product_83.2 (c_X12_next0 κ a hA s12) rfl (fun r22 s23 w_s23 => ?_)
              refine q_aload_n d_X12_product_86 rfl ?_
              refine q_bipush d_X12_product_87 rfl ?_
              refine q_iload_n (x := s12 a 20) d_X12_product_89 rfl ?_
              refine q_callV (R' := R_X12_lay) (runV (As := [vi 26, vi (s12 a 20)]) (rest := []) d_X12_product_90.1 cv_12_217 rfl hA.1 rfl rfl ⟨rfl, rfl, by decide, by decide⟩ (Nat.le_of_ble_eq_true rfl) w_s23 rfl) d_X12_product_90.2 (c_X12_lay κ a hA 26 (inr_d rfl) (s12 a 20) (w_s12 _ _) s23) rfl (fun r24 s25 w_s25 => ?_)
              refine q_goto d_X12_product_93 ?_
              refine q_sub (ls' := [some (vr κ a), none, none]) ⟨rfl, trivial⟩ ?_
              exact hj112 s25 w_s25
          · refine q_sub (ls' := [some (vr κ a), none, none]) ⟨rfl, trivial⟩ ?_
            exact hk66 s12 w_s12
      refine q_icmp_ne d_X12_product_36 (w_s0 _ _) (inr_d rfl) (fun c26 => ?_) (fun c26 => ?_)
      · refine q_iconst d_X12_product_39 ?_
        refine q_goto d_X12_product_40 ?_
        refine q_sub (ls' := [some (vr κ a), none, none]) ⟨rfl, trivial⟩ ?_
        exact hj44 1 (Or.inr rfl)
      · refine q_iconst d_X12_product_43 ?_
        refine q_sub (ls' := [some (vr κ a), none, none]) ⟨rfl, trivial⟩ ?_
        exact hj44 0 (Or.inl rfl)
    refine q_icmp_eq d_X12_product_16 (w_s0 _ _) (inr_d rfl) (fun c27 => ?_) (fun c27 => ?_)
    · refine q_sub (ls' := [some (vr κ a), none, none]) ⟨rfl, trivial⟩ ?_
      exact hj29 
    · refine q_aload_n d_X12_product_19 rfl ?_
      refine q_getI (k := 18) (j := 18) d_X12_product_20 hA.1 fi_12_180 rfl rfl ?_
      refine q_sipush d_X12_product_23 rfl ?_
      refine q_icmp_ne d_X12_product_26 (w_s0 _ _) (inr_d rfl) (fun c28 => ?_) (fun c28 => ?_)
      · refine q_sub (ls' := [some (vr κ a), none, none]) ⟨rfl, trivial⟩ ?_
        exact hj29 
      · refine q_iconst d_X12_product_115 ?_
        exact q_iretz d_X12_product_116 rfl (Or.inr rfl) w_s0
set_option maxHeartbeats 4000000 in
set_option maxRecDepth 10000 in
theorem c_X12_product (κ : Kp) (a : Nat) (hA : At12 κ a) (s0 : Mem) : ∀ r σ', f_X12_product a s0 = some (r, σ') → Ct κ M_X12_product R_X12_product [vr κ a] s0 r σ' := by
  intro r σ' ho
  refine Ct.of (by decide) (Nat.le_of_ble_eq_true rfl) (cat_ok rfl) (fun w_s0 => ?_) ⟨rfl, rfl⟩
  refine q_ent (ls' := [some (vr κ a), none, none]) (o := f_X12_product a s0) ⟨rfl, trivial⟩ ?_ ho
  unfold f_X12_product
  refine q_aload_n d_X12_product_0 rfl ?_
  refine q_callZ (R' := R_X12_unit) (runV (As := []) (rest := []) d_X12_product_1.1 cv_12_221 rfl hA.1 rfl rfl ⟨rfl, rfl, by decide, by decide⟩ (Nat.le_of_ble_eq_true rfl) w_s0 rfl) d_X12_product_1.2 (c_X12_unit κ a hA s0) rfl (fun r1 s2 h_r1 w_s2 => ?_)
  refine q_if_ne d_X12_product_4 (inr_b h_r1) (fun c3 => ?_) (fun c3 => ?_)
  · refine q_iconst d_X12_product_7 ?_
    exact q_iretz d_X12_product_8 rfl (Or.inl rfl) w_s2
  · refine q_jn (α := Mem → Res) (fun j76 => ∀ (s4 : Mem) (w_s4 : WF s4), EO κ M_X12_product R_X12_product 76 [some (vr κ a), none, none] [] s4 (j76 s4)) ?_ (fun j76 hj76 => ?_)
    · intro s4 w_s4
      refine q_aload_n d_X12_product_76 rfl ?_
      refine q_iconst d_X12_product_77 ?_
      refine q_callZ (R' := R_X12_bad) (runV (As := [vi 2]) (rest := []) d_X12_product_78.1 cv_12_201 rfl hA.1 rfl rfl ⟨rfl, rfl, by decide, by decide⟩ (Nat.le_of_ble_eq_true rfl) w_s4 rfl) d_X12_product_78.2 (c_X12_bad κ a hA 2 (inr_d rfl) s4) rfl (fun r5 s6 h_r5 w_s6 => ?_)
      exact q_iretz d_X12_product_81 rfl h_r5 w_s6
    refine q_jn (α := Mem → Res) (fun j66 => ∀ (s7 : Mem) (w_s7 : WF s7), EO κ M_X12_product R_X12_product 66 [some (vr κ a), none, none] [] s7 (j66 s7)) ?_ (fun j66 hj66 => ?_)
    · intro s7 w_s7
      refine q_aload_n d_X12_product_66 rfl ?_
      refine q_iconst d_X12_product_67 ?_
      refine q_callZ (R' := R_X12_bad) (runV (As := [vi 1]) (rest := []) d_X12_product_68.1 cv_12_201 rfl hA.1 rfl rfl ⟨rfl, rfl, by decide, by decide⟩ (Nat.le_of_ble_eq_true rfl) w_s7 rfl) d_X12_product_68.2 (c_X12_bad κ a hA 1 (inr_b (Or.inr rfl)) s7) rfl (fun r8 s9 h_r8 w_s9 => ?_)
      exact q_iretz d_X12_product_71 rfl h_r8 w_s9
    refine q_sub (ls' := [some (vr κ a), none, none]) ⟨rfl, trivial⟩ ?_
    exact l_X12_product_9 κ a hA j66 j76 hj66 hj76 FU s2 w_s2
abbrev R_X12_sumUp : Room := { frames := 11, cells := 0, slots := 0, locals := 233 }
noncomputable def f_X12_sumUp_9 (a : Nat) : Nat → Mem → Res
  | 0, _ => none
  | n + 1, s0 =>
    jn (fun (_ : Unit) => jn (fun (y4 : Int) => bd (f_X12_next0 a s0) fun r5 s6 => bd (f_X12_product a s6) fun r7 s8 => if r7 = 0 then (some (0, s8)) else (bd (f_X12_lay a y4 0 s8) fun r10 s11 => f_X12_sumUp_9 a n s11)) fun j46 => if s0 a 18 = 143 then (j46 23) else (j46 24)) fun j29 => if s0 a 18 = 143 then (j29 ()) else (if s0 a 18 = 145 then (j29 ()) else (some (1, s0)))
noncomputable def f_X12_sumUp (a : Nat) (s0 : Mem) : Res :=
  bd (f_X12_product a s0) fun r1 s2 => if r1 = 0 then (some (0, s2)) else (f_X12_sumUp_9 a FU s2)
set_option maxHeartbeats 4000000 in
set_option maxRecDepth 10000 in
theorem l_X12_sumUp_9 (κ : Kp) (a : Nat) (hA : At12 κ a)   : ∀ (n : Nat) (s0 : Mem) (w_s0 : WF s0), EO κ M_X12_sumUp R_X12_sumUp 9 [some (vr κ a), none] [] s0 (f_X12_sumUp_9 a n s0) := by
  intro n
  induction n with
  | zero => exact fun _ _ => q_none
  | succ n ih =>
    intro s0 w_s0
    rw [f_X12_sumUp_9]
    refine q_aload_n d_X12_sumUp_9 rfl ?_
    refine q_getI (k := 18) (j := 18) d_X12_sumUp_10 hA.1 fi_12_180 rfl rfl ?_
    refine q_sipush d_X12_sumUp_13 rfl ?_
    refine q_jn (α := Unit → Res) (fun j29 => EO κ M_X12_sumUp R_X12_sumUp 29 [some (vr κ a), none] [] s0 (j29 ())) ?_ (fun j29 hj29 => ?_)
    · refine q_aload_n d_X12_sumUp_29 rfl ?_
      refine q_getI (k := 18) (j := 18) d_X12_sumUp_30 hA.1 fi_12_180 rfl rfl ?_
      refine q_sipush d_X12_sumUp_33 rfl ?_
      refine q_jn (α := Int → Res) (fun j46 => ∀ (y4 : Int) (h_y4 : InR y4), EO κ M_X12_sumUp R_X12_sumUp 46 [some (vr κ a), none] [vi y4] s0 (j46 y4)) ?_ (fun j46 hj46 => ?_)
      · intro y4 h_y4
        refine q_istore_n d_X12_sumUp_46 rfl ?_
        refine q_aload_n d_X12_sumUp_47 rfl ?_
        refine q_callV (R' := R_X12_next0) (runV (As := []) (rest := []) d_X12_sumUp_48.1 cv_12_204 rfl hA.1 rfl rfl ⟨rfl, rfl, by decide, by decide⟩ (Nat.le_of_ble_eq_true rfl) w_s0 rfl) d_X12_sumUp_48.2 (c_X12_next0 κ a hA s0) rfl (fun r5 s6 w_s6 => ?_)
        refine q_aload_n d_X12_sumUp_51 rfl ?_
        refine q_callZ (R' := R_X12_product) (runV (As := []) (rest := []) d_X12_sumUp_52.1 cv_12_213 rfl hA.1 rfl rfl ⟨rfl, rfl, by decide, by decide⟩ (Nat.le_of_ble_eq_true rfl) w_s6 rfl) d_X12_sumUp_52.2 (c_X12_product κ a hA s6) rfl (fun r7 s8 h_r7 w_s8 => ?_)
        refine q_if_ne d_X12_sumUp_55 (inr_b h_r7) (fun c9 => ?_) (fun c9 => ?_)
        · refine q_iconst d_X12_sumUp_58 ?_
          exact q_iretz d_X12_sumUp_59 rfl (Or.inl rfl) w_s8
        · refine q_aload_n d_X12_sumUp_60 rfl ?_
          refine q_iload_n (x := y4) d_X12_sumUp_61 rfl ?_
          refine q_iconst d_X12_sumUp_62 ?_
          refine q_callV (R' := R_X12_lay) (runV (As := [vi y4, vi 0]) (rest := []) d_X12_sumUp_63.1 cv_12_217 rfl hA.1 rfl rfl ⟨rfl, rfl, by decide, by decide⟩ (Nat.le_of_ble_eq_true rfl) w_s8 rfl) d_X12_sumUp_63.2 (c_X12_lay κ a hA y4 h_y4 0 (inr_b (Or.inl rfl)) s8) rfl (fun r10 s11 w_s11 => ?_)
          refine q_goto d_X12_sumUp_66 ?_
          refine q_sub (ls' := [some (vr κ a), none]) ⟨rfl, trivial⟩ ?_
          exact ih s11 w_s11
      refine q_icmp_ne d_X12_sumUp_36 (w_s0 _ _) (inr_d rfl) (fun c12 => ?_) (fun c12 => ?_)
      · refine q_bipush d_X12_sumUp_39 rfl ?_
        refine q_goto d_X12_sumUp_41 ?_
        refine q_sub (ls' := [some (vr κ a), none]) ⟨rfl, trivial⟩ ?_
        exact hj46 23 (inr_d rfl)
      · refine q_bipush d_X12_sumUp_44 rfl ?_
        refine q_sub (ls' := [some (vr κ a), none]) ⟨rfl, trivial⟩ ?_
        exact hj46 24 (inr_d rfl)
    refine q_icmp_eq d_X12_sumUp_16 (w_s0 _ _) (inr_d rfl) (fun c13 => ?_) (fun c13 => ?_)
    · refine q_sub (ls' := [some (vr κ a), none]) ⟨rfl, trivial⟩ ?_
      exact hj29 
    · refine q_aload_n d_X12_sumUp_19 rfl ?_
      refine q_getI (k := 18) (j := 18) d_X12_sumUp_20 hA.1 fi_12_180 rfl rfl ?_
      refine q_sipush d_X12_sumUp_23 rfl ?_
      refine q_icmp_ne d_X12_sumUp_26 (w_s0 _ _) (inr_d rfl) (fun c14 => ?_) (fun c14 => ?_)
      · refine q_sub (ls' := [some (vr κ a), none]) ⟨rfl, trivial⟩ ?_
        exact hj29 
      · refine q_iconst d_X12_sumUp_69 ?_
        exact q_iretz d_X12_sumUp_70 rfl (Or.inr rfl) w_s0
set_option maxHeartbeats 4000000 in
set_option maxRecDepth 10000 in
theorem c_X12_sumUp (κ : Kp) (a : Nat) (hA : At12 κ a) (s0 : Mem) : ∀ r σ', f_X12_sumUp a s0 = some (r, σ') → Ct κ M_X12_sumUp R_X12_sumUp [vr κ a] s0 r σ' := by
  intro r σ' ho
  refine Ct.of (by decide) (Nat.le_of_ble_eq_true rfl) (cat_ok rfl) (fun w_s0 => ?_) ⟨rfl, rfl⟩
  refine q_ent (ls' := [some (vr κ a), none]) (o := f_X12_sumUp a s0) ⟨rfl, trivial⟩ ?_ ho
  unfold f_X12_sumUp
  refine q_aload_n d_X12_sumUp_0 rfl ?_
  refine q_callZ (R' := R_X12_product) (runV (As := []) (rest := []) d_X12_sumUp_1.1 cv_12_213 rfl hA.1 rfl rfl ⟨rfl, rfl, by decide, by decide⟩ (Nat.le_of_ble_eq_true rfl) w_s0 rfl) d_X12_sumUp_1.2 (c_X12_product κ a hA s0) rfl (fun r1 s2 h_r1 w_s2 => ?_)
  refine q_if_ne d_X12_sumUp_4 (inr_b h_r1) (fun c3 => ?_) (fun c3 => ?_)
  · refine q_iconst d_X12_sumUp_7 ?_
    exact q_iretz d_X12_sumUp_8 rfl (Or.inl rfl) w_s2
  · refine q_sub (ls' := [some (vr κ a), none]) ⟨rfl, trivial⟩ ?_
    exact l_X12_sumUp_9 κ a hA   FU s2 w_s2
noncomputable def F_X12_oneTest (ro : Nat → Mem → Res) (ra : Nat → Mem → Res) (a : Nat) (s0 : Mem) : Res :=
  if s0 a 18 = 6 then (bd (f_X12_opens a s0) fun r2 s3 => if r2 = 0 then (some (0, s3)) else (bd (ro a s3) fun r5 s6 => if r5 = 0 then (some (0, s6)) else (lm (mup s6 a 24 (wr ((s6 a 24) - 1))) fun s8 => bd (f_X12_lay a 30 0 s8) fun r9 s10 => some (1, s10)))) else (if s0 a 18 = 140 then (bd (f_X12_opens a s0) fun r12 s13 => if r12 = 0 then (some (0, s13)) else (bd (ra a s13) fun r15 s16 => if r15 = 0 then (some (0, s16)) else (bd (f_X12_need a 141 s16) fun r18 s19 => if r18 = 0 then (some (0, s19)) else (lm (mup s19 a 24 (wr ((s19 a 24) - 1))) fun s21 => some (1, s21))))) else (bd (f_X12_sumUp a s0) fun r22 s23 => if r22 = 0 then (some (0, s23)) else (jn (fun (y25 : Int) => if y25 = (-1) then (bd (f_X12_bad a 1 s23) fun r27 s28 => some (r27, s28)) else (bd (f_X12_next0 a s23) fun r29 s30 => bd (f_X12_sumUp a s30) fun r31 s32 => if r31 = 0 then (some (0, s32)) else (bd (f_X12_lay a y25 0 s32) fun r34 s35 => some (1, s35)))) fun j147 => if s23 a 18 = 160 then (j147 27) else (if s23 a 18 = 161 then (j147 28) else (if s23 a 18 = 162 then (j147 29) else (j147 (-1)))))))
set_option maxHeartbeats 4000000 in
set_option maxRecDepth 10000 in
theorem C_X12_oneTest (κ : Kp) (R : Room) (hR0 : R.cells = 0 ∧ R.slots = 0) (hR_X12_opens : Rm R_X12_opens R 1) (ro : Nat → Mem → Res) (Rro : Room) (hR_X12_oneTest : Rm Rro R 2) (hro : ∀ (a : Nat) (hA : At12 κ a) (s0 : Mem) (r : Int) (σ' : Mem), ro a s0 = some (r, σ') → Ct κ M_X12_oneTest Rro [vr κ a] s0 r σ') (hR_X12_lay : Rm R_X12_lay R 3) (ra : Nat → Mem → Res) (Rra : Room) (hR_X12_any : Rm Rra R 1) (hra : ∀ (a : Nat) (hA : At12 κ a) (s0 : Mem) (r : Int) (σ' : Mem), ra a s0 = some (r, σ') → Ct κ M_X12_any Rra [vr κ a] s0 r σ') (hR_X12_need : Rm R_X12_need R 2) (hR_X12_sumUp : Rm R_X12_sumUp R 2) (hR_X12_bad : Rm R_X12_bad R 2) (hR_X12_next0 : Rm R_X12_next0 R 3) (a : Nat) (hA : At12 κ a) (s0 : Mem) : ∀ r σ', F_X12_oneTest ro ra a s0 = some (r, σ') → Ct κ M_X12_oneTest R [vr κ a] s0 r σ' := by
  intro r σ' ho
  refine Ct.of (by decide) (Nat.le_of_ble_eq_true rfl) (cat_ok rfl) (fun w_s0 => ?_) hR0
  refine q_ent (ls' := [some (vr κ a), none]) (o := F_X12_oneTest ro ra a s0) ⟨rfl, trivial⟩ ?_ ho
  unfold F_X12_oneTest
  refine q_aload_n d_X12_oneTest_0 rfl ?_
  refine q_getI (k := 18) (j := 18) d_X12_oneTest_1 hA.1 fi_12_180 rfl rfl ?_
  refine q_bipush d_X12_oneTest_4 rfl ?_
  refine q_icmp_ne d_X12_oneTest_6 (w_s0 _ _) (inr_d rfl) (fun c1 => ?_) (fun c1 => ?_)
  · refine q_aload_n d_X12_oneTest_9 rfl ?_
    refine q_callZ (R' := R_X12_opens) (runV (As := []) (rest := []) d_X12_oneTest_10.1 cv_12_230 rfl hA.1 rfl rfl hR_X12_opens (Nat.le_of_ble_eq_true rfl) w_s0 rfl) d_X12_oneTest_10.2 (c_X12_opens κ a hA s0) rfl (fun r2 s3 h_r2 w_s3 => ?_)
    refine q_if_eq d_X12_oneTest_13 (inr_b h_r2) (fun c4 => ?_) (fun c4 => ?_)
    · refine q_iconst d_X12_oneTest_23 ?_
      exact q_iretz d_X12_oneTest_24 rfl (Or.inl rfl) w_s3
    · refine q_aload_n d_X12_oneTest_16 rfl ?_
      refine q_callZ (R' := Rro) (runV (As := []) (rest := []) d_X12_oneTest_17.1 cv_12_227 rfl hA.1 rfl rfl hR_X12_oneTest (Nat.le_of_ble_eq_true rfl) w_s3 rfl) d_X12_oneTest_17.2 (hro a hA s3) rfl (fun r5 s6 h_r5 w_s6 => ?_)
      refine q_if_ne d_X12_oneTest_20 (inr_b h_r5) (fun c7 => ?_) (fun c7 => ?_)
      · refine q_iconst d_X12_oneTest_23 ?_
        exact q_iretz d_X12_oneTest_24 rfl (Or.inl rfl) w_s6
      · refine q_aload_n d_X12_oneTest_25 rfl ?_
        refine q_dup d_X12_oneTest_26 rfl ?_
        refine q_getI (k := 24) (j := 24) d_X12_oneTest_27 hA.1 fi_12_210 rfl rfl ?_
        refine q_iconst d_X12_oneTest_30 ?_
        refine q_isub d_X12_oneTest_31 ?_
        refine q_putI (k := 24) (j := 24) d_X12_oneTest_32 hA.1 fp_12_210 rfl rfl (inr_wr _) w_s6 (fun s8 w_s8 => ?_)
        refine q_aload_n d_X12_oneTest_35 rfl ?_
        refine q_bipush d_X12_oneTest_36 rfl ?_
        refine q_iconst d_X12_oneTest_38 ?_
        refine q_callV (R' := R_X12_lay) (runV (As := [vi 30, vi 0]) (rest := []) d_X12_oneTest_39.1 cv_12_217 rfl hA.1 rfl rfl hR_X12_lay (Nat.le_of_ble_eq_true rfl) w_s8 rfl) d_X12_oneTest_39.2 (c_X12_lay κ a hA 30 (inr_d rfl) 0 (inr_b (Or.inl rfl)) s8) rfl (fun r9 s10 w_s10 => ?_)
        refine q_iconst d_X12_oneTest_42 ?_
        exact q_iretz d_X12_oneTest_43 rfl (Or.inr rfl) w_s10
  · refine q_aload_n d_X12_oneTest_44 rfl ?_
    refine q_getI (k := 18) (j := 18) d_X12_oneTest_45 hA.1 fi_12_180 rfl rfl ?_
    refine q_sipush d_X12_oneTest_48 rfl ?_
    refine q_icmp_ne d_X12_oneTest_51 (w_s0 _ _) (inr_d rfl) (fun c11 => ?_) (fun c11 => ?_)
    · refine q_aload_n d_X12_oneTest_54 rfl ?_
      refine q_callZ (R' := R_X12_opens) (runV (As := []) (rest := []) d_X12_oneTest_55.1 cv_12_230 rfl hA.1 rfl rfl hR_X12_opens (Nat.le_of_ble_eq_true rfl) w_s0 rfl) d_X12_oneTest_55.2 (c_X12_opens κ a hA s0) rfl (fun r12 s13 h_r12 w_s13 => ?_)
      refine q_if_eq d_X12_oneTest_58 (inr_b h_r12) (fun c14 => ?_) (fun c14 => ?_)
      · refine q_iconst d_X12_oneTest_78 ?_
        exact q_iretz d_X12_oneTest_79 rfl (Or.inl rfl) w_s13
      · refine q_aload_n d_X12_oneTest_61 rfl ?_
        refine q_callZ (R' := Rra) (runV (As := []) (rest := []) d_X12_oneTest_62.1 cv_12_233 rfl hA.1 rfl rfl hR_X12_any (Nat.le_of_ble_eq_true rfl) w_s13 rfl) d_X12_oneTest_62.2 (hra a hA s13) rfl (fun r15 s16 h_r15 w_s16 => ?_)
        refine q_if_eq d_X12_oneTest_65 (inr_b h_r15) (fun c17 => ?_) (fun c17 => ?_)
        · refine q_iconst d_X12_oneTest_78 ?_
          exact q_iretz d_X12_oneTest_79 rfl (Or.inl rfl) w_s16
        · refine q_aload_n d_X12_oneTest_68 rfl ?_
          refine q_sipush d_X12_oneTest_69 rfl ?_
          refine q_callZ (R' := R_X12_need) (runV (As := [vi 141]) (rest := []) d_X12_oneTest_72.1 cv_12_236 rfl hA.1 rfl rfl hR_X12_need (Nat.le_of_ble_eq_true rfl) w_s16 rfl) d_X12_oneTest_72.2 (c_X12_need κ a hA 141 (inr_d rfl) s16) rfl (fun r18 s19 h_r18 w_s19 => ?_)
          refine q_if_ne d_X12_oneTest_75 (inr_b h_r18) (fun c20 => ?_) (fun c20 => ?_)
          · refine q_iconst d_X12_oneTest_78 ?_
            exact q_iretz d_X12_oneTest_79 rfl (Or.inl rfl) w_s19
          · refine q_aload_n d_X12_oneTest_80 rfl ?_
            refine q_dup d_X12_oneTest_81 rfl ?_
            refine q_getI (k := 24) (j := 24) d_X12_oneTest_82 hA.1 fi_12_210 rfl rfl ?_
            refine q_iconst d_X12_oneTest_85 ?_
            refine q_isub d_X12_oneTest_86 ?_
            refine q_putI (k := 24) (j := 24) d_X12_oneTest_87 hA.1 fp_12_210 rfl rfl (inr_wr _) w_s19 (fun s21 w_s21 => ?_)
            refine q_iconst d_X12_oneTest_90 ?_
            exact q_iretz d_X12_oneTest_91 rfl (Or.inr rfl) w_s21
    · refine q_aload_n d_X12_oneTest_92 rfl ?_
      refine q_callZ (R' := R_X12_sumUp) (runV (As := []) (rest := []) d_X12_oneTest_93.1 cv_12_239 rfl hA.1 rfl rfl hR_X12_sumUp (Nat.le_of_ble_eq_true rfl) w_s0 rfl) d_X12_oneTest_93.2 (c_X12_sumUp κ a hA s0) rfl (fun r22 s23 h_r22 w_s23 => ?_)
      refine q_if_ne d_X12_oneTest_96 (inr_b h_r22) (fun c24 => ?_) (fun c24 => ?_)
      · refine q_iconst d_X12_oneTest_99 ?_
        exact q_iretz d_X12_oneTest_100 rfl (Or.inl rfl) w_s23
      · refine q_aload_n d_X12_oneTest_101 rfl ?_
        refine q_getI (k := 18) (j := 18) d_X12_oneTest_102 hA.1 fi_12_180 rfl rfl ?_
        refine q_sipush d_X12_oneTest_105 rfl ?_
        refine q_jn (α := Int → Res) (fun j147 => ∀ (y25 : Int) (h_y25 : InR y25), EO κ M_X12_oneTest R 147 [some (vr κ a), none] [vi y25] s23 (j147 y25)) ?_ (fun j147 hj147 => ?_)
        · intro y25 h_y25
          refine q_istore_n d_X12_oneTest_147 rfl ?_
          refine q_iload_n (x := y25) d_X12_oneTest_148 rfl ?_
          refine q_iconst d_X12_oneTest_149 ?_
          refine q_icmp_ne d_X12_oneTest_150 h_y25 (inr_d rfl) (fun c26 => ?_) (fun c26 => ?_)
          · refine q_aload_n d_X12_oneTest_153 rfl ?_
            refine q_iconst d_X12_oneTest_154 ?_
            refine q_callZ (R' := R_X12_bad) (runV (As := [vi 1]) (rest := []) d_X12_oneTest_155.1 cv_12_201 rfl hA.1 rfl rfl hR_X12_bad (Nat.le_of_ble_eq_true rfl) w_s23 rfl) d_X12_oneTest_155.2 (c_X12_bad κ a hA 1 (inr_b (Or.inr rfl)) s23) rfl (fun r27 s28 h_r27 w_s28 => ?_)
            exact q_iretz d_X12_oneTest_158 rfl h_r27 w_s28
          · refine q_aload_n d_X12_oneTest_159 rfl ?_
            refine q_callV (R' := R_X12_next0) (runV (As := []) (rest := []) d_X12_oneTest_160.1 cv_12_204 rfl hA.1 rfl rfl hR_X12_next0 (Nat.le_of_ble_eq_true rfl) w_s23 rfl) d_X12_oneTest_160.2 (c_X12_next0 κ a hA s23) rfl (fun r29 s30 w_s30 => ?_)
            refine q_aload_n d_X12_oneTest_163 rfl ?_
            refine q_callZ (R' := R_X12_sumUp) (runV (As := []) (rest := []) d_X12_oneTest_164.1 cv_12_239 rfl hA.1 rfl rfl hR_X12_sumUp (Nat.le_of_ble_eq_true rfl) w_s30 rfl) d_X12_oneTest_164.2 (c_X12_sumUp κ a hA s30) rfl (fun r31 s32 h_r31 w_s32 => ?_)
            refine q_if_ne d_X12_oneTest_167 (inr_b h_r31) (fun c33 => ?_) (fun c33 => ?_)
            · refine q_iconst d_X12_oneTest_170 ?_
              exact q_iretz d_X12_oneTest_171 rfl (Or.inl rfl) w_s32
            · refine q_aload_n d_X12_oneTest_172 rfl ?_
              refine q_iload_n (x := y25) d_X12_oneTest_173 rfl ?_
              refine q_iconst d_X12_oneTest_174 ?_
              refine q_callV (R' := R_X12_lay) (runV (As := [vi y25, vi 0]) (rest := []) d_X12_oneTest_175.1 cv_12_217 rfl hA.1 rfl rfl hR_X12_lay (Nat.le_of_ble_eq_true rfl) w_s32 rfl) d_X12_oneTest_175.2 (c_X12_lay κ a hA y25 h_y25 0 (inr_b (Or.inl rfl)) s32) rfl (fun r34 s35 w_s35 => ?_)
              refine q_iconst d_X12_oneTest_178 ?_
              exact q_iretz d_X12_oneTest_179 rfl (Or.inr rfl) w_s35
        refine q_icmp_ne d_X12_oneTest_108 (w_s23 _ _) (inr_d rfl) (fun c36 => ?_) (fun c36 => ?_)
        · refine q_bipush d_X12_oneTest_111 rfl ?_
          refine q_goto d_X12_oneTest_113 ?_
          refine q_sub (ls' := [some (vr κ a), none]) ⟨rfl, trivial⟩ ?_
          exact hj147 27 (inr_d rfl)
        · refine q_aload_n d_X12_oneTest_116 rfl ?_
          refine q_getI (k := 18) (j := 18) d_X12_oneTest_117 hA.1 fi_12_180 rfl rfl ?_
          refine q_sipush d_X12_oneTest_120 rfl ?_
          refine q_icmp_ne d_X12_oneTest_123 (w_s23 _ _) (inr_d rfl) (fun c37 => ?_) (fun c37 => ?_)
          · refine q_bipush d_X12_oneTest_126 rfl ?_
            refine q_goto d_X12_oneTest_128 ?_
            refine q_sub (ls' := [some (vr κ a), none]) ⟨rfl, trivial⟩ ?_
            exact hj147 28 (inr_d rfl)
          · refine q_aload_n d_X12_oneTest_131 rfl ?_
            refine q_getI (k := 18) (j := 18) d_X12_oneTest_132 hA.1 fi_12_180 rfl rfl ?_
            refine q_sipush d_X12_oneTest_135 rfl ?_
            refine q_icmp_ne d_X12_oneTest_138 (w_s23 _ _) (inr_d rfl) (fun c38 => ?_) (fun c38 => ?_)
            · refine q_bipush d_X12_oneTest_141 rfl ?_
              refine q_goto d_X12_oneTest_143 ?_
              refine q_sub (ls' := [some (vr κ a), none]) ⟨rfl, trivial⟩ ?_
              exact hj147 29 (inr_d rfl)
            · refine q_iconst d_X12_oneTest_146 ?_
              refine q_sub (ls' := [some (vr κ a), none]) ⟨rfl, trivial⟩ ?_
              exact hj147 (-1) (inr_d rfl)
noncomputable def f_X12_every_9 (ro : Nat → Mem → Res) (a : Nat) (k40 : Mem → Res) : Nat → Mem → Res
  | 0, _ => none
  | n + 1, s0 =>
    if s0 a 18 = 5 then (bd (f_X12_next0 a s0) fun r6 s7 => bd (ro a s7) fun r8 s9 => if r8 = 0 then (some (0, s9)) else (bd (f_X12_lay a 31 0 s9) fun r11 s12 => f_X12_every_9 ro a k40 n s12)) else (k40 s0)
noncomputable def F_X12_every (ro : Nat → Mem → Res) (a : Nat) (s0 : Mem) : Res :=
  bd (ro a s0) fun r1 s2 => if r1 = 0 then (some (0, s2)) else (jn (fun (s4 : Mem) => some (1, s4)) fun j40 => f_X12_every_9 ro a j40 FU s2)
set_option maxHeartbeats 4000000 in
set_option maxRecDepth 10000 in
theorem l_X12_every_9 (κ : Kp) (R : Room) (hR0 : R.cells = 0 ∧ R.slots = 0) (ro : Nat → Mem → Res) (Rro : Room) (hR_X12_oneTest : Rm Rro R 2) (hro : ∀ (a : Nat) (hA : At12 κ a) (s0 : Mem) (r : Int) (σ' : Mem), ro a s0 = some (r, σ') → Ct κ M_X12_oneTest Rro [vr κ a] s0 r σ') (hR_X12_next0 : Rm R_X12_next0 R 3) (hR_X12_lay : Rm R_X12_lay R 3) (a : Nat) (hA : At12 κ a) (k40 : Mem → Res) (hk40 : ∀ (sz : Mem) (w_sz : WF sz), EO κ M_X12_every R 40 [none] [] sz (k40 sz)) : ∀ (n : Nat) (s0 : Mem) (w_s0 : WF s0), EO κ M_X12_every R 9 [some (vr κ a)] [] s0 (f_X12_every_9 ro a k40 n s0) := by
  intro n
  induction n with
  | zero => exact fun _ _ => q_none
  | succ n ih =>
    intro s0 w_s0
    rw [f_X12_every_9]
    refine q_aload_n d_X12_every_9 rfl ?_
    refine q_getI (k := 18) (j := 18) d_X12_every_10 hA.1 fi_12_180 rfl rfl ?_
    refine q_iconst d_X12_every_13 ?_
    refine q_icmp_ne d_X12_every_14 (w_s0 _ _) (inr_d rfl) (fun c5 => ?_) (fun c5 => ?_)
    · refine q_aload_n d_X12_every_17 rfl ?_
      refine q_callV (R' := R_X12_next0) (runV (As := []) (rest := []) d_X12_every_18.1 cv_12_204 rfl hA.1 rfl rfl hR_X12_next0 (Nat.le_of_ble_eq_true rfl) w_s0 rfl) d_X12_every_18.2 (c_X12_next0 κ a hA s0) rfl (fun r6 s7 w_s7 => ?_)
      refine q_aload_n d_X12_every_21 rfl ?_
      refine q_callZ (R' := Rro) (runV (As := []) (rest := []) d_X12_every_22.1 cv_12_227 rfl hA.1 rfl rfl hR_X12_oneTest (Nat.le_of_ble_eq_true rfl) w_s7 rfl) d_X12_every_22.2 (hro a hA s7) rfl (fun r8 s9 h_r8 w_s9 => ?_)
      refine q_if_ne d_X12_every_25 (inr_b h_r8) (fun c10 => ?_) (fun c10 => ?_)
      · refine q_iconst d_X12_every_28 ?_
        exact q_iretz d_X12_every_29 rfl (Or.inl rfl) w_s9
      · refine q_aload_n d_X12_every_30 rfl ?_
        refine q_bipush d_X12_every_31 rfl ?_
        refine q_iconst d_X12_every_33 ?_
        refine q_callV (R' := R_X12_lay) (runV (As := [vi 31, vi 0]) (rest := []) d_X12_every_34.1 cv_12_217 rfl hA.1 rfl rfl hR_X12_lay (Nat.le_of_ble_eq_true rfl) w_s9 rfl) d_X12_every_34.2 (c_X12_lay κ a hA 31 (inr_d rfl) 0 (inr_b (Or.inl rfl)) s9) rfl (fun r11 s12 w_s12 => ?_)
        refine q_goto d_X12_every_37 ?_
        refine q_sub (ls' := [some (vr κ a)]) ⟨rfl, trivial⟩ ?_
        exact ih s12 w_s12
    · refine q_sub (ls' := [none]) trivial ?_
      exact hk40 s0 w_s0
set_option maxHeartbeats 4000000 in
set_option maxRecDepth 10000 in
theorem C_X12_every (κ : Kp) (R : Room) (hR0 : R.cells = 0 ∧ R.slots = 0) (ro : Nat → Mem → Res) (Rro : Room) (hR_X12_oneTest : Rm Rro R 2) (hro : ∀ (a : Nat) (hA : At12 κ a) (s0 : Mem) (r : Int) (σ' : Mem), ro a s0 = some (r, σ') → Ct κ M_X12_oneTest Rro [vr κ a] s0 r σ') (hR_X12_next0 : Rm R_X12_next0 R 3) (hR_X12_lay : Rm R_X12_lay R 3) (a : Nat) (hA : At12 κ a) (s0 : Mem) : ∀ r σ', F_X12_every ro a s0 = some (r, σ') → Ct κ M_X12_every R [vr κ a] s0 r σ' := by
  intro r σ' ho
  refine Ct.of (by decide) (Nat.le_of_ble_eq_true rfl) (cat_ok rfl) (fun w_s0 => ?_) hR0
  refine q_ent (ls' := [some (vr κ a)]) (o := F_X12_every ro a s0) ⟨rfl, trivial⟩ ?_ ho
  unfold F_X12_every
  refine q_aload_n d_X12_every_0 rfl ?_
  refine q_callZ (R' := Rro) (runV (As := []) (rest := []) d_X12_every_1.1 cv_12_227 rfl hA.1 rfl rfl hR_X12_oneTest (Nat.le_of_ble_eq_true rfl) w_s0 rfl) d_X12_every_1.2 (hro a hA s0) rfl (fun r1 s2 h_r1 w_s2 => ?_)
  refine q_if_ne d_X12_every_4 (inr_b h_r1) (fun c3 => ?_) (fun c3 => ?_)
  · refine q_iconst d_X12_every_7 ?_
    exact q_iretz d_X12_every_8 rfl (Or.inl rfl) w_s2
  · refine q_jn (α := Mem → Res) (fun j40 => ∀ (s4 : Mem) (w_s4 : WF s4), EO κ M_X12_every R 40 [none] [] s4 (j40 s4)) ?_ (fun j40 hj40 => ?_)
    · intro s4 w_s4
      refine q_iconst d_X12_every_40 ?_
      exact q_iretz d_X12_every_41 rfl (Or.inr rfl) w_s4
    refine q_sub (ls' := [some (vr κ a)]) ⟨rfl, trivial⟩ ?_
    exact l_X12_every_9 κ R hR0 ro Rro hR_X12_oneTest hro hR_X12_next0 hR_X12_lay a hA j40 hj40 FU s2 w_s2
noncomputable def f_X12_any_9 (re : Nat → Mem → Res) (a : Nat) (k40 : Mem → Res) : Nat → Mem → Res
  | 0, _ => none
  | n + 1, s0 =>
    if s0 a 18 = 4 then (bd (f_X12_next0 a s0) fun r6 s7 => bd (re a s7) fun r8 s9 => if r8 = 0 then (some (0, s9)) else (bd (f_X12_lay a 32 0 s9) fun r11 s12 => f_X12_any_9 re a k40 n s12)) else (k40 s0)
noncomputable def F_X12_any (re : Nat → Mem → Res) (a : Nat) (s0 : Mem) : Res :=
  bd (re a s0) fun r1 s2 => if r1 = 0 then (some (0, s2)) else (jn (fun (s4 : Mem) => some (1, s4)) fun j40 => f_X12_any_9 re a j40 FU s2)
set_option maxHeartbeats 4000000 in
set_option maxRecDepth 10000 in
theorem l_X12_any_9 (κ : Kp) (R : Room) (hR0 : R.cells = 0 ∧ R.slots = 0) (re : Nat → Mem → Res) (Rre : Room) (hR_X12_every : Rm Rre R 1) (hre : ∀ (a : Nat) (hA : At12 κ a) (s0 : Mem) (r : Int) (σ' : Mem), re a s0 = some (r, σ') → Ct κ M_X12_every Rre [vr κ a] s0 r σ') (hR_X12_next0 : Rm R_X12_next0 R 3) (hR_X12_lay : Rm R_X12_lay R 3) (a : Nat) (hA : At12 κ a) (k40 : Mem → Res) (hk40 : ∀ (sz : Mem) (w_sz : WF sz), EO κ M_X12_any R 40 [none] [] sz (k40 sz)) : ∀ (n : Nat) (s0 : Mem) (w_s0 : WF s0), EO κ M_X12_any R 9 [some (vr κ a)] [] s0 (f_X12_any_9 re a k40 n s0) := by
  intro n
  induction n with
  | zero => exact fun _ _ => q_none
  | succ n ih =>
    intro s0 w_s0
    rw [f_X12_any_9]
    refine q_aload_n d_X12_any_9 rfl ?_
    refine q_getI (k := 18) (j := 18) d_X12_any_10 hA.1 fi_12_180 rfl rfl ?_
    refine q_iconst d_X12_any_13 ?_
    refine q_icmp_ne d_X12_any_14 (w_s0 _ _) (inr_d rfl) (fun c5 => ?_) (fun c5 => ?_)
    · refine q_aload_n d_X12_any_17 rfl ?_
      refine q_callV (R' := R_X12_next0) (runV (As := []) (rest := []) d_X12_any_18.1 cv_12_204 rfl hA.1 rfl rfl hR_X12_next0 (Nat.le_of_ble_eq_true rfl) w_s0 rfl) d_X12_any_18.2 (c_X12_next0 κ a hA s0) rfl (fun r6 s7 w_s7 => ?_)
      refine q_aload_n d_X12_any_21 rfl ?_
      refine q_callZ (R' := Rre) (runV (As := []) (rest := []) d_X12_any_22.1 cv_12_224 rfl hA.1 rfl rfl hR_X12_every (Nat.le_of_ble_eq_true rfl) w_s7 rfl) d_X12_any_22.2 (hre a hA s7) rfl (fun r8 s9 h_r8 w_s9 => ?_)
      refine q_if_ne d_X12_any_25 (inr_b h_r8) (fun c10 => ?_) (fun c10 => ?_)
      · refine q_iconst d_X12_any_28 ?_
        exact q_iretz d_X12_any_29 rfl (Or.inl rfl) w_s9
      · refine q_aload_n d_X12_any_30 rfl ?_
        refine q_bipush d_X12_any_31 rfl ?_
        refine q_iconst d_X12_any_33 ?_
        refine q_callV (R' := R_X12_lay) (runV (As := [vi 32, vi 0]) (rest := []) d_X12_any_34.1 cv_12_217 rfl hA.1 rfl rfl hR_X12_lay (Nat.le_of_ble_eq_true rfl) w_s9 rfl) d_X12_any_34.2 (c_X12_lay κ a hA 32 (inr_d rfl) 0 (inr_b (Or.inl rfl)) s9) rfl (fun r11 s12 w_s12 => ?_)
        refine q_goto d_X12_any_37 ?_
        refine q_sub (ls' := [some (vr κ a)]) ⟨rfl, trivial⟩ ?_
        exact ih s12 w_s12
    · refine q_sub (ls' := [none]) trivial ?_
      exact hk40 s0 w_s0
set_option maxHeartbeats 4000000 in
set_option maxRecDepth 10000 in
theorem C_X12_any (κ : Kp) (R : Room) (hR0 : R.cells = 0 ∧ R.slots = 0) (re : Nat → Mem → Res) (Rre : Room) (hR_X12_every : Rm Rre R 1) (hre : ∀ (a : Nat) (hA : At12 κ a) (s0 : Mem) (r : Int) (σ' : Mem), re a s0 = some (r, σ') → Ct κ M_X12_every Rre [vr κ a] s0 r σ') (hR_X12_next0 : Rm R_X12_next0 R 3) (hR_X12_lay : Rm R_X12_lay R 3) (a : Nat) (hA : At12 κ a) (s0 : Mem) : ∀ r σ', F_X12_any re a s0 = some (r, σ') → Ct κ M_X12_any R [vr κ a] s0 r σ' := by
  intro r σ' ho
  refine Ct.of (by decide) (Nat.le_of_ble_eq_true rfl) (cat_ok rfl) (fun w_s0 => ?_) hR0
  refine q_ent (ls' := [some (vr κ a)]) (o := F_X12_any re a s0) ⟨rfl, trivial⟩ ?_ ho
  unfold F_X12_any
  refine q_aload_n d_X12_any_0 rfl ?_
  refine q_callZ (R' := Rre) (runV (As := []) (rest := []) d_X12_any_1.1 cv_12_224 rfl hA.1 rfl rfl hR_X12_every (Nat.le_of_ble_eq_true rfl) w_s0 rfl) d_X12_any_1.2 (hre a hA s0) rfl (fun r1 s2 h_r1 w_s2 => ?_)
  refine q_if_ne d_X12_any_4 (inr_b h_r1) (fun c3 => ?_) (fun c3 => ?_)
  · refine q_iconst d_X12_any_7 ?_
    exact q_iretz d_X12_any_8 rfl (Or.inl rfl) w_s2
  · refine q_jn (α := Mem → Res) (fun j40 => ∀ (s4 : Mem) (w_s4 : WF s4), EO κ M_X12_any R 40 [none] [] s4 (j40 s4)) ?_ (fun j40 hj40 => ?_)
    · intro s4 w_s4
      refine q_iconst d_X12_any_40 ?_
      exact q_iretz d_X12_any_41 rfl (Or.inr rfl) w_s4
    refine q_sub (ls' := [some (vr κ a)]) ⟨rfl, trivial⟩ ?_
    exact l_X12_any_9 κ R hR0 re Rre hR_X12_every hre hR_X12_next0 hR_X12_lay a hA j40 hj40 FU s2 w_s2
def Rr (n : Nat) : Room := { frames := 12 + n, cells := 0, slots := 0, locals := 254 + 40 * n }
theorem Rr_c {R : Room} {n nL : Nat} (h : R.cells = 0 ∧ R.slots = 0 ∧ R.frames + 1 ≤ 12 ∧ 8 + (nL + 11) + R.locals ≤ 254) : Rm R (Rr n) nL := ⟨h.1, h.2.1, Nat.le_trans h.2.2.1 (Nat.le_add_right _ _), Nat.le_trans h.2.2.2 (Nat.le_add_right _ _)⟩
theorem Rr_s {m n nL : Nat} (h : m < n) (hL : nL ≤ 15) : Rm (Rr m) (Rr n) nL := by
  refine ⟨rfl, rfl, ?_, ?_⟩
  · show 12 + m + 1 ≤ 12 + n
    omega
  · show 8 + (nL + 11) + (254 + 40 * m) ≤ 254 + 40 * n
    omega
noncomputable def fd_X12_oneTest : Nat → Nat → Mem → Res
  | 0, _, _ => none
  | d + 1, a, s => F_X12_oneTest (fun a s => fd_X12_oneTest d a s) (F_X12_any (F_X12_every (fun a s => fd_X12_oneTest d a s))) a s
theorem cd_X12_oneTest (κ : Kp) : ∀ (d : Nat) (a : Nat) (hA : At12 κ a) (s0 : Mem) (r : Int) (σ' : Mem), fd_X12_oneTest d a s0 = some (r, σ') → Ct κ M_X12_oneTest (Rr (3 * d)) [vr κ a] s0 r σ' := by
  intro d
  induction d with
  | zero => exact fun a hA s0 r σ' h => by cases h
  | succ d ih =>
    intro a hA s0 r σ' h
    have he := fun (a : Nat) (hA : At12 κ a) (s0 : Mem) => C_X12_every κ (Rr (3 * d + 1)) ⟨rfl, rfl⟩ (fun a s => fd_X12_oneTest d a s) (Rr (3 * d)) (Rr_s (by omega) (by decide)) (fun a hA s => ih a hA s) (Rr_c ⟨rfl, rfl, by decide, by decide⟩) (Rr_c ⟨rfl, rfl, by decide, by decide⟩) a hA s0
    have ha := fun (a : Nat) (hA : At12 κ a) (s0 : Mem) => C_X12_any κ (Rr (3 * d + 2)) ⟨rfl, rfl⟩ (F_X12_every (fun a s => fd_X12_oneTest d a s)) (Rr (3 * d + 1)) (Rr_s (by omega) (by decide)) he (Rr_c ⟨rfl, rfl, by decide, by decide⟩) (Rr_c ⟨rfl, rfl, by decide, by decide⟩) a hA s0
    exact C_X12_oneTest κ (Rr (3 * (d + 1))) ⟨rfl, rfl⟩ (Rr_c ⟨rfl, rfl, by decide, by decide⟩) (fun a s => fd_X12_oneTest d a s) (Rr (3 * d)) (Rr_s (by omega) (by decide)) (fun a hA s => ih a hA s) (Rr_c ⟨rfl, rfl, by decide, by decide⟩) (F_X12_any (F_X12_every (fun a s => fd_X12_oneTest d a s))) (Rr (3 * d + 2)) (Rr_s (by omega) (by decide)) ha (Rr_c ⟨rfl, rfl, by decide, by decide⟩) (Rr_c ⟨rfl, rfl, by decide, by decide⟩) (Rr_c ⟨rfl, rfl, by decide, by decide⟩) (Rr_c ⟨rfl, rfl, by decide, by decide⟩) a hA s0 r σ' h
noncomputable def f_X12_any (a : Nat) (s0 : Mem) : Res := F_X12_any (F_X12_every (fun a s => fd_X12_oneTest 12 a s)) a s0
abbrev R_X12_any : Room := Rr 38
theorem c_X12_any (κ : Kp) (a : Nat) (hA : At12 κ a) (s0 : Mem) : ∀ r σ', f_X12_any a s0 = some (r, σ') → Ct κ M_X12_any R_X12_any [vr κ a] s0 r σ' := by
  have he := fun (a : Nat) (hA : At12 κ a) (s0 : Mem) => C_X12_every κ (Rr (37)) ⟨rfl, rfl⟩ (fun a s => fd_X12_oneTest 12 a s) (Rr (3 * 12)) (Rr_s (by omega) (by decide)) (fun a hA s => cd_X12_oneTest κ 12 a hA s) (Rr_c ⟨rfl, rfl, by decide, by decide⟩) (Rr_c ⟨rfl, rfl, by decide, by decide⟩) a hA s0
  exact C_X12_any κ (Rr (38)) ⟨rfl, rfl⟩ (F_X12_every (fun a s => fd_X12_oneTest 12 a s)) (Rr 37) (Rr_s (by omega) (by decide)) he (Rr_c ⟨rfl, rfl, by decide, by decide⟩) (Rr_c ⟨rfl, rfl, by decide, by decide⟩) a hA s0
abbrev R_X12_aLine : Room := { frames := 51, cells := 0, slots := 0, locals := 1794 }
noncomputable def f_X12_aLine (a : Nat) (s0 : Mem) : Res :=
  bd (f_X12_isIn (s0 a 18) 20 23 s0) fun r1 s2 => if r1 = 0 then (bd (f_X12_bad a 1 s2) fun r4 s5 => some (r4, s5)) else (if s2 a 13 = 16 then (bd (f_X12_bad a 3 s2) fun r7 s8 => some (r7, s8)) else (lm (mup s2 a 24 0) fun s9 => gd ((0 : Int) ≤ wr ((wr (4 * (s9 a 13))) + 3) ∧ wr ((wr (4 * (s9 a 13))) + 3) < 64) (lm (mup s9 (a + 5) (wr ((wr (4 * (s9 a 13))) + 3)) (s9 a 18)) fun s11 => bd (f_X12_next0 a s11) fun r12 s13 => gd ((0 : Int) ≤ wr (4 * (s13 a 13)) ∧ wr (4 * (s13 a 13)) < 64) (lm (mup s13 (a + 5) (wr (4 * (s13 a 13))) (s13 a 14)) fun s15 => bd (f_X12_sumUp a s15) fun r16 s17 => if r16 = 0 then (some (0, s17)) else (gd ((0 : Int) ≤ wr ((wr (4 * (s17 a 13))) + 1) ∧ wr ((wr (4 * (s17 a 13))) + 1) < 64) (lm (mup s17 (a + 5) (wr ((wr (4 * (s17 a 13))) + 1)) (s17 a 14)) fun s20 => jn (fun (s21 : Mem) => gd ((0 : Int) ≤ wr ((wr (4 * (s21 a 13))) + 2) ∧ wr ((wr (4 * (s21 a 13))) + 2) < 64) (lm (mup s21 (a + 5) (wr ((wr (4 * (s21 a 13))) + 2)) (s21 a 14)) fun s23 => bd (f_X12_need a 159 s23) fun r24 s25 => some (r24, s25))) fun j123 => if s20 a 18 = 3 then (bd (f_X12_next0 a s20) fun r27 s28 => bd (f_X12_any a s28) fun r29 s30 => if r29 = 0 then (some (0, s30)) else (j123 s30)) else (j123 s20)))))))
set_option maxHeartbeats 4000000 in
set_option maxRecDepth 10000 in
theorem c_X12_aLine (κ : Kp) (a : Nat) (hA : At12 κ a) (s0 : Mem) : ∀ r σ', f_X12_aLine a s0 = some (r, σ') → Ct κ M_X12_aLine R_X12_aLine [vr κ a] s0 r σ' := by
  intro r σ' ho
  refine Ct.of (by decide) (Nat.le_of_ble_eq_true rfl) (cat_ok rfl) (fun w_s0 => ?_) ⟨rfl, rfl⟩
  refine q_ent (ls' := [some (vr κ a)]) (o := f_X12_aLine a s0) ⟨rfl, trivial⟩ ?_ ho
  unfold f_X12_aLine
  refine q_aload_n d_X12_aLine_0 rfl ?_
  refine q_getI (k := 18) (j := 18) d_X12_aLine_1 hA.1 fi_12_180 rfl rfl ?_
  refine q_bipush d_X12_aLine_4 rfl ?_
  refine q_bipush d_X12_aLine_6 rfl ?_
  refine q_callZ (R' := R_X12_isIn) (runS (As := [vi (s0 a 18), vi 20, vi 23]) (rest := []) d_X12_aLine_8.1 cv_12_60 rfl ⟨rfl, rfl, by decide, by decide⟩ (Nat.le_of_ble_eq_true rfl) w_s0 rfl) d_X12_aLine_8.2 (c_X12_isIn κ (s0 a 18) (w_s0 _ _) 20 (inr_d rfl) 23 (inr_d rfl) s0) rfl (fun r1 s2 h_r1 w_s2 => ?_)
  refine q_if_ne d_X12_aLine_11 (inr_b h_r1) (fun c3 => ?_) (fun c3 => ?_)
  · refine q_aload_n d_X12_aLine_14 rfl ?_
    refine q_iconst d_X12_aLine_15 ?_
    refine q_callZ (R' := R_X12_bad) (runV (As := [vi 1]) (rest := []) d_X12_aLine_16.1 cv_12_201 rfl hA.1 rfl rfl ⟨rfl, rfl, by decide, by decide⟩ (Nat.le_of_ble_eq_true rfl) w_s2 rfl) d_X12_aLine_16.2 (c_X12_bad κ a hA 1 (inr_b (Or.inr rfl)) s2) rfl (fun r4 s5 h_r4 w_s5 => ?_)
    exact q_iretz d_X12_aLine_19 rfl h_r4 w_s5
  · refine q_aload_n d_X12_aLine_20 rfl ?_
    refine q_getI (k := 13) (j := 13) d_X12_aLine_21 hA.1 fi_12_242 rfl rfl ?_
    refine q_bipush d_X12_aLine_24 rfl ?_
    refine q_icmp_ne d_X12_aLine_26 (w_s2 _ _) (inr_d rfl) (fun c6 => ?_) (fun c6 => ?_)
    · refine q_aload_n d_X12_aLine_29 rfl ?_
      refine q_iconst d_X12_aLine_30 ?_
      refine q_callZ (R' := R_X12_bad) (runV (As := [vi 3]) (rest := []) d_X12_aLine_31.1 cv_12_201 rfl hA.1 rfl rfl ⟨rfl, rfl, by decide, by decide⟩ (Nat.le_of_ble_eq_true rfl) w_s2 rfl) d_X12_aLine_31.2 (c_X12_bad κ a hA 3 (inr_d rfl) s2) rfl (fun r7 s8 h_r7 w_s8 => ?_)
      exact q_iretz d_X12_aLine_34 rfl h_r7 w_s8
    · refine q_aload_n d_X12_aLine_35 rfl ?_
      refine q_iconst d_X12_aLine_36 ?_
      refine q_putI (k := 24) (j := 24) d_X12_aLine_37 hA.1 fp_12_210 rfl rfl (inr_b (Or.inl rfl)) w_s2 (fun s9 w_s9 => ?_)
      refine q_aload_n d_X12_aLine_40 rfl ?_
      refine q_getR (n := 5) d_X12_aLine_41 hA.1 fi_12_22 rfl (Nat.le_of_ble_eq_true rfl) ?_
      refine q_iconst d_X12_aLine_44 ?_
      refine q_aload_n d_X12_aLine_45 rfl ?_
      refine q_getI (k := 13) (j := 13) d_X12_aLine_46 hA.1 fi_12_242 rfl rfl ?_
      refine q_imul d_X12_aLine_49 ?_
      refine q_iconst d_X12_aLine_50 ?_
      refine q_iadd d_X12_aLine_51 ?_
      refine q_aload_n d_X12_aLine_52 rfl ?_
      refine q_getI (k := 18) (j := 18) d_X12_aLine_53 hA.1 fi_12_180 rfl rfl ?_
      refine q_iastore (m := 64) d_X12_aLine_56 hA.2.2.2.2.2.1 (by decide) rfl (w_s9 _ _) w_s9 (fun g10 s11 w_s11 => ?_)
      refine q_aload_n d_X12_aLine_57 rfl ?_
      refine q_callV (R' := R_X12_next0) (runV (As := []) (rest := []) d_X12_aLine_58.1 cv_12_204 rfl hA.1 rfl rfl ⟨rfl, rfl, by decide, by decide⟩ (Nat.le_of_ble_eq_true rfl) w_s11 rfl) d_X12_aLine_58.2 (c_X12_next0 κ a hA s11) rfl (fun r12 s13 w_s13 => ?_)
      refine q_aload_n d_X12_aLine_61 rfl ?_
      refine q_getR (n := 5) d_X12_aLine_62 hA.1 fi_12_22 rfl (Nat.le_of_ble_eq_true rfl) ?_
      refine q_iconst d_X12_aLine_65 ?_
      refine q_aload_n d_X12_aLine_66 rfl ?_
      refine q_getI (k := 13) (j := 13) d_X12_aLine_67 hA.1 fi_12_242 rfl rfl ?_
      refine q_imul d_X12_aLine_70 ?_
      refine q_aload_n d_X12_aLine_71 rfl ?_
      refine q_getI (k := 14) (j := 14) d_X12_aLine_72 hA.1 fi_12_207 rfl rfl ?_
      refine q_iastore (m := 64) d_X12_aLine_75 hA.2.2.2.2.2.1 (by decide) rfl (w_s13 _ _) w_s13 (fun g14 s15 w_s15 => ?_)
      refine q_aload_n d_X12_aLine_76 rfl ?_
      refine q_callZ (R' := R_X12_sumUp) (runV (As := []) (rest := []) d_X12_aLine_77.1 cv_12_239 rfl hA.1 rfl rfl ⟨rfl, rfl, by decide, by decide⟩ (Nat.le_of_ble_eq_true rfl) w_s15 rfl) d_X12_aLine_77.2 (c_X12_sumUp κ a hA s15) rfl (fun r16 s17 h_r16 w_s17 => ?_)
      refine q_if_ne d_X12_aLine_80 (inr_b h_r16) (fun c18 => ?_) (fun c18 => ?_)
      · refine q_iconst d_X12_aLine_83 ?_
        exact q_iretz d_X12_aLine_84 rfl (Or.inl rfl) w_s17
      · refine q_aload_n d_X12_aLine_85 rfl ?_
        refine q_getR (n := 5) d_X12_aLine_86 hA.1 fi_12_22 rfl (Nat.le_of_ble_eq_true rfl) ?_
        refine q_iconst d_X12_aLine_89 ?_
        refine q_aload_n d_X12_aLine_90 rfl ?_
        refine q_getI (k := 13) (j := 13) d_X12_aLine_91 hA.1 fi_12_242 rfl rfl ?_
        refine q_imul d_X12_aLine_94 ?_
        refine q_iconst d_X12_aLine_95 ?_
        refine q_iadd d_X12_aLine_96 ?_
        refine q_aload_n d_X12_aLine_97 rfl ?_
        refine q_getI (k := 14) (j := 14) d_X12_aLine_98 hA.1 fi_12_207 rfl rfl ?_
        refine q_iastore (m := 64) d_X12_aLine_101 hA.2.2.2.2.2.1 (by decide) rfl (w_s17 _ _) w_s17 (fun g19 s20 w_s20 => ?_)
        refine q_aload_n d_X12_aLine_102 rfl ?_
        refine q_getI (k := 18) (j := 18) d_X12_aLine_103 hA.1 fi_12_180 rfl rfl ?_
        refine q_iconst d_X12_aLine_106 ?_
        refine q_jn (α := Mem → Res) (fun j123 => ∀ (s21 : Mem) (w_s21 : WF s21), EO κ M_X12_aLine R_X12_aLine 123 [some (vr κ a)] [] s21 (j123 s21)) ?_ (fun j123 hj123 => ?_)
        · intro s21 w_s21
          refine q_aload_n d_X12_aLine_123 rfl ?_
          refine q_getR (n := 5) d_X12_aLine_124 hA.1 fi_12_22 rfl (Nat.le_of_ble_eq_true rfl) ?_
          refine q_iconst d_X12_aLine_127 ?_
          refine q_aload_n d_X12_aLine_128 rfl ?_
          refine q_getI (k := 13) (j := 13) d_X12_aLine_129 hA.1 fi_12_242 rfl rfl ?_
          refine q_imul d_X12_aLine_132 ?_
          refine q_iconst d_X12_aLine_133 ?_
          refine q_iadd d_X12_aLine_134 ?_
          refine q_aload_n d_X12_aLine_135 rfl ?_
          refine q_getI (k := 14) (j := 14) d_X12_aLine_136 hA.1 fi_12_207 rfl rfl ?_
          refine q_iastore (m := 64) d_X12_aLine_139 hA.2.2.2.2.2.1 (by decide) rfl (w_s21 _ _) w_s21 (fun g22 s23 w_s23 => ?_)
          refine q_aload_n d_X12_aLine_140 rfl ?_
          refine q_sipush d_X12_aLine_141 rfl ?_
          refine q_callZ (R' := R_X12_need) (runV (As := [vi 159]) (rest := []) d_X12_aLine_144.1 cv_12_236 rfl hA.1 rfl rfl ⟨rfl, rfl, by decide, by decide⟩ (Nat.le_of_ble_eq_true rfl) w_s23 rfl) d_X12_aLine_144.2 (c_X12_need κ a hA 159 (inr_d rfl) s23) rfl (fun r24 s25 h_r24 w_s25 => ?_)
          exact q_iretz d_X12_aLine_147 rfl h_r24 w_s25
        refine q_icmp_ne d_X12_aLine_107 (w_s20 _ _) (inr_d rfl) (fun c26 => ?_) (fun c26 => ?_)
        · refine q_aload_n d_X12_aLine_110 rfl ?_
          refine q_callV (R' := R_X12_next0) (runV (As := []) (rest := []) d_X12_aLine_111.1 cv_12_204 rfl hA.1 rfl rfl ⟨rfl, rfl, by decide, by decide⟩ (Nat.le_of_ble_eq_true rfl) w_s20 rfl) d_X12_aLine_111.2 (c_X12_next0 κ a hA s20) rfl (fun r27 s28 w_s28 => ?_)
          refine q_aload_n d_X12_aLine_114 rfl ?_
          refine q_callZ (R' := R_X12_any) (runV (As := []) (rest := []) d_X12_aLine_115.1 cv_12_233 rfl hA.1 rfl rfl ⟨rfl, rfl, by decide, by decide⟩ (Nat.le_of_ble_eq_true rfl) w_s28 rfl) d_X12_aLine_115.2 (c_X12_any κ a hA s28) rfl (fun r29 s30 h_r29 w_s30 => ?_)
          refine q_if_ne d_X12_aLine_118 (inr_b h_r29) (fun c31 => ?_) (fun c31 => ?_)
          · refine q_iconst d_X12_aLine_121 ?_
            exact q_iretz d_X12_aLine_122 rfl (Or.inl rfl) w_s30
          · refine q_sub (ls' := [some (vr κ a)]) ⟨rfl, trivial⟩ ?_
            exact hj123 s30 w_s30
        · refine q_sub (ls' := [some (vr κ a)]) ⟨rfl, trivial⟩ ?_
          exact hj123 s20 w_s20
abbrev R_X12_readsLaw : Room := { frames := 52, cells := 0, slots := 0, locals := 1814 }
noncomputable def f_X12_readsLaw_12 (a : Nat) : Nat → Int → Mem → Res
  | 0, _, _ => none
  | n + 1, x1, s0 =>
    if x1 = 0 then (some (x1, s0)) else (if s0 a 18 = 0 then (some (x1, s0)) else (bd (f_X12_aLine a s0) fun r5 s6 => jn (fun (y7 : Int) => lm (mup s6 a 13 (wr ((s6 a 13) + y7))) fun s8 => f_X12_readsLaw_12 a n r5 s8) fun j42 => if r5 = 0 then (j42 0) else (j42 1)))
noncomputable def f_X12_readsLaw (a : Nat) (s0 : Mem) : Res :=
  lm (mup s0 a 13 0) fun s1 => lm (mup s1 a 14 0) fun s2 => f_X12_readsLaw_12 a FU 1 s2
set_option maxHeartbeats 4000000 in
set_option maxRecDepth 10000 in
theorem l_X12_readsLaw_12 (κ : Kp) (a : Nat) (hA : At12 κ a)   : ∀ (n : Nat) (x1 : Int) (h_x1 : x1 = 0 ∨ x1 = 1) (s0 : Mem) (w_s0 : WF s0), EO κ M_X12_readsLaw R_X12_readsLaw 12 [some (vr κ a), some (vi x1)] [] s0 (f_X12_readsLaw_12 a n x1 s0) := by
  intro n
  induction n with
  | zero => exact fun _ _ _ _ => q_none
  | succ n ih =>
    intro x1 h_x1 s0 w_s0
    rw [f_X12_readsLaw_12]
    refine q_iload_n (x := x1) d_X12_readsLaw_12 rfl ?_
    refine q_if_eq d_X12_readsLaw_13 (inr_b h_x1) (fun c3 => ?_) (fun c3 => ?_)
    · refine q_iload_n (x := x1) d_X12_readsLaw_49 rfl ?_
      exact q_iretz d_X12_readsLaw_50 rfl h_x1 w_s0
    · refine q_aload_n d_X12_readsLaw_16 rfl ?_
      refine q_getI (k := 18) (j := 18) d_X12_readsLaw_17 hA.1 fi_12_180 rfl rfl ?_
      refine q_if_eq d_X12_readsLaw_20 (w_s0 _ _) (fun c4 => ?_) (fun c4 => ?_)
      · refine q_iload_n (x := x1) d_X12_readsLaw_49 rfl ?_
        exact q_iretz d_X12_readsLaw_50 rfl h_x1 w_s0
      · refine q_aload_n d_X12_readsLaw_23 rfl ?_
        refine q_callZ (R' := R_X12_aLine) (runV (As := []) (rest := []) d_X12_readsLaw_24.1 cv_12_245 rfl hA.1 rfl rfl ⟨rfl, rfl, by decide, by decide⟩ (Nat.le_of_ble_eq_true rfl) w_s0 rfl) d_X12_readsLaw_24.2 (c_X12_aLine κ a hA s0) rfl (fun r5 s6 h_r5 w_s6 => ?_)
        refine q_istore_n d_X12_readsLaw_27 rfl ?_
        refine q_aload_n d_X12_readsLaw_28 rfl ?_
        refine q_dup d_X12_readsLaw_29 rfl ?_
        refine q_getI (k := 13) (j := 13) d_X12_readsLaw_30 hA.1 fi_12_242 rfl rfl ?_
        refine q_iload_n (x := r5) d_X12_readsLaw_33 rfl ?_
        refine q_jn (α := Int → Res) (fun j42 => ∀ (y7 : Int) (h_y7 : y7 = 0 ∨ y7 = 1), EO κ M_X12_readsLaw R_X12_readsLaw 42 [some (vr κ a), some (vi r5)] [vi y7, vi (s6 a 13), vr κ a] s6 (j42 y7)) ?_ (fun j42 hj42 => ?_)
        · intro y7 h_y7
          refine q_iadd d_X12_readsLaw_42 ?_
          refine q_putI (k := 13) (j := 13) d_X12_readsLaw_43 hA.1 fp_12_242 rfl rfl (inr_wr _) w_s6 (fun s8 w_s8 => ?_)
          refine q_goto d_X12_readsLaw_46 ?_
          refine q_sub (ls' := [some (vr κ a), some (vi r5)]) ⟨rfl, rfl, trivial⟩ ?_
          exact ih r5 h_r5 s8 w_s8
        refine q_if_eq d_X12_readsLaw_34 (inr_b h_r5) (fun c9 => ?_) (fun c9 => ?_)
        · refine q_iconst d_X12_readsLaw_41 ?_
          refine q_sub (ls' := [some (vr κ a), some (vi r5)]) ⟨rfl, rfl, trivial⟩ ?_
          exact hj42 0 (Or.inl rfl)
        · refine q_iconst d_X12_readsLaw_37 ?_
          refine q_goto d_X12_readsLaw_38 ?_
          refine q_sub (ls' := [some (vr κ a), some (vi r5)]) ⟨rfl, rfl, trivial⟩ ?_
          exact hj42 1 (Or.inr rfl)
set_option maxHeartbeats 4000000 in
set_option maxRecDepth 10000 in
theorem c_X12_readsLaw (κ : Kp) (a : Nat) (hA : At12 κ a) (s0 : Mem) : ∀ r σ', f_X12_readsLaw a s0 = some (r, σ') → Ct κ M_X12_readsLaw R_X12_readsLaw [vr κ a] s0 r σ' := by
  intro r σ' ho
  refine Ct.of (by decide) (Nat.le_of_ble_eq_true rfl) (cat_ok rfl) (fun w_s0 => ?_) ⟨rfl, rfl⟩
  refine q_ent (ls' := [some (vr κ a), none]) (o := f_X12_readsLaw a s0) ⟨rfl, trivial⟩ ?_ ho
  unfold f_X12_readsLaw
  refine q_aload_n d_X12_readsLaw_0 rfl ?_
  refine q_iconst d_X12_readsLaw_1 ?_
  refine q_putI (k := 13) (j := 13) d_X12_readsLaw_2 hA.1 fp_12_242 rfl rfl (inr_b (Or.inl rfl)) w_s0 (fun s1 w_s1 => ?_)
  refine q_aload_n d_X12_readsLaw_5 rfl ?_
  refine q_iconst d_X12_readsLaw_6 ?_
  refine q_putI (k := 14) (j := 14) d_X12_readsLaw_7 hA.1 fp_12_207 rfl rfl (inr_b (Or.inl rfl)) w_s1 (fun s2 w_s2 => ?_)
  refine q_iconst d_X12_readsLaw_10 ?_
  refine q_istore_n d_X12_readsLaw_11 rfl ?_
  refine q_sub (ls' := [some (vr κ a), some (vi 1)]) ⟨rfl, rfl, trivial⟩ ?_
  exact l_X12_readsLaw_12 κ a hA   FU 1 (Or.inr rfl) s2 w_s2
abbrev R_X12_number : Room := { frames := 9, cells := 0, slots := 0, locals := 190 }
noncomputable def f_X12_number (a : Nat) (x1 : Int) (x2 : Int) (x3 : Int) (s0 : Mem) : Res :=
  if s0 a 18 = 2 then (bd (f_X12_isIn (s0 a 20) x2 x3 s0) fun r2 s3 => if r2 = 0 then (bd (f_X12_bad a 2 s3) fun r5 s6 => some (r5, s6)) else (gd ((0 : Int) ≤ x1 ∧ x1 < 64) (lm (mup s3 (a + 7) x1 (s3 a 20)) fun s8 => bd (f_X12_next0 a s8) fun r9 s10 => some (1, s10)))) else (bd (f_X12_bad a 1 s0) fun r11 s12 => some (r11, s12))
set_option maxHeartbeats 4000000 in
set_option maxRecDepth 10000 in
theorem c_X12_number (κ : Kp) (a : Nat) (hA : At12 κ a) (x1 : Int) (h_x1 : InR x1) (x2 : Int) (h_x2 : InR x2) (x3 : Int) (h_x3 : InR x3) (s0 : Mem) : ∀ r σ', f_X12_number a x1 x2 x3 s0 = some (r, σ') → Ct κ M_X12_number R_X12_number [vr κ a, vi x1, vi x2, vi x3] s0 r σ' := by
  intro r σ' ho
  refine Ct.of (by decide) (Nat.le_of_ble_eq_true rfl) (cat_ok rfl) (fun w_s0 => ?_) ⟨rfl, rfl⟩
  refine q_ent (ls' := [some (vr κ a), some (vi x1), some (vi x2), some (vi x3)]) (o := f_X12_number a x1 x2 x3 s0) ⟨rfl, rfl, rfl, rfl, trivial⟩ ?_ ho
  unfold f_X12_number
  refine q_aload_n d_X12_number_0 rfl ?_
  refine q_getI (k := 18) (j := 18) d_X12_number_1 hA.1 fi_12_180 rfl rfl ?_
  refine q_iconst d_X12_number_4 ?_
  refine q_icmp_eq d_X12_number_5 (w_s0 _ _) (inr_d rfl) (fun c1 => ?_) (fun c1 => ?_)
  · refine q_aload_n d_X12_number_14 rfl ?_
    refine q_getI (k := 20) (j := 20) d_X12_number_15 hA.1 fi_12_192 rfl rfl ?_
    refine q_iload_n (x := x2) d_X12_number_18 rfl ?_
    refine q_iload_n (x := x3) d_X12_number_19 rfl ?_
    refine q_callZ (R' := R_X12_isIn) (runS (As := [vi (s0 a 20), vi x2, vi x3]) (rest := []) d_X12_number_20.1 cv_12_60 rfl ⟨rfl, rfl, by decide, by decide⟩ (Nat.le_of_ble_eq_true rfl) w_s0 rfl) d_X12_number_20.2 (c_X12_isIn κ (s0 a 20) (w_s0 _ _) x2 h_x2 x3 h_x3 s0) rfl (fun r2 s3 h_r2 w_s3 => ?_)
    refine q_if_ne d_X12_number_23 (inr_b h_r2) (fun c4 => ?_) (fun c4 => ?_)
    · refine q_aload_n d_X12_number_26 rfl ?_
      refine q_iconst d_X12_number_27 ?_
      refine q_callZ (R' := R_X12_bad) (runV (As := [vi 2]) (rest := []) d_X12_number_28.1 cv_12_201 rfl hA.1 rfl rfl ⟨rfl, rfl, by decide, by decide⟩ (Nat.le_of_ble_eq_true rfl) w_s3 rfl) d_X12_number_28.2 (c_X12_bad κ a hA 2 (inr_d rfl) s3) rfl (fun r5 s6 h_r5 w_s6 => ?_)
      exact q_iretz d_X12_number_31 rfl h_r5 w_s6
    · refine q_aload_n d_X12_number_32 rfl ?_
      refine q_getR (n := 7) d_X12_number_33 hA.1 fi_12_28 rfl (Nat.le_of_ble_eq_true rfl) ?_
      refine q_iload_n (x := x1) d_X12_number_36 rfl ?_
      refine q_aload_n d_X12_number_37 rfl ?_
      refine q_getI (k := 20) (j := 20) d_X12_number_38 hA.1 fi_12_192 rfl rfl ?_
      refine q_iastore (m := 64) d_X12_number_41 hA.2.2.2.2.2.2.2.1 (by decide) rfl (w_s3 _ _) w_s3 (fun g7 s8 w_s8 => ?_)
      refine q_aload_n d_X12_number_42 rfl ?_
      refine q_callV (R' := R_X12_next0) (runV (As := []) (rest := []) d_X12_number_43.1 cv_12_204 rfl hA.1 rfl rfl ⟨rfl, rfl, by decide, by decide⟩ (Nat.le_of_ble_eq_true rfl) w_s8 rfl) d_X12_number_43.2 (c_X12_next0 κ a hA s8) rfl (fun r9 s10 w_s10 => ?_)
      refine q_iconst d_X12_number_46 ?_
      exact q_iretz d_X12_number_47 rfl (Or.inr rfl) w_s10
  · refine q_aload_n d_X12_number_8 rfl ?_
    refine q_iconst d_X12_number_9 ?_
    refine q_callZ (R' := R_X12_bad) (runV (As := [vi 1]) (rest := []) d_X12_number_10.1 cv_12_201 rfl hA.1 rfl rfl ⟨rfl, rfl, by decide, by decide⟩ (Nat.le_of_ble_eq_true rfl) w_s0 rfl) d_X12_number_10.2 (c_X12_bad κ a hA 1 (inr_b (Or.inr rfl)) s0) rfl (fun r11 s12 h_r11 w_s12 => ?_)
    exact q_iretz d_X12_number_13 rfl h_r11 w_s12
abbrev R_X12_told : Room := { frames := 10, cells := 0, slots := 0, locals := 213 }
noncomputable def f_X12_told (a : Nat) (x1 : Int) (x2 : Int) (x3 : Int) (x4 : Int) (s0 : Mem) : Res :=
  bd (f_X12_need a x2 s0) fun r1 s2 => if r1 = 0 then (some (0, s2)) else (bd (f_X12_number a x1 x3 x4 s2) fun r4 s5 => if r4 = 0 then (some (0, s5)) else (some (1, s5)))
set_option maxHeartbeats 4000000 in
set_option maxRecDepth 10000 in
theorem c_X12_told (κ : Kp) (a : Nat) (hA : At12 κ a) (x1 : Int) (h_x1 : InR x1) (x2 : Int) (h_x2 : InR x2) (x3 : Int) (h_x3 : InR x3) (x4 : Int) (h_x4 : InR x4) (s0 : Mem) : ∀ r σ', f_X12_told a x1 x2 x3 x4 s0 = some (r, σ') → Ct κ M_X12_told R_X12_told [vr κ a, vi x1, vi x2, vi x3, vi x4] s0 r σ' := by
  intro r σ' ho
  refine Ct.of (by decide) (Nat.le_of_ble_eq_true rfl) (cat_ok rfl) (fun w_s0 => ?_) ⟨rfl, rfl⟩
  refine q_ent (ls' := [some (vr κ a), some (vi x1), some (vi x2), some (vi x3), some (vi x4)]) (o := f_X12_told a x1 x2 x3 x4 s0) ⟨rfl, rfl, rfl, rfl, rfl, trivial⟩ ?_ ho
  unfold f_X12_told
  refine q_aload_n d_X12_told_0 rfl ?_
  refine q_iload_n (x := x2) d_X12_told_1 rfl ?_
  refine q_callZ (R' := R_X12_need) (runV (As := [vi x2]) (rest := []) d_X12_told_2.1 cv_12_236 rfl hA.1 rfl rfl ⟨rfl, rfl, by decide, by decide⟩ (Nat.le_of_ble_eq_true rfl) w_s0 rfl) d_X12_told_2.2 (c_X12_need κ a hA x2 h_x2 s0) rfl (fun r1 s2 h_r1 w_s2 => ?_)
  refine q_if_eq d_X12_told_5 (inr_b h_r1) (fun c3 => ?_) (fun c3 => ?_)
  · refine q_iconst d_X12_told_23 ?_
    exact q_iretz d_X12_told_24 rfl (Or.inl rfl) w_s2
  · refine q_aload_n d_X12_told_8 rfl ?_
    refine q_iload_n (x := x1) d_X12_told_9 rfl ?_
    refine q_iload_n (x := x3) d_X12_told_10 rfl ?_
    refine q_iload (x := x4) d_X12_told_11 rfl ?_
    refine q_callZ (R' := R_X12_number) (runV (As := [vi x1, vi x3, vi x4]) (rest := []) d_X12_told_13.1 cv_12_248 rfl hA.1 rfl rfl ⟨rfl, rfl, by decide, by decide⟩ (Nat.le_of_ble_eq_true rfl) w_s2 rfl) d_X12_told_13.2 (c_X12_number κ a hA x1 h_x1 x3 h_x3 x4 h_x4 s2) rfl (fun r4 s5 h_r4 w_s5 => ?_)
    refine q_if_eq d_X12_told_16 (inr_b h_r4) (fun c6 => ?_) (fun c6 => ?_)
    · refine q_iconst d_X12_told_23 ?_
      exact q_iretz d_X12_told_24 rfl (Or.inl rfl) w_s5
    · refine q_iconst d_X12_told_19 ?_
      refine q_goto d_X12_told_20 ?_
      exact q_iretz d_X12_told_24 rfl (Or.inr rfl) w_s5
abbrev R_X12_aCurrent : Room := { frames := 11, cells := 0, slots := 0, locals := 237 }
noncomputable def f_X12_aCurrent (a : Nat) (s0 : Mem) : Res :=
  bd (f_X12_told a (wr (2 * (s0 a 15))) 7 0 23 s0) fun r1 s2 => if r1 = 0 then (some (0, s2)) else (jn (fun (y4 : Int) => jn (fun (_ : Unit) => bd (f_X12_next0 a s2) fun r5 s6 => bd (f_X12_number a (wr ((wr (2 * (s0 a 15))) + 1)) 0 5 s6) fun r7 s8 => if r7 = 0 then (some (0, s8)) else (jn (fun (y10 : Int) => gd ((0 : Int) ≤ wr ((wr (2 * (s0 a 15))) + 1) ∧ wr ((wr (2 * (s0 a 15))) + 1) < 64) (lm (mup s8 (a + 7) (wr ((wr (2 * (s0 a 15))) + 1)) y10) fun s12 => some (1, s12))) fun j105 => if y4 = 0 then (gd ((0 : Int) ≤ wr ((wr (2 * (s0 a 15))) + 1) ∧ wr ((wr (2 * (s0 a 15))) + 1) < 64) (j105 (s8 (a + 7) (wr ((wr (2 * (s0 a 15))) + 1))))) else (gd ((0 : Int) ≤ wr ((wr (2 * (s0 a 15))) + 1) ∧ wr ((wr (2 * (s0 a 15))) + 1) < 64) (j105 (wr (-(s8 (a + 7) (wr ((wr (2 * (s0 a 15))) + 1))))))))) fun j56 => if y4 = 0 then (if s2 a 18 = 8 then (j56 ()) else (bd (f_X12_bad a 1 s2) fun r18 s19 => some (r18, s19))) else (j56 ())) fun j36 => if s2 a 18 = 9 then (j36 1) else (j36 0))
set_option maxHeartbeats 4000000 in
set_option maxRecDepth 10000 in
theorem c_X12_aCurrent (κ : Kp) (a : Nat) (hA : At12 κ a) (s0 : Mem) : ∀ r σ', f_X12_aCurrent a s0 = some (r, σ') → Ct κ M_X12_aCurrent R_X12_aCurrent [vr κ a] s0 r σ' := by
  intro r σ' ho
  refine Ct.of (by decide) (Nat.le_of_ble_eq_true rfl) (cat_ok rfl) (fun w_s0 => ?_) ⟨rfl, rfl⟩
  refine q_ent (ls' := [some (vr κ a), none, none]) (o := f_X12_aCurrent a s0) ⟨rfl, trivial⟩ ?_ ho
  unfold f_X12_aCurrent
  refine q_iconst d_X12_aCurrent_0 ?_
  refine q_aload_n d_X12_aCurrent_1 rfl ?_
  refine q_getI (k := 15) (j := 15) d_X12_aCurrent_2 hA.1 fi_12_251 rfl rfl ?_
  refine q_imul d_X12_aCurrent_5 ?_
  refine q_istore_n d_X12_aCurrent_6 rfl ?_
  refine q_aload_n d_X12_aCurrent_7 rfl ?_
  refine q_iload_n (x := wr (2 * (s0 a 15))) d_X12_aCurrent_8 rfl ?_
  refine q_bipush d_X12_aCurrent_9 rfl ?_
  refine q_iconst d_X12_aCurrent_11 ?_
  refine q_bipush d_X12_aCurrent_12 rfl ?_
  refine q_callZ (R' := R_X12_told) (runV (As := [vi (wr (2 * (s0 a 15))), vi 7, vi 0, vi 23]) (rest := []) d_X12_aCurrent_14.1 cv_12_254 rfl hA.1 rfl rfl ⟨rfl, rfl, by decide, by decide⟩ (Nat.le_of_ble_eq_true rfl) w_s0 rfl) d_X12_aCurrent_14.2 (c_X12_told κ a hA (wr (2 * (s0 a 15))) (inr_wr _) 7 (inr_d rfl) 0 (inr_b (Or.inl rfl)) 23 (inr_d rfl) s0) rfl (fun r1 s2 h_r1 w_s2 => ?_)
  refine q_if_ne d_X12_aCurrent_17 (inr_b h_r1) (fun c3 => ?_) (fun c3 => ?_)
  · refine q_iconst d_X12_aCurrent_20 ?_
    exact q_iretz d_X12_aCurrent_21 rfl (Or.inl rfl) w_s2
  · refine q_aload_n d_X12_aCurrent_22 rfl ?_
    refine q_getI (k := 18) (j := 18) d_X12_aCurrent_23 hA.1 fi_12_180 rfl rfl ?_
    refine q_bipush d_X12_aCurrent_26 rfl ?_
    refine q_jn (α := Int → Res) (fun j36 => ∀ (y4 : Int) (h_y4 : y4 = 0 ∨ y4 = 1), EO κ M_X12_aCurrent R_X12_aCurrent 36 [some (vr κ a), some (vi (wr (2 * (s0 a 15)))), none] [vi y4] s2 (j36 y4)) ?_ (fun j36 hj36 => ?_)
    · intro y4 h_y4
      refine q_istore_n d_X12_aCurrent_36 rfl ?_
      refine q_iload_n (x := y4) d_X12_aCurrent_37 rfl ?_
      refine q_jn (α := Unit → Res) (fun j56 => EO κ M_X12_aCurrent R_X12_aCurrent 56 [some (vr κ a), some (vi (wr (2 * (s0 a 15)))), some (vi y4)] [] s2 (j56 ())) ?_ (fun j56 hj56 => ?_)
      · refine q_aload_n d_X12_aCurrent_56 rfl ?_
        refine q_callV (R' := R_X12_next0) (runV (As := []) (rest := []) d_X12_aCurrent_57.1 cv_12_204 rfl hA.1 rfl rfl ⟨rfl, rfl, by decide, by decide⟩ (Nat.le_of_ble_eq_true rfl) w_s2 rfl) d_X12_aCurrent_57.2 (c_X12_next0 κ a hA s2) rfl (fun r5 s6 w_s6 => ?_)
        refine q_aload_n d_X12_aCurrent_60 rfl ?_
        refine q_iload_n (x := wr (2 * (s0 a 15))) d_X12_aCurrent_61 rfl ?_
        refine q_iconst d_X12_aCurrent_62 ?_
        refine q_iadd d_X12_aCurrent_63 ?_
        refine q_iconst d_X12_aCurrent_64 ?_
        refine q_iconst d_X12_aCurrent_65 ?_
        refine q_callZ (R' := R_X12_number) (runV (As := [vi (wr ((wr (2 * (s0 a 15))) + 1)), vi 0, vi 5]) (rest := []) d_X12_aCurrent_66.1 cv_12_248 rfl hA.1 rfl rfl ⟨rfl, rfl, by decide, by decide⟩ (Nat.le_of_ble_eq_true rfl) w_s6 rfl) d_X12_aCurrent_66.2 (c_X12_number κ a hA (wr ((wr (2 * (s0 a 15))) + 1)) (inr_wr _) 0 (inr_b (Or.inl rfl)) 5 (inr_d rfl) s6) rfl (fun r7 s8 h_r7 w_s8 => ?_)
        refine q_if_ne d_X12_aCurrent_69 (inr_b h_r7) (fun c9 => ?_) (fun c9 => ?_)
        · refine q_iconst d_X12_aCurrent_72 ?_
          exact q_iretz d_X12_aCurrent_73 rfl (Or.inl rfl) w_s8
        · refine q_aload_n d_X12_aCurrent_74 rfl ?_
          refine q_getR (n := 7) d_X12_aCurrent_75 hA.1 fi_12_28 rfl (Nat.le_of_ble_eq_true rfl) ?_
          refine q_iload_n (x := wr (2 * (s0 a 15))) d_X12_aCurrent_78 rfl ?_
          refine q_iconst d_X12_aCurrent_79 ?_
          refine q_iadd d_X12_aCurrent_80 ?_
          refine q_iload_n (x := y4) d_X12_aCurrent_81 rfl ?_
          refine q_jn (α := Int → Res) (fun j105 => ∀ (y10 : Int) (h_y10 : InR y10), EO κ M_X12_aCurrent R_X12_aCurrent 105 [none, none, none] [vi y10, vi (wr ((wr (2 * (s0 a 15))) + 1)), vr κ (a + 7)] s8 (j105 y10)) ?_ (fun j105 hj105 => ?_)
          · intro y10 h_y10
            refine q_iastore (m := 64) d_X12_aCurrent_105 hA.2.2.2.2.2.2.2.1 (by decide) rfl h_y10 w_s8 (fun g11 s12 w_s12 => ?_)
            refine q_iconst d_X12_aCurrent_106 ?_
            exact q_iretz d_X12_aCurrent_107 rfl (Or.inr rfl) w_s12
          refine q_if_eq d_X12_aCurrent_82 (inr_b h_y4) (fun c13 => ?_) (fun c13 => ?_)
          · refine q_aload_n d_X12_aCurrent_97 rfl ?_
            refine q_getR (n := 7) d_X12_aCurrent_98 hA.1 fi_12_28 rfl (Nat.le_of_ble_eq_true rfl) ?_
            refine q_iload_n (x := wr (2 * (s0 a 15))) d_X12_aCurrent_101 rfl ?_
            refine q_iconst d_X12_aCurrent_102 ?_
            refine q_iadd d_X12_aCurrent_103 ?_
            refine q_iaload (m := 64) d_X12_aCurrent_104 hA.2.2.2.2.2.2.2.1 (by decide) rfl (fun g14 => ?_)
            refine q_sub (ls' := [none, none, none]) trivial ?_
            exact hj105 (s8 (a + 7) (wr ((wr (2 * (s0 a 15))) + 1))) (w_s8 _ _)
          · refine q_aload_n d_X12_aCurrent_85 rfl ?_
            refine q_getR (n := 7) d_X12_aCurrent_86 hA.1 fi_12_28 rfl (Nat.le_of_ble_eq_true rfl) ?_
            refine q_iload_n (x := wr (2 * (s0 a 15))) d_X12_aCurrent_89 rfl ?_
            refine q_iconst d_X12_aCurrent_90 ?_
            refine q_iadd d_X12_aCurrent_91 ?_
            refine q_iaload (m := 64) d_X12_aCurrent_92 hA.2.2.2.2.2.2.2.1 (by decide) rfl (fun g15 => ?_)
            refine q_ineg d_X12_aCurrent_93 ?_
            refine q_goto d_X12_aCurrent_94 ?_
            refine q_sub (ls' := [none, none, none]) trivial ?_
            exact hj105 (wr (-(s8 (a + 7) (wr ((wr (2 * (s0 a 15))) + 1))))) (inr_wr _)
      refine q_if_ne d_X12_aCurrent_38 (inr_b h_y4) (fun c16 => ?_) (fun c16 => ?_)
      · refine q_aload_n d_X12_aCurrent_41 rfl ?_
        refine q_getI (k := 18) (j := 18) d_X12_aCurrent_42 hA.1 fi_12_180 rfl rfl ?_
        refine q_bipush d_X12_aCurrent_45 rfl ?_
        refine q_icmp_eq d_X12_aCurrent_47 (w_s2 _ _) (inr_d rfl) (fun c17 => ?_) (fun c17 => ?_)
        · refine q_sub (ls' := [some (vr κ a), some (vi (wr (2 * (s0 a 15)))), some (vi y4)]) ⟨rfl, rfl, rfl, trivial⟩ ?_
          exact hj56 
        · refine q_aload_n d_X12_aCurrent_50 rfl ?_
          refine q_iconst d_X12_aCurrent_51 ?_
          refine q_callZ (R' := R_X12_bad) (runV (As := [vi 1]) (rest := []) d_X12_aCurrent_52.1 cv_12_201 rfl hA.1 rfl rfl ⟨rfl, rfl, by decide, by decide⟩ (Nat.le_of_ble_eq_true rfl) w_s2 rfl) d_X12_aCurrent_52.2 (c_X12_bad κ a hA 1 (inr_b (Or.inr rfl)) s2) rfl (fun r18 s19 h_r18 w_s19 => ?_)
          exact q_iretz d_X12_aCurrent_55 rfl h_r18 w_s19
      · refine q_sub (ls' := [some (vr κ a), some (vi (wr (2 * (s0 a 15)))), some (vi y4)]) ⟨rfl, rfl, rfl, trivial⟩ ?_
        exact hj56 
    refine q_icmp_ne d_X12_aCurrent_28 (w_s2 _ _) (inr_d rfl) (fun c20 => ?_) (fun c20 => ?_)
    · refine q_iconst d_X12_aCurrent_31 ?_
      refine q_goto d_X12_aCurrent_32 ?_
      refine q_sub (ls' := [some (vr κ a), some (vi (wr (2 * (s0 a 15)))), none]) ⟨rfl, rfl, trivial⟩ ?_
      exact hj36 1 (Or.inr rfl)
    · refine q_iconst d_X12_aCurrent_35 ?_
      refine q_sub (ls' := [some (vr κ a), some (vi (wr (2 * (s0 a 15)))), none]) ⟨rfl, rfl, trivial⟩ ?_
      exact hj36 0 (Or.inl rfl)
abbrev R_X12_aPlan : Room := { frames := 11, cells := 0, slots := 0, locals := 237 }
noncomputable def f_X12_aPlan (a : Nat) (s0 : Mem) : Res :=
  bd (f_X12_told a (wr (4 * (s0 a 15))) 10 0 999 s0) fun r1 s2 => if r1 = 0 then (some (0, s2)) else (bd (f_X12_isIn (s2 a 18) 11 14 s2) fun r4 s5 => if r4 = 0 then (bd (f_X12_bad a 1 s5) fun r7 s8 => some (r7, s8)) else (gd ((0 : Int) ≤ wr ((wr (4 * (s0 a 15))) + 1) ∧ wr ((wr (4 * (s0 a 15))) + 1) < 64) (lm (mup s5 (a + 7) (wr ((wr (4 * (s0 a 15))) + 1)) (s5 a 18)) fun s10 => gd ((0 : Int) ≤ wr ((wr (4 * (s0 a 15))) + 3) ∧ wr ((wr (4 * (s0 a 15))) + 3) < 64) (lm (mup s10 (a + 7) (wr ((wr (4 * (s0 a 15))) + 3)) 0) fun s12 => bd (f_X12_next0 a s12) fun r13 s14 => jn (fun (y15 : Int) => bd (f_X12_number a (wr ((wr (4 * (s0 a 15))) + 2)) 0 y15 s14) fun r16 s17 => if r16 = 0 then (some (0, s17)) else (if s5 a 18 = 14 then (bd (f_X12_told a (wr ((wr (4 * (s0 a 15))) + 3)) 15 0 15 s17) fun r20 s21 => if r20 = 0 then (some (0, s21)) else (some (1, s21))) else (some (1, s17)))) fun j95 => if s5 a 18 = 12 then (j95 9) else (gd ((0 : Int) ≤ 58 ∧ (58 : Int) < 1732) (j95 (wr ((s14 (a + 1) 58) - 1))))))))
set_option maxHeartbeats 4000000 in
set_option maxRecDepth 10000 in
theorem c_X12_aPlan (κ : Kp) (a : Nat) (hA : At12 κ a) (s0 : Mem) : ∀ r σ', f_X12_aPlan a s0 = some (r, σ') → Ct κ M_X12_aPlan R_X12_aPlan [vr κ a] s0 r σ' := by
  intro r σ' ho
  refine Ct.of (by decide) (Nat.le_of_ble_eq_true rfl) (cat_ok rfl) (fun w_s0 => ?_) ⟨rfl, rfl⟩
  refine q_ent (ls' := [some (vr κ a), none, none]) (o := f_X12_aPlan a s0) ⟨rfl, trivial⟩ ?_ ho
  unfold f_X12_aPlan
  refine q_iconst d_X12_aPlan_0 ?_
  refine q_aload_n d_X12_aPlan_1 rfl ?_
  refine q_getI (k := 15) (j := 15) d_X12_aPlan_2 hA.1 fi_12_251 rfl rfl ?_
  refine q_imul d_X12_aPlan_5 ?_
  refine q_istore_n d_X12_aPlan_6 rfl ?_
  refine q_aload_n d_X12_aPlan_7 rfl ?_
  refine q_iload_n (x := wr (4 * (s0 a 15))) d_X12_aPlan_8 rfl ?_
  refine q_bipush d_X12_aPlan_9 rfl ?_
  refine q_iconst d_X12_aPlan_11 ?_
  refine q_sipush d_X12_aPlan_12 rfl ?_
  refine q_callZ (R' := R_X12_told) (runV (As := [vi (wr (4 * (s0 a 15))), vi 10, vi 0, vi 999]) (rest := []) d_X12_aPlan_15.1 cv_12_254 rfl hA.1 rfl rfl ⟨rfl, rfl, by decide, by decide⟩ (Nat.le_of_ble_eq_true rfl) w_s0 rfl) d_X12_aPlan_15.2 (c_X12_told κ a hA (wr (4 * (s0 a 15))) (inr_wr _) 10 (inr_d rfl) 0 (inr_b (Or.inl rfl)) 999 (inr_d rfl) s0) rfl (fun r1 s2 h_r1 w_s2 => ?_)
  refine q_if_ne d_X12_aPlan_18 (inr_b h_r1) (fun c3 => ?_) (fun c3 => ?_)
  · refine q_iconst d_X12_aPlan_21 ?_
    exact q_iretz d_X12_aPlan_22 rfl (Or.inl rfl) w_s2
  · refine q_aload_n d_X12_aPlan_23 rfl ?_
    refine q_getI (k := 18) (j := 18) d_X12_aPlan_24 hA.1 fi_12_180 rfl rfl ?_
    refine q_bipush d_X12_aPlan_27 rfl ?_
    refine q_bipush d_X12_aPlan_29 rfl ?_
    refine q_callZ (R' := R_X12_isIn) (runS (As := [vi (s2 a 18), vi 11, vi 14]) (rest := []) d_X12_aPlan_31.1 cv_12_60 rfl ⟨rfl, rfl, by decide, by decide⟩ (Nat.le_of_ble_eq_true rfl) w_s2 rfl) d_X12_aPlan_31.2 (c_X12_isIn κ (s2 a 18) (w_s2 _ _) 11 (inr_d rfl) 14 (inr_d rfl) s2) rfl (fun r4 s5 h_r4 w_s5 => ?_)
    refine q_if_ne d_X12_aPlan_34 (inr_b h_r4) (fun c6 => ?_) (fun c6 => ?_)
    · refine q_aload_n d_X12_aPlan_37 rfl ?_
      refine q_iconst d_X12_aPlan_38 ?_
      refine q_callZ (R' := R_X12_bad) (runV (As := [vi 1]) (rest := []) d_X12_aPlan_39.1 cv_12_201 rfl hA.1 rfl rfl ⟨rfl, rfl, by decide, by decide⟩ (Nat.le_of_ble_eq_true rfl) w_s5 rfl) d_X12_aPlan_39.2 (c_X12_bad κ a hA 1 (inr_b (Or.inr rfl)) s5) rfl (fun r7 s8 h_r7 w_s8 => ?_)
      exact q_iretz d_X12_aPlan_42 rfl h_r7 w_s8
    · refine q_aload_n d_X12_aPlan_43 rfl ?_
      refine q_getI (k := 18) (j := 18) d_X12_aPlan_44 hA.1 fi_12_180 rfl rfl ?_
      refine q_istore_n d_X12_aPlan_47 rfl ?_
      refine q_aload_n d_X12_aPlan_48 rfl ?_
      refine q_getR (n := 7) d_X12_aPlan_49 hA.1 fi_12_28 rfl (Nat.le_of_ble_eq_true rfl) ?_
      refine q_iload_n (x := wr (4 * (s0 a 15))) d_X12_aPlan_52 rfl ?_
      refine q_iconst d_X12_aPlan_53 ?_
      refine q_iadd d_X12_aPlan_54 ?_
      refine q_iload_n (x := s5 a 18) d_X12_aPlan_55 rfl ?_
      refine q_iastore (m := 64) d_X12_aPlan_56 hA.2.2.2.2.2.2.2.1 (by decide) rfl (w_s5 _ _) w_s5 (fun g9 s10 w_s10 => ?_)
      refine q_aload_n d_X12_aPlan_57 rfl ?_
      refine q_getR (n := 7) d_X12_aPlan_58 hA.1 fi_12_28 rfl (Nat.le_of_ble_eq_true rfl) ?_
      refine q_iload_n (x := wr (4 * (s0 a 15))) d_X12_aPlan_61 rfl ?_
      refine q_iconst d_X12_aPlan_62 ?_
      refine q_iadd d_X12_aPlan_63 ?_
      refine q_iconst d_X12_aPlan_64 ?_
      refine q_iastore (m := 64) d_X12_aPlan_65 hA.2.2.2.2.2.2.2.1 (by decide) rfl (inr_b (Or.inl rfl)) w_s10 (fun g11 s12 w_s12 => ?_)
      refine q_aload_n d_X12_aPlan_66 rfl ?_
      refine q_callV (R' := R_X12_next0) (runV (As := []) (rest := []) d_X12_aPlan_67.1 cv_12_204 rfl hA.1 rfl rfl ⟨rfl, rfl, by decide, by decide⟩ (Nat.le_of_ble_eq_true rfl) w_s12 rfl) d_X12_aPlan_67.2 (c_X12_next0 κ a hA s12) rfl (fun r13 s14 w_s14 => ?_)
      refine q_aload_n d_X12_aPlan_70 rfl ?_
      refine q_iload_n (x := wr (4 * (s0 a 15))) d_X12_aPlan_71 rfl ?_
      refine q_iconst d_X12_aPlan_72 ?_
      refine q_iadd d_X12_aPlan_73 ?_
      refine q_iconst d_X12_aPlan_74 ?_
      refine q_iload_n (x := s5 a 18) d_X12_aPlan_75 rfl ?_
      refine q_bipush d_X12_aPlan_76 rfl ?_
      refine q_jn (α := Int → Res) (fun j95 => ∀ (y15 : Int) (h_y15 : InR y15), EO κ M_X12_aPlan R_X12_aPlan 95 [some (vr κ a), some (vi (wr (4 * (s0 a 15)))), some (vi (s5 a 18))] [vi y15, vi 0, vi (wr ((wr (4 * (s0 a 15))) + 2)), vr κ a] s14 (j95 y15)) ?_ (fun j95 hj95 => ?_)
      · intro y15 h_y15
        refine q_callZ (R' := R_X12_number) (runV (As := [vi (wr ((wr (4 * (s0 a 15))) + 2)), vi 0, vi y15]) (rest := []) d_X12_aPlan_95.1 cv_12_248 rfl hA.1 rfl rfl ⟨rfl, rfl, by decide, by decide⟩ (Nat.le_of_ble_eq_true rfl) w_s14 rfl) d_X12_aPlan_95.2 (c_X12_number κ a hA (wr ((wr (4 * (s0 a 15))) + 2)) (inr_wr _) 0 (inr_b (Or.inl rfl)) y15 h_y15 s14) rfl (fun r16 s17 h_r16 w_s17 => ?_)
        refine q_if_ne d_X12_aPlan_98 (inr_b h_r16) (fun c18 => ?_) (fun c18 => ?_)
        · refine q_iconst d_X12_aPlan_101 ?_
          exact q_iretz d_X12_aPlan_102 rfl (Or.inl rfl) w_s17
        · refine q_iload_n (x := s5 a 18) d_X12_aPlan_103 rfl ?_
          refine q_bipush d_X12_aPlan_104 rfl ?_
          refine q_icmp_ne d_X12_aPlan_106 (w_s5 _ _) (inr_d rfl) (fun c19 => ?_) (fun c19 => ?_)
          · refine q_aload_n d_X12_aPlan_109 rfl ?_
            refine q_iload_n (x := wr (4 * (s0 a 15))) d_X12_aPlan_110 rfl ?_
            refine q_iconst d_X12_aPlan_111 ?_
            refine q_iadd d_X12_aPlan_112 ?_
            refine q_bipush d_X12_aPlan_113 rfl ?_
            refine q_iconst d_X12_aPlan_115 ?_
            refine q_bipush d_X12_aPlan_116 rfl ?_
            refine q_callZ (R' := R_X12_told) (runV (As := [vi (wr ((wr (4 * (s0 a 15))) + 3)), vi 15, vi 0, vi 15]) (rest := []) d_X12_aPlan_118.1 cv_12_254 rfl hA.1 rfl rfl ⟨rfl, rfl, by decide, by decide⟩ (Nat.le_of_ble_eq_true rfl) w_s17 rfl) d_X12_aPlan_118.2 (c_X12_told κ a hA (wr ((wr (4 * (s0 a 15))) + 3)) (inr_wr _) 15 (inr_d rfl) 0 (inr_b (Or.inl rfl)) 15 (inr_d rfl) s17) rfl (fun r20 s21 h_r20 w_s21 => ?_)
            refine q_if_eq d_X12_aPlan_121 (inr_b h_r20) (fun c22 => ?_) (fun c22 => ?_)
            · refine q_iconst d_X12_aPlan_128 ?_
              exact q_iretz d_X12_aPlan_129 rfl (Or.inl rfl) w_s21
            · refine q_iconst d_X12_aPlan_124 ?_
              refine q_goto d_X12_aPlan_125 ?_
              exact q_iretz d_X12_aPlan_129 rfl (Or.inr rfl) w_s21
          · refine q_iconst d_X12_aPlan_124 ?_
            refine q_goto d_X12_aPlan_125 ?_
            exact q_iretz d_X12_aPlan_129 rfl (Or.inr rfl) w_s17
      refine q_icmp_ne d_X12_aPlan_78 (w_s5 _ _) (inr_d rfl) (fun c23 => ?_) (fun c23 => ?_)
      · refine q_bipush d_X12_aPlan_81 rfl ?_
        refine q_goto d_X12_aPlan_83 ?_
        refine q_sub (ls' := [some (vr κ a), some (vi (wr (4 * (s0 a 15)))), some (vi (s5 a 18))]) ⟨rfl, rfl, rfl, trivial⟩ ?_
        exact hj95 9 (inr_d rfl)
      · refine q_aload_n d_X12_aPlan_86 rfl ?_
        refine q_getR (n := 1) d_X12_aPlan_87 hA.1 fi_12_7 rfl (Nat.le_of_ble_eq_true rfl) ?_
        refine q_bipush d_X12_aPlan_90 rfl ?_
        refine q_iaload (m := 1732) d_X12_aPlan_92 hA.2.1 (by decide) rfl (fun g24 => ?_)
        refine q_iconst d_X12_aPlan_93 ?_
        refine q_isub d_X12_aPlan_94 ?_
        refine q_sub (ls' := [some (vr κ a), some (vi (wr (4 * (s0 a 15)))), some (vi (s5 a 18))]) ⟨rfl, rfl, rfl, trivial⟩ ?_
        exact hj95 (wr ((s14 (a + 1) 58) - 1)) (inr_wr _)
abbrev R_X12_another : Room := { frames := 9, cells := 0, slots := 0, locals := 190 }
noncomputable def f_X12_another (a : Nat) (x1 : Int) (s0 : Mem) : Res :=
  jn (fun (_ : Unit) => jn (fun (s1 : Mem) => if s1 a 18 = 2 then (gd ((0 : Int) ≤ wr (x1 + 2) ∧ wr (x1 + 2) < 64) (gd ((0 : Int) ≤ wr (x1 + 2) ∧ wr (x1 + 2) < 64) (lm (mup s1 (a + 7) (wr (x1 + 2)) (ior (s1 (a + 7) (wr (x1 + 2))) (ishl 1 (s1 a 20)))) fun s5 => bd (f_X12_next0 a s5) fun r6 s7 => some (1, s7)))) else (bd (f_X12_bad a 1 s1) fun r8 s9 => some (r8, s9))) fun j54 => if s0 a 18 = 2 then (bd (f_X12_isIn (s0 a 20) 0 11 s0) fun r11 s12 => if r11 = 0 then (bd (f_X12_bad a 2 s12) fun r14 s15 => some (r14, s15)) else (j54 s12)) else (j54 s0)) fun j27 => if s0 a 18 = 2 then (gd ((0 : Int) ≤ x1 ∧ x1 < 64) (if s0 a 20 = s0 (a + 7) x1 then (bd (f_X12_bad a 2 s0) fun r19 s20 => some (r19, s20)) else (j27 ()))) else (j27 ())
set_option maxHeartbeats 4000000 in
set_option maxRecDepth 10000 in
theorem c_X12_another (κ : Kp) (a : Nat) (hA : At12 κ a) (x1 : Int) (h_x1 : InR x1) (s0 : Mem) : ∀ r σ', f_X12_another a x1 s0 = some (r, σ') → Ct κ M_X12_another R_X12_another [vr κ a, vi x1] s0 r σ' := by
  intro r σ' ho
  refine Ct.of (by decide) (Nat.le_of_ble_eq_true rfl) (cat_ok rfl) (fun w_s0 => ?_) ⟨rfl, rfl⟩
  refine q_ent (ls' := [some (vr κ a), some (vi x1)]) (o := f_X12_another a x1 s0) ⟨rfl, rfl, trivial⟩ ?_ ho
  unfold f_X12_another
  refine q_aload_n d_X12_another_0 rfl ?_
  refine q_getI (k := 18) (j := 18) d_X12_another_1 hA.1 fi_12_180 rfl rfl ?_
  refine q_iconst d_X12_another_4 ?_
  refine q_jn (α := Unit → Res) (fun j27 => EO κ M_X12_another R_X12_another 27 [some (vr κ a), some (vi x1)] [] s0 (j27 ())) ?_ (fun j27 hj27 => ?_)
  · refine q_aload_n d_X12_another_27 rfl ?_
    refine q_getI (k := 18) (j := 18) d_X12_another_28 hA.1 fi_12_180 rfl rfl ?_
    refine q_iconst d_X12_another_31 ?_
    refine q_jn (α := Mem → Res) (fun j54 => ∀ (s1 : Mem) (w_s1 : WF s1), EO κ M_X12_another R_X12_another 54 [some (vr κ a), some (vi x1)] [] s1 (j54 s1)) ?_ (fun j54 hj54 => ?_)
    · intro s1 w_s1
      refine q_aload_n d_X12_another_54 rfl ?_
      refine q_getI (k := 18) (j := 18) d_X12_another_55 hA.1 fi_12_180 rfl rfl ?_
      refine q_iconst d_X12_another_58 ?_
      refine q_icmp_eq d_X12_another_59 (w_s1 _ _) (inr_d rfl) (fun c2 => ?_) (fun c2 => ?_)
      · refine q_aload_n d_X12_another_68 rfl ?_
        refine q_getR (n := 7) d_X12_another_69 hA.1 fi_12_28 rfl (Nat.le_of_ble_eq_true rfl) ?_
        refine q_iload_n (x := x1) d_X12_another_72 rfl ?_
        refine q_iconst d_X12_another_73 ?_
        refine q_iadd d_X12_another_74 ?_
        refine q_dup2 d_X12_another_75 rfl rfl ?_
        refine q_iaload (m := 64) d_X12_another_76 hA.2.2.2.2.2.2.2.1 (by decide) rfl (fun g3 => ?_)
        refine q_iconst d_X12_another_77 ?_
        refine q_aload_n d_X12_another_78 rfl ?_
        refine q_getI (k := 20) (j := 20) d_X12_another_79 hA.1 fi_12_192 rfl rfl ?_
        refine q_ishl d_X12_another_82 ?_
        refine q_ior d_X12_another_83 ?_
        refine q_iastore (m := 64) d_X12_another_84 hA.2.2.2.2.2.2.2.1 (by decide) rfl (inr_i32 _) w_s1 (fun g4 s5 w_s5 => ?_)
        refine q_aload_n d_X12_another_85 rfl ?_
        refine q_callV (R' := R_X12_next0) (runV (As := []) (rest := []) d_X12_another_86.1 cv_12_204 rfl hA.1 rfl rfl ⟨rfl, rfl, by decide, by decide⟩ (Nat.le_of_ble_eq_true rfl) w_s5 rfl) d_X12_another_86.2 (c_X12_next0 κ a hA s5) rfl (fun r6 s7 w_s7 => ?_)
        refine q_iconst d_X12_another_89 ?_
        exact q_iretz d_X12_another_90 rfl (Or.inr rfl) w_s7
      · refine q_aload_n d_X12_another_62 rfl ?_
        refine q_iconst d_X12_another_63 ?_
        refine q_callZ (R' := R_X12_bad) (runV (As := [vi 1]) (rest := []) d_X12_another_64.1 cv_12_201 rfl hA.1 rfl rfl ⟨rfl, rfl, by decide, by decide⟩ (Nat.le_of_ble_eq_true rfl) w_s1 rfl) d_X12_another_64.2 (c_X12_bad κ a hA 1 (inr_b (Or.inr rfl)) s1) rfl (fun r8 s9 h_r8 w_s9 => ?_)
        exact q_iretz d_X12_another_67 rfl h_r8 w_s9
    refine q_icmp_ne d_X12_another_32 (w_s0 _ _) (inr_d rfl) (fun c10 => ?_) (fun c10 => ?_)
    · refine q_aload_n d_X12_another_35 rfl ?_
      refine q_getI (k := 20) (j := 20) d_X12_another_36 hA.1 fi_12_192 rfl rfl ?_
      refine q_iconst d_X12_another_39 ?_
      refine q_bipush d_X12_another_40 rfl ?_
      refine q_callZ (R' := R_X12_isIn) (runS (As := [vi (s0 a 20), vi 0, vi 11]) (rest := []) d_X12_another_42.1 cv_12_60 rfl ⟨rfl, rfl, by decide, by decide⟩ (Nat.le_of_ble_eq_true rfl) w_s0 rfl) d_X12_another_42.2 (c_X12_isIn κ (s0 a 20) (w_s0 _ _) 0 (inr_b (Or.inl rfl)) 11 (inr_d rfl) s0) rfl (fun r11 s12 h_r11 w_s12 => ?_)
      refine q_if_ne d_X12_another_45 (inr_b h_r11) (fun c13 => ?_) (fun c13 => ?_)
      · refine q_aload_n d_X12_another_48 rfl ?_
        refine q_iconst d_X12_another_49 ?_
        refine q_callZ (R' := R_X12_bad) (runV (As := [vi 2]) (rest := []) d_X12_another_50.1 cv_12_201 rfl hA.1 rfl rfl ⟨rfl, rfl, by decide, by decide⟩ (Nat.le_of_ble_eq_true rfl) w_s12 rfl) d_X12_another_50.2 (c_X12_bad κ a hA 2 (inr_d rfl) s12) rfl (fun r14 s15 h_r14 w_s15 => ?_)
        exact q_iretz d_X12_another_53 rfl h_r14 w_s15
      · refine q_sub (ls' := [some (vr κ a), some (vi x1)]) ⟨rfl, rfl, trivial⟩ ?_
        exact hj54 s12 w_s12
    · refine q_sub (ls' := [some (vr κ a), some (vi x1)]) ⟨rfl, rfl, trivial⟩ ?_
      exact hj54 s0 w_s0
  refine q_icmp_ne d_X12_another_5 (w_s0 _ _) (inr_d rfl) (fun c16 => ?_) (fun c16 => ?_)
  · refine q_aload_n d_X12_another_8 rfl ?_
    refine q_getI (k := 20) (j := 20) d_X12_another_9 hA.1 fi_12_192 rfl rfl ?_
    refine q_aload_n d_X12_another_12 rfl ?_
    refine q_getR (n := 7) d_X12_another_13 hA.1 fi_12_28 rfl (Nat.le_of_ble_eq_true rfl) ?_
    refine q_iload_n (x := x1) d_X12_another_16 rfl ?_
    refine q_iaload (m := 64) d_X12_another_17 hA.2.2.2.2.2.2.2.1 (by decide) rfl (fun g17 => ?_)
    refine q_icmp_ne d_X12_another_18 (w_s0 _ _) (w_s0 _ _) (fun c18 => ?_) (fun c18 => ?_)
    · refine q_aload_n d_X12_another_21 rfl ?_
      refine q_iconst d_X12_another_22 ?_
      refine q_callZ (R' := R_X12_bad) (runV (As := [vi 2]) (rest := []) d_X12_another_23.1 cv_12_201 rfl hA.1 rfl rfl ⟨rfl, rfl, by decide, by decide⟩ (Nat.le_of_ble_eq_true rfl) w_s0 rfl) d_X12_another_23.2 (c_X12_bad κ a hA 2 (inr_d rfl) s0) rfl (fun r19 s20 h_r19 w_s20 => ?_)
      exact q_iretz d_X12_another_26 rfl h_r19 w_s20
    · refine q_sub (ls' := [some (vr κ a), some (vi x1)]) ⟨rfl, rfl, trivial⟩ ?_
      exact hj27 
  · refine q_sub (ls' := [some (vr κ a), some (vi x1)]) ⟨rfl, rfl, trivial⟩ ?_
    exact hj27 

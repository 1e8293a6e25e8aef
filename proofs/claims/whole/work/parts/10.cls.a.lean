abbrev R_X11_copy : Room := { frames := 1, cells := 0, slots := 0, locals := 60 }
noncomputable def f_X11_copy (a0 n0 : Nat) (a1 n1 : Nat) (s0 : Mem) : Res :=
  gd (((0 : Int) ≤ 0 ∧ (0 : Int) ≤ 0 ∧ (0 : Int) ≤ mmn (n0 : Int) (n1 : Int)) ∧ (0 : Int) + (mmn (n0 : Int) (n1 : Int)) ≤ (n0 : Int) ∧ (0 : Int) + (mmn (n0 : Int) (n1 : Int)) ≤ (n1 : Int)) (lm (mcp s0 a0 0 a1 0 (mmn (n0 : Int) (n1 : Int))) fun s1 => some (0, s1))
set_option maxHeartbeats 4000000 in
set_option maxRecDepth 10000 in
theorem c_X11_copy (κ : Kp) (a0 n0 : Nat) (hA0 : kd κ a0 = (1, n0)) (hn0 : n0 ≤ 100000) (a1 n1 : Nat) (hA1 : kd κ a1 = (1, n1)) (hn1 : n1 ≤ 100000) (s0 : Mem) : ∀ r σ', f_X11_copy a0 n0 a1 n1 s0 = some (r, σ') → Ct κ M_X11_copy R_X11_copy [vr κ a0, vr κ a1] s0 r σ' := by
  intro r σ' ho
  refine Ct.of (by decide) (Nat.le_of_ble_eq_true rfl) (cat_ok rfl) (fun w_s0 => ?_) ⟨rfl, rfl⟩
  refine q_ent (ls' := [some (vr κ a0), some (vr κ a1)]) (o := f_X11_copy a0 n0 a1 n1 s0) ⟨rfl, rfl, trivial⟩ ?_ ho
  unfold f_X11_copy
  refine q_aload_n d_X11_copy_0 rfl ?_
  refine q_iconst d_X11_copy_1 ?_
  refine q_aload_n d_X11_copy_2 rfl ?_
  refine q_iconst d_X11_copy_3 ?_
  refine q_aload_n d_X11_copy_4 rfl ?_
  refine q_alen (m := (n0 : Int)) d_X11_copy_5 hA0 rfl ?_
  refine q_aload_n d_X11_copy_6 rfl ?_
  refine q_alen (m := (n1 : Int)) d_X11_copy_7 hA1 rfl ?_
  refine q_mmin d_X11_copy_8 cv_11_349 mw_min ⟨by decide, Nat.le_of_ble_eq_true rfl⟩ (inr_n hn0) (inr_n hn1) ?_
  refine q_copyi (m0 := (n0 : Int)) (m1 := (n1 : Int)) d_X11_copy_11 cv_11_354 cp_w ⟨by decide, by decide +kernel⟩ hA0 hA1 hn0 hn1 rfl rfl w_s0 (fun s1 w_s1 => ?_)
  exact q_vret d_X11_copy_14 rfl w_s1
abbrev R_X0_become : Room := { frames := 2, cells := 0, slots := 0, locals := 81 }
noncomputable def f_X0_become (a : Nat) (a1 : Nat) (s0 : Mem) : Res :=
  bd (f_X11_copy (a1 + 1) 8 (a + 1) 8 s0) fun r1 s2 => bd (f_X11_copy (a1 + 2) 8 (a + 2) 8 s2) fun r3 s4 => lm (mup s4 a 4 (s4 a1 4)) fun s5 => some (0, s5)
set_option maxHeartbeats 4000000 in
set_option maxRecDepth 10000 in
theorem c_X0_become (κ : Kp) (a : Nat) (hA : At0 κ a) (a1 : Nat) (hA1 : At0 κ a1) (s0 : Mem) : ∀ r σ', f_X0_become a a1 s0 = some (r, σ') → Ct κ M_X0_become R_X0_become [vr κ a, vr κ a1] s0 r σ' := by
  intro r σ' ho
  refine Ct.of (by decide) (Nat.le_of_ble_eq_true rfl) (cat_ok rfl) (fun w_s0 => ?_) ⟨rfl, rfl⟩
  refine q_ent (ls' := [some (vr κ a), some (vr κ a1)]) (o := f_X0_become a a1 s0) ⟨rfl, rfl, trivial⟩ ?_ ho
  unfold f_X0_become
  refine q_aload_n d_X0_become_0 rfl ?_
  refine q_getR (n := 1) d_X0_become_1 hA1.1 fi_0_9 rfl (Nat.le_of_ble_eq_true rfl) ?_
  refine q_aload_n d_X0_become_4 rfl ?_
  refine q_getR (n := 1) d_X0_become_5 hA.1 fi_0_9 rfl (Nat.le_of_ble_eq_true rfl) ?_
  refine q_callV (R' := R_X11_copy) (runN (As := [vr κ (a1 + 1), vr κ (a + 1)]) (rest := []) d_X0_become_8.1 cv_0_24 rfl ⟨rfl, rfl, by decide, by decide⟩ (Nat.le_of_ble_eq_true rfl) w_s0 rfl) d_X0_become_8.2 (c_X11_copy κ (a1 + 1) 8 hA1.2.1 (by decide) (a + 1) 8 hA.2.1 (by decide) s0) rfl (fun r1 s2 w_s2 => ?_)
  refine q_aload_n d_X0_become_11 rfl ?_
  refine q_getR (n := 2) d_X0_become_12 hA1.1 fi_0_15 rfl (Nat.le_of_ble_eq_true rfl) ?_
  refine q_aload_n d_X0_become_15 rfl ?_
  refine q_getR (n := 2) d_X0_become_16 hA.1 fi_0_15 rfl (Nat.le_of_ble_eq_true rfl) ?_
  refine q_callV (R' := R_X11_copy) (runN (As := [vr κ (a1 + 2), vr κ (a + 2)]) (rest := []) d_X0_become_19.1 cv_0_24 rfl ⟨rfl, rfl, by decide, by decide⟩ (Nat.le_of_ble_eq_true rfl) w_s2 rfl) d_X0_become_19.2 (c_X11_copy κ (a1 + 2) 8 hA1.2.2.1 (by decide) (a + 2) 8 hA.2.2.1 (by decide) s2) rfl (fun r3 s4 w_s4 => ?_)
  refine q_aload_n d_X0_become_22 rfl ?_
  refine q_aload_n d_X0_become_23 rfl ?_
  refine q_getI (k := 4) (j := 4) d_X0_become_24 hA1.1 fi_0_28 rfl rfl ?_
  refine q_putI (k := 4) (j := 4) d_X0_become_27 hA.1 fp_0_28 rfl rfl (w_s4 _ _) w_s4 (fun s5 w_s5 => ?_)
  exact q_vret d_X0_become_30 rfl w_s5
abbrev R_X11_within : Room := { frames := 0, cells := 0, slots := 0, locals := 0 }
noncomputable def f_X11_within (x0 : Int) (x1 : Int) (x2 : Int) (s0 : Mem) : Res :=
  if x0 < x1 then (some (0, s0)) else (if x2 < x0 then (some (0, s0)) else (some (1, s0)))
set_option maxHeartbeats 4000000 in
set_option maxRecDepth 10000 in
theorem c_X11_within (κ : Kp) (x0 : Int) (h_x0 : InR x0) (x1 : Int) (h_x1 : InR x1) (x2 : Int) (h_x2 : InR x2) (s0 : Mem) : ∀ r σ', f_X11_within x0 x1 x2 s0 = some (r, σ') → Ct κ M_X11_within R_X11_within [vi x0, vi x1, vi x2] s0 r σ' := by
  intro r σ' ho
  refine Ct.of (by decide) (Nat.le_of_ble_eq_true rfl) (cat_ok rfl) (fun w_s0 => ?_) ⟨rfl, rfl⟩
  refine q_ent (ls' := [some (vi x0), some (vi x1), some (vi x2)]) (o := f_X11_within x0 x1 x2 s0) ⟨rfl, rfl, rfl, trivial⟩ ?_ ho
  unfold f_X11_within
  refine q_iload_n (x := x0) d_X11_within_0 rfl ?_
  refine q_iload_n (x := x1) d_X11_within_1 rfl ?_
  refine q_icmp_lt d_X11_within_2 h_x0 h_x1 (fun c1 => ?_) (fun c1 => ?_)
  · refine q_iconst d_X11_within_14 ?_
    exact q_iretz d_X11_within_15 rfl (Or.inl rfl) w_s0
  · refine q_iload_n (x := x0) d_X11_within_5 rfl ?_
    refine q_iload_n (x := x2) d_X11_within_6 rfl ?_
    refine q_icmp_gt d_X11_within_7 h_x0 h_x2 (fun c2 => ?_) (fun c2 => ?_)
    · refine q_iconst d_X11_within_14 ?_
      exact q_iretz d_X11_within_15 rfl (Or.inl rfl) w_s0
    · refine q_iconst d_X11_within_10 ?_
      refine q_goto d_X11_within_11 ?_
      exact q_iretz d_X11_within_15 rfl (Or.inr rfl) w_s0
abbrev R_X0_take : Room := { frames := 1, cells := 0, slots := 0, locals := 22 }
noncomputable def f_X0_take (a : Nat) (x1 : Int) (x2 : Int) (s0 : Mem) : Res :=
  jn (fun (y1 : Int) => bd (f_X11_within x1 0 30 s0) fun r2 s3 => if r2 = 0 then (some ((-1), s3)) else (bd (f_X11_within x2 0 y1 s3) fun r5 s6 => if r5 = 0 then (some ((-1), s6)) else (if s6 a 4 < 8 then (gd ((0 : Int) ≤ s6 a 4 ∧ s6 a 4 < 8) (lm (mup s6 (a + 1) (s6 a 4) x1) fun s10 => gd ((0 : Int) ≤ s10 a 4 ∧ s10 a 4 < 8) (lm (mup s10 (a + 2) (s10 a 4) x2) fun s12 => lm (mup s12 a 4 (wr ((s12 a 4) + 1))) fun s13 => some (s13 a 4, s13)))) else (some ((-1), s6))))) fun j14 => if x1 < 2 then (j14 1000) else (j14 (wr (x1 - 1)))
set_option maxHeartbeats 4000000 in
set_option maxRecDepth 10000 in
theorem c_X0_take (κ : Kp) (a : Nat) (hA : At0 κ a) (x1 : Int) (h_x1 : InR x1) (x2 : Int) (h_x2 : InR x2) (s0 : Mem) : ∀ r σ', f_X0_take a x1 x2 s0 = some (r, σ') → Ct κ M_X0_take R_X0_take [vr κ a, vi x1, vi x2] s0 r σ' := by
  intro r σ' ho
  refine Ct.of (by decide) (Nat.le_of_ble_eq_true rfl) (cat_ok rfl) (fun w_s0 => ?_) ⟨rfl, rfl⟩
  refine q_ent (ls' := [some (vr κ a), some (vi x1), some (vi x2), none]) (o := f_X0_take a x1 x2 s0) ⟨rfl, rfl, rfl, trivial⟩ ?_ ho
  unfold f_X0_take
  refine q_iload_n (x := x1) d_X0_take_0 rfl ?_
  refine q_iconst d_X0_take_1 ?_
  refine q_jn (α := Int → Res) (fun j14 => ∀ (y1 : Int) (h_y1 : InR y1), EO κ M_X0_take R_X0_take 14 [some (vr κ a), some (vi x1), some (vi x2), none] [vi y1] s0 (j14 y1)) ?_ (fun j14 hj14 => ?_)
  · intro y1 h_y1
    refine q_istore_n d_X0_take_14 rfl ?_
    refine q_iload_n (x := x1) d_X0_take_15 rfl ?_
    refine q_iconst d_X0_take_16 ?_
    refine q_bipush d_X0_take_17 rfl ?_
    refine q_callZ (R' := R_X11_within) (runN (As := [vi x1, vi 0, vi 30]) (rest := []) d_X0_take_19.1 cv_0_32 rfl ⟨rfl, rfl, by decide, by decide⟩ (Nat.le_of_ble_eq_true rfl) w_s0 rfl) d_X0_take_19.2 (c_X11_within κ x1 h_x1 0 (inr_b (Or.inl rfl)) 30 (inr_d rfl) s0) rfl (fun r2 s3 h_r2 w_s3 => ?_)
    refine q_if_eq d_X0_take_22 (inr_b h_r2) (fun c4 => ?_) (fun c4 => ?_)
    · refine q_iconst d_X0_take_43 ?_
      exact q_ireti d_X0_take_44 rfl (inr_d rfl) w_s3
    · refine q_iload_n (x := x2) d_X0_take_25 rfl ?_
      refine q_iconst d_X0_take_26 ?_
      refine q_iload_n (x := y1) d_X0_take_27 rfl ?_
      refine q_callZ (R' := R_X11_within) (runN (As := [vi x2, vi 0, vi y1]) (rest := []) d_X0_take_28.1 cv_0_32 rfl ⟨rfl, rfl, by decide, by decide⟩ (Nat.le_of_ble_eq_true rfl) w_s3 rfl) d_X0_take_28.2 (c_X11_within κ x2 h_x2 0 (inr_b (Or.inl rfl)) y1 h_y1 s3) rfl (fun r5 s6 h_r5 w_s6 => ?_)
      refine q_if_eq d_X0_take_31 (inr_b h_r5) (fun c7 => ?_) (fun c7 => ?_)
      · refine q_iconst d_X0_take_43 ?_
        exact q_ireti d_X0_take_44 rfl (inr_d rfl) w_s6
      · refine q_aload_n d_X0_take_34 rfl ?_
        refine q_getI (k := 4) (j := 4) d_X0_take_35 hA.1 fi_0_28 rfl rfl ?_
        refine q_bipush d_X0_take_38 rfl ?_
        refine q_icmp_lt d_X0_take_40 (w_s6 _ _) (inr_d rfl) (fun c8 => ?_) (fun c8 => ?_)
        · refine q_aload_n d_X0_take_45 rfl ?_
          refine q_getR (n := 1) d_X0_take_46 hA.1 fi_0_9 rfl (Nat.le_of_ble_eq_true rfl) ?_
          refine q_aload_n d_X0_take_49 rfl ?_
          refine q_getI (k := 4) (j := 4) d_X0_take_50 hA.1 fi_0_28 rfl rfl ?_
          refine q_iload_n (x := x1) d_X0_take_53 rfl ?_
          refine q_iastore (m := 8) d_X0_take_54 hA.2.1 (by decide) rfl h_x1 w_s6 (fun g9 s10 w_s10 => ?_)
          refine q_aload_n d_X0_take_55 rfl ?_
          refine q_getR (n := 2) d_X0_take_56 hA.1 fi_0_15 rfl (Nat.le_of_ble_eq_true rfl) ?_
          refine q_aload_n d_X0_take_59 rfl ?_
          refine q_getI (k := 4) (j := 4) d_X0_take_60 hA.1 fi_0_28 rfl rfl ?_
          refine q_iload_n (x := x2) d_X0_take_63 rfl ?_
          refine q_iastore (m := 8) d_X0_take_64 hA.2.2.1 (by decide) rfl h_x2 w_s10 (fun g11 s12 w_s12 => ?_)
          refine q_aload_n d_X0_take_65 rfl ?_
          refine q_dup d_X0_take_66 rfl ?_
          refine q_getI (k := 4) (j := 4) d_X0_take_67 hA.1 fi_0_28 rfl rfl ?_
          refine q_iconst d_X0_take_70 ?_
          refine q_iadd d_X0_take_71 ?_
          refine q_putI (k := 4) (j := 4) d_X0_take_72 hA.1 fp_0_28 rfl rfl (inr_wr _) w_s12 (fun s13 w_s13 => ?_)
          refine q_aload_n d_X0_take_75 rfl ?_
          refine q_getI (k := 4) (j := 4) d_X0_take_76 hA.1 fi_0_28 rfl rfl ?_
          exact q_ireti d_X0_take_79 rfl (w_s13 _ _) w_s13
        · refine q_iconst d_X0_take_43 ?_
          exact q_ireti d_X0_take_44 rfl (inr_d rfl) w_s6
  refine q_icmp_ge d_X0_take_2 h_x1 (inr_d rfl) (fun c14 => ?_) (fun c14 => ?_)
  · refine q_sipush d_X0_take_5 rfl ?_
    refine q_goto d_X0_take_8 ?_
    refine q_sub (ls' := [some (vr κ a), some (vi x1), some (vi x2), none]) ⟨rfl, rfl, rfl, trivial⟩ ?_
    exact hj14 1000 (inr_d rfl)
  · refine q_iload_n (x := x1) d_X0_take_11 rfl ?_
    refine q_iconst d_X0_take_12 ?_
    refine q_isub d_X0_take_13 ?_
    refine q_sub (ls' := [some (vr κ a), some (vi x1), some (vi x2), none]) ⟨rfl, rfl, rfl, trivial⟩ ?_
    exact hj14 (wr (x1 - 1)) (inr_wr _)
abbrev R_X0_allows : Room := { frames := 0, cells := 0, slots := 0, locals := 0 }
noncomputable def f_X0_allows (a : Nat) (x1 : Int) (x2 : Int) (s0 : Mem) : Res :=
  gd ((0 : Int) ≤ x2 ∧ x2 < 8) (if s0 (a + 1) x2 < 2 then (if s0 (a + 1) x2 = 0 then (gd ((0 : Int) ≤ x2 ∧ x2 < 8) (if x1 < s0 (a + 2) x2 then (some (1, s0)) else (some (0, s0)))) else (gd ((0 : Int) ≤ x2 ∧ x2 < 8) (if x1 < s0 (a + 2) x2 then (some (0, s0)) else (some (1, s0))))) else (gd (s0 (a + 1) x2 ≠ 0) (gd ((0 : Int) ≤ x2 ∧ x2 < 8) (if Int.tmod x1 (s0 (a + 1) x2) = s0 (a + 2) x2 then (some (1, s0)) else (some (0, s0))))))
set_option maxHeartbeats 4000000 in
set_option maxRecDepth 10000 in
theorem c_X0_allows (κ : Kp) (a : Nat) (hA : At0 κ a) (x1 : Int) (h_x1 : InR x1) (x2 : Int) (h_x2 : InR x2) (s0 : Mem) : ∀ r σ', f_X0_allows a x1 x2 s0 = some (r, σ') → Ct κ M_X0_allows R_X0_allows [vr κ a, vi x1, vi x2] s0 r σ' := by
  intro r σ' ho
  refine Ct.of (by decide) (Nat.le_of_ble_eq_true rfl) (cat_ok rfl) (fun w_s0 => ?_) ⟨rfl, rfl⟩
  refine q_ent (ls' := [some (vr κ a), some (vi x1), some (vi x2), none]) (o := f_X0_allows a x1 x2 s0) ⟨rfl, rfl, rfl, trivial⟩ ?_ ho
  unfold f_X0_allows
  refine q_aload_n d_X0_allows_0 rfl ?_
  refine q_getR (n := 1) d_X0_allows_1 hA.1 fi_0_9 rfl (Nat.le_of_ble_eq_true rfl) ?_
  refine q_iload_n (x := x2) d_X0_allows_4 rfl ?_
  refine q_iaload (m := 8) d_X0_allows_5 hA.2.1 (by decide) rfl (fun g1 => ?_)
  refine q_istore_n d_X0_allows_6 rfl ?_
  refine q_iload_n (x := s0 (a + 1) x2) d_X0_allows_7 rfl ?_
  refine q_iconst d_X0_allows_8 ?_
  refine q_icmp_ge d_X0_allows_9 (w_s0 _ _) (inr_d rfl) (fun c2 => ?_) (fun c2 => ?_)
  · refine q_iload_n (x := s0 (a + 1) x2) d_X0_allows_12 rfl ?_
    refine q_if_ne d_X0_allows_13 (w_s0 _ _) (fun c3 => ?_) (fun c3 => ?_)
    · refine q_iload_n (x := x1) d_X0_allows_16 rfl ?_
      refine q_aload_n d_X0_allows_17 rfl ?_
      refine q_getR (n := 2) d_X0_allows_18 hA.1 fi_0_15 rfl (Nat.le_of_ble_eq_true rfl) ?_
      refine q_iload_n (x := x2) d_X0_allows_21 rfl ?_
      refine q_iaload (m := 8) d_X0_allows_22 hA.2.2.1 (by decide) rfl (fun g4 => ?_)
      refine q_icmp_ge d_X0_allows_23 h_x1 (w_s0 _ _) (fun c5 => ?_) (fun c5 => ?_)
      · refine q_iconst d_X0_allows_26 ?_
        refine q_goto d_X0_allows_27 ?_
        exact q_iretz d_X0_allows_49 rfl (Or.inr rfl) w_s0
      · refine q_iconst d_X0_allows_30 ?_
        refine q_goto d_X0_allows_31 ?_
        exact q_iretz d_X0_allows_49 rfl (Or.inl rfl) w_s0
    · refine q_iload_n (x := x1) d_X0_allows_34 rfl ?_
      refine q_aload_n d_X0_allows_35 rfl ?_
      refine q_getR (n := 2) d_X0_allows_36 hA.1 fi_0_15 rfl (Nat.le_of_ble_eq_true rfl) ?_
      refine q_iload_n (x := x2) d_X0_allows_39 rfl ?_
      refine q_iaload (m := 8) d_X0_allows_40 hA.2.2.1 (by decide) rfl (fun g6 => ?_)
      refine q_icmp_lt d_X0_allows_41 h_x1 (w_s0 _ _) (fun c7 => ?_) (fun c7 => ?_)
      · refine q_iconst d_X0_allows_48 ?_
        exact q_iretz d_X0_allows_49 rfl (Or.inl rfl) w_s0
      · refine q_iconst d_X0_allows_44 ?_
        refine q_goto d_X0_allows_45 ?_
        exact q_iretz d_X0_allows_49 rfl (Or.inr rfl) w_s0
  · refine q_iload_n (x := x1) d_X0_allows_50 rfl ?_
    refine q_iload_n (x := s0 (a + 1) x2) d_X0_allows_51 rfl ?_
    refine q_irem d_X0_allows_52 h_x1 (w_s0 _ _) (fun g8 => ?_)
    refine q_aload_n d_X0_allows_53 rfl ?_
    refine q_getR (n := 2) d_X0_allows_54 hA.1 fi_0_15 rfl (Nat.le_of_ble_eq_true rfl) ?_
    refine q_iload_n (x := x2) d_X0_allows_57 rfl ?_
    refine q_iaload (m := 8) d_X0_allows_58 hA.2.2.1 (by decide) rfl (fun g9 => ?_)
    refine q_icmp_ne d_X0_allows_59 (inr_tmod h_x1 (w_s0 _ _)) (w_s0 _ _) (fun c10 => ?_) (fun c10 => ?_)
    · refine q_iconst d_X0_allows_62 ?_
      refine q_goto d_X0_allows_63 ?_
      exact q_iretz d_X0_allows_67 rfl (Or.inr rfl) w_s0
    · refine q_iconst d_X0_allows_66 ?_
      exact q_iretz d_X0_allows_67 rfl (Or.inl rfl) w_s0
abbrev R_X0_fitting : Room := { frames := 1, cells := 0, slots := 0, locals := 23 }
noncomputable def f_X0_fitting_16 (a : Nat) (p2 : Int) (k43 : Int → Mem → Res) : Nat → Int → Int → Mem → Res
  | 0, _, _, _ => none
  | n + 1, x3, x4, s0 =>
    if x4 < s0 a 4 then (if x3 = 0 then (k43 x3 s0) else (bd (f_X0_allows a p2 x4 s0) fun r13 s14 => f_X0_fitting_16 a p2 k43 n r13 (wr (x4 + 1)) s14)) else (k43 x3 s0)
noncomputable def f_X0_fitting_4 (a : Nat) (k63 : Int → Mem → Res) : Nat → Int → Int → Mem → Res
  | 0, _, _, _ => none
  | n + 1, x1, x2, s0 =>
    if x2 < 1000 then (jn (fun (v4 : Int) (s5 : Mem) => jn (fun (v6 : Int) (s7 : Mem) => f_X0_fitting_4 a k63 n v6 (wr (x2 + 1)) s7) fun j57 => if v4 = 0 then (j57 x1 s5) else (gd ((0 : Int) ≤ x1 ∧ x1 < 1000) (lm (mup s5 (a + 3) x1 x2) fun s10 => j57 (wr (x1 + 1)) s10))) fun j43 => f_X0_fitting_16 a x2 j43 FU 1 0 s0) else (k63 x1 s0)
noncomputable def f_X0_fitting (a : Nat) (s0 : Mem) : Res :=
  jn (fun (v1 : Int) (s2 : Mem) => some (v1, s2)) fun j63 => f_X0_fitting_4 a j63 FU 0 0 s0
set_option maxHeartbeats 4000000 in
set_option maxRecDepth 10000 in
theorem l_X0_fitting_16 (κ : Kp) (a : Nat) (hA : At0 κ a) (p1 : Int) (h_p1 : InR p1) (p2 : Int) (h_p2 : InR p2) (k43 : Int → Mem → Res) (hk43 : ∀ (z3 : Int) (h_z3 : z3 = 0 ∨ z3 = 1) (sz : Mem) (w_sz : WF sz), EO κ M_X0_fitting R_X0_fitting 43 [some (vr κ a), some (vi p1), some (vi p2), some (vi z3), none] [] sz (k43 z3 sz)) : ∀ (n : Nat) (x3 : Int) (h_x3 : x3 = 0 ∨ x3 = 1) (x4 : Int) (h_x4 : InR x4) (s0 : Mem) (w_s0 : WF s0), EO κ M_X0_fitting R_X0_fitting 16 [some (vr κ a), some (vi p1), some (vi p2), some (vi x3), some (vi x4)] [] s0 (f_X0_fitting_16 a p2 k43 n x3 x4 s0) := by
  intro n
  induction n with
  | zero => exact fun _ _ _ _ _ _ => q_none
  | succ n ih =>
    intro x3 h_x3 x4 h_x4 s0 w_s0
    rw [f_X0_fitting_16]
    refine q_iload (x := x4) d_X0_fitting_16 rfl ?_
    refine q_aload_n d_X0_fitting_18 rfl ?_
    refine q_getI (k := 4) (j := 4) d_X0_fitting_19 hA.1 fi_0_28 rfl rfl ?_
    refine q_icmp_ge d_X0_fitting_22 h_x4 (w_s0 _ _) (fun c11 => ?_) (fun c11 => ?_)
    · refine q_iload_n (x := x3) d_X0_fitting_25 rfl ?_
      refine q_if_eq d_X0_fitting_26 (inr_b h_x3) (fun c12 => ?_) (fun c12 => ?_)
      · refine q_sub (ls' := [some (vr κ a), some (vi p1), some (vi p2), some (vi x3), none]) ⟨rfl, rfl, rfl, rfl, trivial⟩ ?_
        exact hk43 x3 h_x3 s0 w_s0
      · refine q_aload_n d_X0_fitting_29 rfl ?_
        refine q_iload_n (x := p2) d_X0_fitting_30 rfl ?_
        refine q_iload (x := x4) d_X0_fitting_31 rfl ?_
        refine q_callZ (R' := R_X0_allows) (runV (As := [vi p2, vi x4]) (rest := []) d_X0_fitting_33.1 cv_0_36 rfl hA.1 rfl rfl ⟨rfl, rfl, by decide, by decide⟩ (Nat.le_of_ble_eq_true rfl) w_s0 rfl) d_X0_fitting_33.2 (c_X0_allows κ a hA p2 h_p2 x4 h_x4 s0) rfl (fun r13 s14 h_r13 w_s14 => ?_)
        refine q_istore_n d_X0_fitting_36 rfl ?_
        refine q_iinc (x := x4) d_X0_fitting_37 rfl rfl ?_
        refine q_goto d_X0_fitting_40 ?_
        refine q_sub (ls' := [some (vr κ a), some (vi p1), some (vi p2), some (vi r13), some (vi (wr (x4 + 1)))]) ⟨rfl, rfl, rfl, rfl, rfl, trivial⟩ ?_
        exact ih r13 h_r13 (wr (x4 + 1)) (inr_wr _) s14 w_s14
    · refine q_sub (ls' := [some (vr κ a), some (vi p1), some (vi p2), some (vi x3), none]) ⟨rfl, rfl, rfl, rfl, trivial⟩ ?_
      exact hk43 x3 h_x3 s0 w_s0
set_option maxHeartbeats 4000000 in
set_option maxRecDepth 10000 in
theorem l_X0_fitting_4 (κ : Kp) (a : Nat) (hA : At0 κ a) (k63 : Int → Mem → Res) (hk63 : ∀ (z1 : Int) (h_z1 : InR z1) (sz : Mem) (w_sz : WF sz), EO κ M_X0_fitting R_X0_fitting 63 [none, some (vi z1), none, none, none] [] sz (k63 z1 sz)) : ∀ (n : Nat) (x1 : Int) (h_x1 : InR x1) (x2 : Int) (h_x2 : InR x2) (s0 : Mem) (w_s0 : WF s0), EO κ M_X0_fitting R_X0_fitting 4 [some (vr κ a), some (vi x1), some (vi x2), none, none] [] s0 (f_X0_fitting_4 a k63 n x1 x2 s0) := by
  intro n
  induction n with
  | zero => exact fun _ _ _ _ _ _ => q_none
  | succ n ih =>
    intro x1 h_x1 x2 h_x2 s0 w_s0
    rw [f_X0_fitting_4]
    refine q_iload_n (x := x2) d_X0_fitting_4 rfl ?_
    refine q_sipush d_X0_fitting_5 rfl ?_
    refine q_icmp_ge d_X0_fitting_8 h_x2 (inr_d rfl) (fun c3 => ?_) (fun c3 => ?_)
    · refine q_iconst d_X0_fitting_11 ?_
      refine q_istore_n d_X0_fitting_12 rfl ?_
      refine q_iconst d_X0_fitting_13 ?_
      refine q_istore d_X0_fitting_14 rfl ?_
      refine q_jn (α := Int → Mem → Res) (fun j43 => ∀ (v4 : Int) (h_v4 : v4 = 0 ∨ v4 = 1) (s5 : Mem) (w_s5 : WF s5), EO κ M_X0_fitting R_X0_fitting 43 [some (vr κ a), some (vi x1), some (vi x2), some (vi v4), none] [] s5 (j43 v4 s5)) ?_ (fun j43 hj43 => ?_)
      · intro v4 h_v4 s5 w_s5
        refine q_iload_n (x := v4) d_X0_fitting_43 rfl ?_
        refine q_jn (α := Int → Mem → Res) (fun j57 => ∀ (v6 : Int) (h_v6 : InR v6) (s7 : Mem) (w_s7 : WF s7), EO κ M_X0_fitting R_X0_fitting 57 [some (vr κ a), some (vi v6), some (vi x2), none, none] [] s7 (j57 v6 s7)) ?_ (fun j57 hj57 => ?_)
        · intro v6 h_v6 s7 w_s7
          refine q_iinc (x := x2) d_X0_fitting_57 rfl rfl ?_
          refine q_goto d_X0_fitting_60 ?_
          refine q_sub (ls' := [some (vr κ a), some (vi v6), some (vi (wr (x2 + 1))), none, none]) ⟨rfl, rfl, rfl, trivial⟩ ?_
          exact ih v6 h_v6 (wr (x2 + 1)) (inr_wr _) s7 w_s7
        refine q_if_eq d_X0_fitting_44 (inr_b h_v4) (fun c8 => ?_) (fun c8 => ?_)
        · refine q_sub (ls' := [some (vr κ a), some (vi x1), some (vi x2), none, none]) ⟨rfl, rfl, rfl, trivial⟩ ?_
          exact hj57 x1 h_x1 s5 w_s5
        · refine q_aload_n d_X0_fitting_47 rfl ?_
          refine q_getR (n := 3) d_X0_fitting_48 hA.1 fi_0_18 rfl (Nat.le_of_ble_eq_true rfl) ?_
          refine q_iload_n (x := x1) d_X0_fitting_51 rfl ?_
          refine q_iload_n (x := x2) d_X0_fitting_52 rfl ?_
          refine q_iastore (m := 1000) d_X0_fitting_53 hA.2.2.2.1 (by decide) rfl h_x2 w_s5 (fun g9 s10 w_s10 => ?_)
          refine q_iinc (x := x1) d_X0_fitting_54 rfl rfl ?_
          refine q_sub (ls' := [some (vr κ a), some (vi (wr (x1 + 1))), some (vi x2), none, none]) ⟨rfl, rfl, rfl, trivial⟩ ?_
          exact hj57 (wr (x1 + 1)) (inr_wr _) s10 w_s10
      refine q_sub (ls' := [some (vr κ a), some (vi x1), some (vi x2), some (vi 1), some (vi 0)]) ⟨rfl, rfl, rfl, rfl, rfl, trivial⟩ ?_
      exact l_X0_fitting_16 κ a hA x1 h_x1 x2 h_x2 j43 hj43 FU 1 (Or.inr rfl) 0 (inr_b (Or.inl rfl)) s0 w_s0
    · refine q_sub (ls' := [none, some (vi x1), none, none, none]) ⟨rfl, trivial⟩ ?_
      exact hk63 x1 h_x1 s0 w_s0
set_option maxHeartbeats 4000000 in
set_option maxRecDepth 10000 in
theorem c_X0_fitting (κ : Kp) (a : Nat) (hA : At0 κ a) (s0 : Mem) : ∀ r σ', f_X0_fitting a s0 = some (r, σ') → Ct κ M_X0_fitting R_X0_fitting [vr κ a] s0 r σ' := by
  intro r σ' ho
  refine Ct.of (by decide) (Nat.le_of_ble_eq_true rfl) (cat_ok rfl) (fun w_s0 => ?_) ⟨rfl, rfl⟩
  refine q_ent (ls' := [some (vr κ a), none, none, none, none]) (o := f_X0_fitting a s0) ⟨rfl, trivial⟩ ?_ ho
  unfold f_X0_fitting
  refine q_iconst d_X0_fitting_0 ?_
  refine q_istore_n d_X0_fitting_1 rfl ?_
  refine q_iconst d_X0_fitting_2 ?_
  refine q_istore_n d_X0_fitting_3 rfl ?_
  refine q_jn (α := Int → Mem → Res) (fun j63 => ∀ (v1 : Int) (h_v1 : InR v1) (s2 : Mem) (w_s2 : WF s2), EO κ M_X0_fitting R_X0_fitting 63 [none, some (vi v1), none, none, none] [] s2 (j63 v1 s2)) ?_ (fun j63 hj63 => ?_)
  · intro v1 h_v1 s2 w_s2
    refine q_iload_n (x := v1) d_X0_fitting_63 rfl ?_
    exact q_ireti d_X0_fitting_64 rfl h_v1 w_s2
  refine q_sub (ls' := [some (vr κ a), some (vi 0), some (vi 0), none, none]) ⟨rfl, rfl, rfl, trivial⟩ ?_
  exact l_X0_fitting_4 κ a hA j63 hj63 FU 0 (inr_b (Or.inl rfl)) 0 (inr_b (Or.inl rfl)) s0 w_s0
abbrev R_X0_least : Room := { frames := 2, cells := 0, slots := 0, locals := 47 }
noncomputable def f_X0_least (a : Nat) (s0 : Mem) : Res :=
  bd (f_X0_fitting a s0) fun r1 s2 => if 0 < r1 then (gd ((0 : Int) ≤ 0 ∧ (0 : Int) < 1000) (some (s2 (a + 3) 0, s2))) else (some ((-1), s2))
set_option maxHeartbeats 4000000 in
set_option maxRecDepth 10000 in
theorem c_X0_least (κ : Kp) (a : Nat) (hA : At0 κ a) (s0 : Mem) : ∀ r σ', f_X0_least a s0 = some (r, σ') → Ct κ M_X0_least R_X0_least [vr κ a] s0 r σ' := by
  intro r σ' ho
  refine Ct.of (by decide) (Nat.le_of_ble_eq_true rfl) (cat_ok rfl) (fun w_s0 => ?_) ⟨rfl, rfl⟩
  refine q_ent (ls' := [some (vr κ a)]) (o := f_X0_least a s0) ⟨rfl, trivial⟩ ?_ ho
  unfold f_X0_least
  refine q_aload_n d_X0_least_0 rfl ?_
  refine q_callI (R' := R_X0_fitting) (runV (As := []) (rest := []) d_X0_least_1.1 cv_0_40 rfl hA.1 rfl rfl ⟨rfl, rfl, by decide, by decide⟩ (Nat.le_of_ble_eq_true rfl) w_s0 rfl) d_X0_least_1.2 (c_X0_fitting κ a hA s0) rfl (fun r1 s2 h_r1 w_s2 => ?_)
  refine q_if_le d_X0_least_4 h_r1 (fun c3 => ?_) (fun c3 => ?_)
  · refine q_aload_n d_X0_least_7 rfl ?_
    refine q_getR (n := 3) d_X0_least_8 hA.1 fi_0_18 rfl (Nat.le_of_ble_eq_true rfl) ?_
    refine q_iconst d_X0_least_11 ?_
    refine q_iaload (m := 1000) d_X0_least_12 hA.2.2.2.1 (by decide) rfl (fun g4 => ?_)
    refine q_goto d_X0_least_13 ?_
    exact q_ireti d_X0_least_17 rfl (w_s2 _ _) w_s2
  · refine q_iconst d_X0_least_16 ?_
    exact q_ireti d_X0_least_17 rfl (inr_d rfl) w_s2
abbrev R_X0_greatest : Room := { frames := 2, cells := 0, slots := 0, locals := 47 }
noncomputable def f_X0_greatest (a : Nat) (s0 : Mem) : Res :=
  bd (f_X0_fitting a s0) fun r1 s2 => if 0 < r1 then (gd ((0 : Int) ≤ wr (r1 - 1) ∧ wr (r1 - 1) < 1000) (some (s2 (a + 3) (wr (r1 - 1)), s2))) else (some ((-1), s2))
set_option maxHeartbeats 4000000 in
set_option maxRecDepth 10000 in
theorem c_X0_greatest (κ : Kp) (a : Nat) (hA : At0 κ a) (s0 : Mem) : ∀ r σ', f_X0_greatest a s0 = some (r, σ') → Ct κ M_X0_greatest R_X0_greatest [vr κ a] s0 r σ' := by
  intro r σ' ho
  refine Ct.of (by decide) (Nat.le_of_ble_eq_true rfl) (cat_ok rfl) (fun w_s0 => ?_) ⟨rfl, rfl⟩
  refine q_ent (ls' := [some (vr κ a), none]) (o := f_X0_greatest a s0) ⟨rfl, trivial⟩ ?_ ho
  unfold f_X0_greatest
  refine q_aload_n d_X0_greatest_0 rfl ?_
  refine q_callI (R' := R_X0_fitting) (runV (As := []) (rest := []) d_X0_greatest_1.1 cv_0_40 rfl hA.1 rfl rfl ⟨rfl, rfl, by decide, by decide⟩ (Nat.le_of_ble_eq_true rfl) w_s0 rfl) d_X0_greatest_1.2 (c_X0_fitting κ a hA s0) rfl (fun r1 s2 h_r1 w_s2 => ?_)
  refine q_istore_n d_X0_greatest_4 rfl ?_
  refine q_iload_n (x := r1) d_X0_greatest_5 rfl ?_
  refine q_if_le d_X0_greatest_6 h_r1 (fun c3 => ?_) (fun c3 => ?_)
  · refine q_aload_n d_X0_greatest_9 rfl ?_
    refine q_getR (n := 3) d_X0_greatest_10 hA.1 fi_0_18 rfl (Nat.le_of_ble_eq_true rfl) ?_
    refine q_iload_n (x := r1) d_X0_greatest_13 rfl ?_
    refine q_iconst d_X0_greatest_14 ?_
    refine q_isub d_X0_greatest_15 ?_
    refine q_iaload (m := 1000) d_X0_greatest_16 hA.2.2.2.1 (by decide) rfl (fun g4 => ?_)
    refine q_goto d_X0_greatest_17 ?_
    exact q_ireti d_X0_greatest_21 rfl (w_s2 _ _) w_s2
  · refine q_iconst d_X0_greatest_20 ?_
    exact q_ireti d_X0_greatest_21 rfl (inr_d rfl) w_s2
abbrev R_X0_mostAlike : Room := { frames := 1, cells := 0, slots := 0, locals := 30 }
noncomputable def f_X0_mostAlike_35 (a : Nat) (p1 : Int) (p2 : Int) : Nat → Int → Int → Mem → Res
  | 0, _, _, _ => none
  | n + 1, x3, x4, s0 =>
    if x4 < p2 then (if x4 < 1000 then (jn (fun (y4 : Int) => bd (f_X11_within y4 0 29 s0) fun r5 s6 => jn (fun (v7 : Int) (s8 : Mem) => f_X0_mostAlike_35 a p1 p2 n v7 (wr (x4 + 1)) s8) fun j102 => if r5 = 0 then (j102 x3 s6) else (gd ((0 : Int) ≤ y4 ∧ y4 < 30) (gd ((0 : Int) ≤ y4 ∧ y4 < 30) (lm (mup s6 (a + 4) y4 (wr ((s6 (a + 4) y4) + 1))) fun s12 => gd ((0 : Int) ≤ y4 ∧ y4 < 30) (j102 (mmx x3 (s12 (a + 4) y4)) s12))))) fun j66 => if 0 < p1 then (gd ((0 : Int) ≤ x4 ∧ x4 < 1000) (gd (p1 ≠ 0) (j66 (Int.tmod (s0 (a + 3) x4) p1)))) else (j66 0)) else (some (x3, s0))) else (some (x3, s0))
noncomputable def f_X0_mostAlike_5 (a : Nat) (p1 : Int) (k32 : Mem → Res) : Nat → Int → Mem → Res
  | 0, _, _ => none
  | n + 1, x4, s0 =>
    if x4 < p1 then (if x4 < 30 then (gd ((0 : Int) ≤ x4 ∧ x4 < 30) (lm (mup s0 (a + 4) x4 0) fun s20 => f_X0_mostAlike_5 a p1 k32 n (wr (x4 + 1)) s20)) else (k32 s0)) else (k32 s0)
noncomputable def f_X0_mostAlike (a : Nat) (x1 : Int) (x2 : Int) (s0 : Mem) : Res :=
  jn (fun (s1 : Mem) => f_X0_mostAlike_35 a x1 x2 FU 0 0 s1) fun j32 => f_X0_mostAlike_5 a x1 j32 FU 0 s0
set_option maxHeartbeats 4000000 in
set_option maxRecDepth 10000 in
theorem l_X0_mostAlike_35 (κ : Kp) (a : Nat) (hA : At0 κ a) (p1 : Int) (h_p1 : InR p1) (p2 : Int) (h_p2 : InR p2)   : ∀ (n : Nat) (x3 : Int) (h_x3 : InR x3) (x4 : Int) (h_x4 : InR x4) (s0 : Mem) (w_s0 : WF s0), EO κ M_X0_mostAlike R_X0_mostAlike 35 [some (vr κ a), some (vi p1), some (vi p2), some (vi x3), some (vi x4), none] [] s0 (f_X0_mostAlike_35 a p1 p2 n x3 x4 s0) := by
  intro n
  induction n with
  | zero => exact fun _ _ _ _ _ _ => q_none
  | succ n ih =>
    intro x3 h_x3 x4 h_x4 s0 w_s0
    rw [f_X0_mostAlike_35]
    refine q_iload (x := x4) d_X0_mostAlike_35 rfl ?_
    refine q_iload_n (x := p2) d_X0_mostAlike_37 rfl ?_
    refine q_icmp_ge d_X0_mostAlike_38 h_x4 h_p2 (fun c2 => ?_) (fun c2 => ?_)
    · refine q_iload (x := x4) d_X0_mostAlike_41 rfl ?_
      refine q_sipush d_X0_mostAlike_43 rfl ?_
      refine q_icmp_ge d_X0_mostAlike_46 h_x4 (inr_d rfl) (fun c3 => ?_) (fun c3 => ?_)
      · refine q_iload_n (x := p1) d_X0_mostAlike_49 rfl ?_
        refine q_jn (α := Int → Res) (fun j66 => ∀ (y4 : Int) (h_y4 : InR y4), EO κ M_X0_mostAlike R_X0_mostAlike 66 [some (vr κ a), some (vi p1), some (vi p2), some (vi x3), some (vi x4), none] [vi y4] s0 (j66 y4)) ?_ (fun j66 hj66 => ?_)
        · intro y4 h_y4
          refine q_istore d_X0_mostAlike_66 rfl ?_
          refine q_iload (x := y4) d_X0_mostAlike_68 rfl ?_
          refine q_iconst d_X0_mostAlike_70 ?_
          refine q_bipush d_X0_mostAlike_71 rfl ?_
          refine q_callZ (R' := R_X11_within) (runN (As := [vi y4, vi 0, vi 29]) (rest := []) d_X0_mostAlike_73.1 cv_0_32 rfl ⟨rfl, rfl, by decide, by decide⟩ (Nat.le_of_ble_eq_true rfl) w_s0 rfl) d_X0_mostAlike_73.2 (c_X11_within κ y4 h_y4 0 (inr_b (Or.inl rfl)) 29 (inr_d rfl) s0) rfl (fun r5 s6 h_r5 w_s6 => ?_)
          refine q_jn (α := Int → Mem → Res) (fun j102 => ∀ (v7 : Int) (h_v7 : InR v7) (s8 : Mem) (w_s8 : WF s8), EO κ M_X0_mostAlike R_X0_mostAlike 102 [some (vr κ a), some (vi p1), some (vi p2), some (vi v7), some (vi x4), none] [] s8 (j102 v7 s8)) ?_ (fun j102 hj102 => ?_)
          · intro v7 h_v7 s8 w_s8
            refine q_iinc (x := x4) d_X0_mostAlike_102 rfl rfl ?_
            refine q_goto d_X0_mostAlike_105 ?_
            refine q_sub (ls' := [some (vr κ a), some (vi p1), some (vi p2), some (vi v7), some (vi (wr (x4 + 1))), none]) ⟨rfl, rfl, rfl, rfl, rfl, trivial⟩ ?_
            exact ih v7 h_v7 (wr (x4 + 1)) (inr_wr _) s8 w_s8
          refine q_if_eq d_X0_mostAlike_76 (inr_b h_r5) (fun c9 => ?_) (fun c9 => ?_)
          · refine q_sub (ls' := [some (vr κ a), some (vi p1), some (vi p2), some (vi x3), some (vi x4), none]) ⟨rfl, rfl, rfl, rfl, rfl, trivial⟩ ?_
            exact hj102 x3 h_x3 s6 w_s6
          · refine q_aload_n d_X0_mostAlike_79 rfl ?_
            refine q_getR (n := 4) d_X0_mostAlike_80 hA.1 fi_0_21 rfl (Nat.le_of_ble_eq_true rfl) ?_
            refine q_iload (x := y4) d_X0_mostAlike_83 rfl ?_
            refine q_dup2 d_X0_mostAlike_85 rfl rfl ?_
            refine q_iaload (m := 30) d_X0_mostAlike_86 hA.2.2.2.2 (by decide) rfl (fun g10 => ?_)
            refine q_iconst d_X0_mostAlike_87 ?_
            refine q_iadd d_X0_mostAlike_88 ?_
            refine q_iastore (m := 30) d_X0_mostAlike_89 hA.2.2.2.2 (by decide) rfl (inr_wr _) w_s6 (fun g11 s12 w_s12 => ?_)
            refine q_iload_n (x := x3) d_X0_mostAlike_90 rfl ?_
            refine q_aload_n d_X0_mostAlike_91 rfl ?_
            refine q_getR (n := 4) d_X0_mostAlike_92 hA.1 fi_0_21 rfl (Nat.le_of_ble_eq_true rfl) ?_
            refine q_iload (x := y4) d_X0_mostAlike_95 rfl ?_
            refine q_iaload (m := 30) d_X0_mostAlike_97 hA.2.2.2.2 (by decide) rfl (fun g13 => ?_)
            refine q_mmax d_X0_mostAlike_98 cv_0_48 mw_max ⟨by decide, Nat.le_of_ble_eq_true rfl⟩ h_x3 (w_s12 _ _) ?_
            refine q_istore_n d_X0_mostAlike_101 rfl ?_
            refine q_sub (ls' := [some (vr κ a), some (vi p1), some (vi p2), some (vi (mmx x3 (s12 (a + 4) y4))), some (vi x4), none]) ⟨rfl, rfl, rfl, rfl, rfl, trivial⟩ ?_
            exact hj102 (mmx x3 (s12 (a + 4) y4)) (inr_mmx h_x3 (w_s12 _ _)) s12 w_s12
        refine q_if_le d_X0_mostAlike_50 h_p1 (fun c14 => ?_) (fun c14 => ?_)
        · refine q_aload_n d_X0_mostAlike_53 rfl ?_
          refine q_getR (n := 3) d_X0_mostAlike_54 hA.1 fi_0_18 rfl (Nat.le_of_ble_eq_true rfl) ?_
          refine q_iload (x := x4) d_X0_mostAlike_57 rfl ?_
          refine q_iaload (m := 1000) d_X0_mostAlike_59 hA.2.2.2.1 (by decide) rfl (fun g15 => ?_)
          refine q_iload_n (x := p1) d_X0_mostAlike_60 rfl ?_
          refine q_irem d_X0_mostAlike_61 (w_s0 _ _) h_p1 (fun g16 => ?_)
          refine q_goto d_X0_mostAlike_62 ?_
          refine q_sub (ls' := [some (vr κ a), some (vi p1), some (vi p2), some (vi x3), some (vi x4), none]) ⟨rfl, rfl, rfl, rfl, rfl, trivial⟩ ?_
          exact hj66 (Int.tmod (s0 (a + 3) x4) p1) (inr_tmod (w_s0 _ _) h_p1)
        · refine q_iconst d_X0_mostAlike_65 ?_
          refine q_sub (ls' := [some (vr κ a), some (vi p1), some (vi p2), some (vi x3), some (vi x4), none]) ⟨rfl, rfl, rfl, rfl, rfl, trivial⟩ ?_
          exact hj66 0 (inr_b (Or.inl rfl))
      · refine q_iload_n (x := x3) d_X0_mostAlike_108 rfl ?_
        exact q_ireti d_X0_mostAlike_109 rfl h_x3 w_s0
    · refine q_iload_n (x := x3) d_X0_mostAlike_108 rfl ?_
      exact q_ireti d_X0_mostAlike_109 rfl h_x3 w_s0
set_option maxHeartbeats 4000000 in
set_option maxRecDepth 10000 in
theorem l_X0_mostAlike_5 (κ : Kp) (a : Nat) (hA : At0 κ a) (p1 : Int) (h_p1 : InR p1) (p2 : Int) (h_p2 : InR p2) (p3 : Int) (h_p3 : p3 = 0 ∨ p3 = 1) (k32 : Mem → Res) (hk32 : ∀ (sz : Mem) (w_sz : WF sz), EO κ M_X0_mostAlike R_X0_mostAlike 32 [some (vr κ a), some (vi p1), some (vi p2), some (vi p3), none, none] [] sz (k32 sz)) : ∀ (n : Nat) (x4 : Int) (h_x4 : InR x4) (s0 : Mem) (w_s0 : WF s0), EO κ M_X0_mostAlike R_X0_mostAlike 5 [some (vr κ a), some (vi p1), some (vi p2), some (vi p3), some (vi x4), none] [] s0 (f_X0_mostAlike_5 a p1 k32 n x4 s0) := by
  intro n
  induction n with
  | zero => exact fun _ _ _ _ => q_none
  | succ n ih =>
    intro x4 h_x4 s0 w_s0
    rw [f_X0_mostAlike_5]
    refine q_iload (x := x4) d_X0_mostAlike_5 rfl ?_
    refine q_iload_n (x := p1) d_X0_mostAlike_7 rfl ?_
    refine q_icmp_ge d_X0_mostAlike_8 h_x4 h_p1 (fun c17 => ?_) (fun c17 => ?_)
    · refine q_iload (x := x4) d_X0_mostAlike_11 rfl ?_
      refine q_bipush d_X0_mostAlike_13 rfl ?_
      refine q_icmp_ge d_X0_mostAlike_15 h_x4 (inr_d rfl) (fun c18 => ?_) (fun c18 => ?_)
      · refine q_aload_n d_X0_mostAlike_18 rfl ?_
        refine q_getR (n := 4) d_X0_mostAlike_19 hA.1 fi_0_21 rfl (Nat.le_of_ble_eq_true rfl) ?_
        refine q_iload (x := x4) d_X0_mostAlike_22 rfl ?_
        refine q_iconst d_X0_mostAlike_24 ?_
        refine q_iastore (m := 30) d_X0_mostAlike_25 hA.2.2.2.2 (by decide) rfl (inr_b (Or.inl rfl)) w_s0 (fun g19 s20 w_s20 => ?_)
        refine q_iinc (x := x4) d_X0_mostAlike_26 rfl rfl ?_
        refine q_goto d_X0_mostAlike_29 ?_
        refine q_sub (ls' := [some (vr κ a), some (vi p1), some (vi p2), some (vi p3), some (vi (wr (x4 + 1))), none]) ⟨rfl, rfl, rfl, rfl, rfl, trivial⟩ ?_
        exact ih (wr (x4 + 1)) (inr_wr _) s20 w_s20
      · refine q_sub (ls' := [some (vr κ a), some (vi p1), some (vi p2), some (vi p3), none, none]) ⟨rfl, rfl, rfl, rfl, trivial⟩ ?_
        exact hk32 s0 w_s0
    · refine q_sub (ls' := [some (vr κ a), some (vi p1), some (vi p2), some (vi p3), none, none]) ⟨rfl, rfl, rfl, rfl, trivial⟩ ?_
      exact hk32 s0 w_s0
set_option maxHeartbeats 4000000 in
set_option maxRecDepth 10000 in
theorem c_X0_mostAlike (κ : Kp) (a : Nat) (hA : At0 κ a) (x1 : Int) (h_x1 : InR x1) (x2 : Int) (h_x2 : InR x2) (s0 : Mem) : ∀ r σ', f_X0_mostAlike a x1 x2 s0 = some (r, σ') → Ct κ M_X0_mostAlike R_X0_mostAlike [vr κ a, vi x1, vi x2] s0 r σ' := by
  intro r σ' ho
  refine Ct.of (by decide) (Nat.le_of_ble_eq_true rfl) (cat_ok rfl) (fun w_s0 => ?_) ⟨rfl, rfl⟩
  refine q_ent (ls' := [some (vr κ a), some (vi x1), some (vi x2), none, none, none]) (o := f_X0_mostAlike a x1 x2 s0) ⟨rfl, rfl, rfl, trivial⟩ ?_ ho
  unfold f_X0_mostAlike
  refine q_iconst d_X0_mostAlike_0 ?_
  refine q_istore_n d_X0_mostAlike_1 rfl ?_
  refine q_iconst d_X0_mostAlike_2 ?_
  refine q_istore d_X0_mostAlike_3 rfl ?_
  refine q_jn (α := Mem → Res) (fun j32 => ∀ (s1 : Mem) (w_s1 : WF s1), EO κ M_X0_mostAlike R_X0_mostAlike 32 [some (vr κ a), some (vi x1), some (vi x2), some (vi 0), none, none] [] s1 (j32 s1)) ?_ (fun j32 hj32 => ?_)
  · intro s1 w_s1
    refine q_iconst d_X0_mostAlike_32 ?_
    refine q_istore d_X0_mostAlike_33 rfl ?_
    refine q_sub (ls' := [some (vr κ a), some (vi x1), some (vi x2), some (vi 0), some (vi 0), none]) ⟨rfl, rfl, rfl, rfl, rfl, trivial⟩ ?_
    exact l_X0_mostAlike_35 κ a hA x1 h_x1 x2 h_x2   FU 0 (inr_b (Or.inl rfl)) 0 (inr_b (Or.inl rfl)) s1 w_s1
  refine q_sub (ls' := [some (vr κ a), some (vi x1), some (vi x2), some (vi 0), some (vi 0), none]) ⟨rfl, rfl, rfl, rfl, rfl, trivial⟩ ?_
  exact l_X0_mostAlike_5 κ a hA x1 h_x1 x2 h_x2 0 (Or.inl rfl) j32 hj32 FU 0 (inr_b (Or.inl rfl)) s0 w_s0
abbrev R_X0_bestToAsk : Room := { frames := 2, cells := 0, slots := 0, locals := 55 }
noncomputable def f_X0_bestToAsk_12 (a : Nat) (p1 : Int) : Nat → Int → Int → Int → Mem → Res
  | 0, _, _, _, _ => none
  | n + 1, x2, x3, x4, s0 =>
    if 30 < x4 then (some (x2, s0)) else (if 1 < p1 then (bd (f_X0_mostAlike a x4 p1 s0) fun r5 s6 => jn (fun (v7 : Int) (v8 : Int) => f_X0_bestToAsk_12 a p1 n v7 v8 (wr (x4 + 1)) s6) fun j50 => jn (fun (_ : Unit) => j50 x4 r5) fun j44 => if x2 = (-1) then (j44 ()) else (if r5 < x3 then (j44 ()) else (j50 x2 x3))) else (some (x2, s0)))
noncomputable def f_X0_bestToAsk (a : Nat) (s0 : Mem) : Res :=
  bd (f_X0_fitting a s0) fun r1 s2 => f_X0_bestToAsk_12 a r1 FU (-1) r1 2 s2
set_option maxHeartbeats 4000000 in
set_option maxRecDepth 10000 in
theorem l_X0_bestToAsk_12 (κ : Kp) (a : Nat) (hA : At0 κ a) (p1 : Int) (h_p1 : InR p1)   : ∀ (n : Nat) (x2 : Int) (h_x2 : InR x2) (x3 : Int) (h_x3 : InR x3) (x4 : Int) (h_x4 : InR x4) (s0 : Mem) (w_s0 : WF s0), EO κ M_X0_bestToAsk R_X0_bestToAsk 12 [some (vr κ a), some (vi p1), some (vi x2), some (vi x3), some (vi x4), none] [] s0 (f_X0_bestToAsk_12 a p1 n x2 x3 x4 s0) := by
  intro n
  induction n with
  | zero => exact fun _ _ _ _ _ _ _ _ => q_none
  | succ n ih =>
    intro x2 h_x2 x3 h_x3 x4 h_x4 s0 w_s0
    rw [f_X0_bestToAsk_12]
    refine q_iload (x := x4) d_X0_bestToAsk_12 rfl ?_
    refine q_bipush d_X0_bestToAsk_14 rfl ?_
    refine q_icmp_gt d_X0_bestToAsk_16 h_x4 (inr_d rfl) (fun c3 => ?_) (fun c3 => ?_)
    · refine q_iload_n (x := x2) d_X0_bestToAsk_56 rfl ?_
      exact q_ireti d_X0_bestToAsk_57 rfl h_x2 w_s0
    · refine q_iload_n (x := p1) d_X0_bestToAsk_19 rfl ?_
      refine q_iconst d_X0_bestToAsk_20 ?_
      refine q_icmp_le d_X0_bestToAsk_21 h_p1 (inr_b (Or.inr rfl)) (fun c4 => ?_) (fun c4 => ?_)
      · refine q_aload_n d_X0_bestToAsk_24 rfl ?_
        refine q_iload (x := x4) d_X0_bestToAsk_25 rfl ?_
        refine q_iload_n (x := p1) d_X0_bestToAsk_27 rfl ?_
        refine q_callI (R' := R_X0_mostAlike) (runV (As := [vi x4, vi p1]) (rest := []) d_X0_bestToAsk_28.1 cv_0_44 rfl hA.1 rfl rfl ⟨rfl, rfl, by decide, by decide⟩ (Nat.le_of_ble_eq_true rfl) w_s0 rfl) d_X0_bestToAsk_28.2 (c_X0_mostAlike κ a hA x4 h_x4 p1 h_p1 s0) rfl (fun r5 s6 h_r5 w_s6 => ?_)
        refine q_istore d_X0_bestToAsk_31 rfl ?_
        refine q_iload_n (x := x2) d_X0_bestToAsk_33 rfl ?_
        refine q_iconst d_X0_bestToAsk_34 ?_
        refine q_jn (α := Int → Int → Res) (fun j50 => ∀ (v7 : Int) (h_v7 : InR v7) (v8 : Int) (h_v8 : InR v8), EO κ M_X0_bestToAsk R_X0_bestToAsk 50 [some (vr κ a), some (vi p1), some (vi v7), some (vi v8), some (vi x4), none] [] s6 (j50 v7 v8)) ?_ (fun j50 hj50 => ?_)
        · intro v7 h_v7 v8 h_v8
          refine q_iinc (x := x4) d_X0_bestToAsk_50 rfl rfl ?_
          refine q_goto d_X0_bestToAsk_53 ?_
          refine q_sub (ls' := [some (vr κ a), some (vi p1), some (vi v7), some (vi v8), some (vi (wr (x4 + 1))), none]) ⟨rfl, rfl, rfl, rfl, rfl, trivial⟩ ?_
          exact ih v7 h_v7 v8 h_v8 (wr (x4 + 1)) (inr_wr _) s6 w_s6
        refine q_jn (α := Unit → Res) (fun j44 => EO κ M_X0_bestToAsk R_X0_bestToAsk 44 [some (vr κ a), some (vi p1), none, none, some (vi x4), some (vi r5)] [] s6 (j44 ())) ?_ (fun j44 hj44 => ?_)
        · refine q_iload (x := x4) d_X0_bestToAsk_44 rfl ?_
          refine q_istore_n d_X0_bestToAsk_46 rfl ?_
          refine q_iload (x := r5) d_X0_bestToAsk_47 rfl ?_
          refine q_istore_n d_X0_bestToAsk_49 rfl ?_
          refine q_sub (ls' := [some (vr κ a), some (vi p1), some (vi x4), some (vi r5), some (vi x4), none]) ⟨rfl, rfl, rfl, rfl, rfl, trivial⟩ ?_
          exact hj50 x4 h_x4 r5 h_r5
        refine q_icmp_eq d_X0_bestToAsk_35 h_x2 (inr_d rfl) (fun c9 => ?_) (fun c9 => ?_)
        · refine q_sub (ls' := [some (vr κ a), some (vi p1), none, none, some (vi x4), some (vi r5)]) ⟨rfl, rfl, rfl, rfl, trivial⟩ ?_
          exact hj44 
        · refine q_iload (x := r5) d_X0_bestToAsk_38 rfl ?_
          refine q_iload_n (x := x3) d_X0_bestToAsk_40 rfl ?_
          refine q_icmp_ge d_X0_bestToAsk_41 h_r5 h_x3 (fun c10 => ?_) (fun c10 => ?_)
          · refine q_sub (ls' := [some (vr κ a), some (vi p1), none, none, some (vi x4), some (vi r5)]) ⟨rfl, rfl, rfl, rfl, trivial⟩ ?_
            exact hj44 
          · refine q_sub (ls' := [some (vr κ a), some (vi p1), some (vi x2), some (vi x3), some (vi x4), none]) ⟨rfl, rfl, rfl, rfl, rfl, trivial⟩ ?_
            exact hj50 x2 h_x2 x3 h_x3
      · refine q_iload_n (x := x2) d_X0_bestToAsk_56 rfl ?_
        exact q_ireti d_X0_bestToAsk_57 rfl h_x2 w_s0
set_option maxHeartbeats 4000000 in
set_option maxRecDepth 10000 in
theorem c_X0_bestToAsk (κ : Kp) (a : Nat) (hA : At0 κ a) (s0 : Mem) : ∀ r σ', f_X0_bestToAsk a s0 = some (r, σ') → Ct κ M_X0_bestToAsk R_X0_bestToAsk [vr κ a] s0 r σ' := by
  intro r σ' ho
  refine Ct.of (by decide) (Nat.le_of_ble_eq_true rfl) (cat_ok rfl) (fun w_s0 => ?_) ⟨rfl, rfl⟩
  refine q_ent (ls' := [some (vr κ a), none, none, none, none, none]) (o := f_X0_bestToAsk a s0) ⟨rfl, trivial⟩ ?_ ho
  unfold f_X0_bestToAsk
  refine q_aload_n d_X0_bestToAsk_0 rfl ?_
  refine q_callI (R' := R_X0_fitting) (runV (As := []) (rest := []) d_X0_bestToAsk_1.1 cv_0_40 rfl hA.1 rfl rfl ⟨rfl, rfl, by decide, by decide⟩ (Nat.le_of_ble_eq_true rfl) w_s0 rfl) d_X0_bestToAsk_1.2 (c_X0_fitting κ a hA s0) rfl (fun r1 s2 h_r1 w_s2 => ?_)
  refine q_istore_n d_X0_bestToAsk_4 rfl ?_
  refine q_iconst d_X0_bestToAsk_5 ?_
  refine q_istore_n d_X0_bestToAsk_6 rfl ?_
  refine q_iload_n (x := r1) d_X0_bestToAsk_7 rfl ?_
  refine q_istore_n d_X0_bestToAsk_8 rfl ?_
  refine q_iconst d_X0_bestToAsk_9 ?_
  refine q_istore d_X0_bestToAsk_10 rfl ?_
  refine q_sub (ls' := [some (vr κ a), some (vi r1), some (vi (-1)), some (vi r1), some (vi 2), none]) ⟨rfl, rfl, rfl, rfl, rfl, trivial⟩ ?_
  exact l_X0_bestToAsk_12 κ a hA r1 h_r1   FU (-1) (inr_d rfl) r1 h_r1 2 (inr_d rfl) s2 w_s2
abbrev R_X1_become : Room := { frames := 2, cells := 0, slots := 0, locals := 81 }
noncomputable def f_X1_become (a : Nat) (a1 : Nat) (s0 : Mem) : Res :=
  bd (f_X11_copy (a1 + 1) 16 (a + 1) 16 s0) fun r1 s2 => bd (f_X11_copy (a1 + 2) 16 (a + 2) 16 s2) fun r3 s4 => lm (mup s4 a 2 (s4 a1 2)) fun s5 => some (0, s5)
set_option maxHeartbeats 4000000 in
set_option maxRecDepth 10000 in
theorem c_X1_become (κ : Kp) (a : Nat) (hA : At1 κ a) (a1 : Nat) (hA1 : At1 κ a1) (s0 : Mem) : ∀ r σ', f_X1_become a a1 s0 = some (r, σ') → Ct κ M_X1_become R_X1_become [vr κ a, vr κ a1] s0 r σ' := by
  intro r σ' ho
  refine Ct.of (by decide) (Nat.le_of_ble_eq_true rfl) (cat_ok rfl) (fun w_s0 => ?_) ⟨rfl, rfl⟩
  refine q_ent (ls' := [some (vr κ a), some (vr κ a1)]) (o := f_X1_become a a1 s0) ⟨rfl, rfl, trivial⟩ ?_ ho
  unfold f_X1_become
  refine q_aload_n d_X1_become_0 rfl ?_
  refine q_getR (n := 1) d_X1_become_1 hA1.1 fi_1_9 rfl (Nat.le_of_ble_eq_true rfl) ?_
  refine q_aload_n d_X1_become_4 rfl ?_
  refine q_getR (n := 1) d_X1_become_5 hA.1 fi_1_9 rfl (Nat.le_of_ble_eq_true rfl) ?_
  refine q_callV (R' := R_X11_copy) (runN (As := [vr κ (a1 + 1), vr κ (a + 1)]) (rest := []) d_X1_become_8.1 cv_1_18 rfl ⟨rfl, rfl, by decide, by decide⟩ (Nat.le_of_ble_eq_true rfl) w_s0 rfl) d_X1_become_8.2 (c_X11_copy κ (a1 + 1) 16 hA1.2.1 (by decide) (a + 1) 16 hA.2.1 (by decide) s0) rfl (fun r1 s2 w_s2 => ?_)
  refine q_aload_n d_X1_become_11 rfl ?_
  refine q_getR (n := 2) d_X1_become_12 hA1.1 fi_1_15 rfl (Nat.le_of_ble_eq_true rfl) ?_
  refine q_aload_n d_X1_become_15 rfl ?_
  refine q_getR (n := 2) d_X1_become_16 hA.1 fi_1_15 rfl (Nat.le_of_ble_eq_true rfl) ?_
  refine q_callV (R' := R_X11_copy) (runN (As := [vr κ (a1 + 2), vr κ (a + 2)]) (rest := []) d_X1_become_19.1 cv_1_18 rfl ⟨rfl, rfl, by decide, by decide⟩ (Nat.le_of_ble_eq_true rfl) w_s2 rfl) d_X1_become_19.2 (c_X11_copy κ (a1 + 2) 16 hA1.2.2 (by decide) (a + 2) 16 hA.2.2 (by decide) s2) rfl (fun r3 s4 w_s4 => ?_)
  refine q_aload_n d_X1_become_22 rfl ?_
  refine q_aload_n d_X1_become_23 rfl ?_
  refine q_getI (k := 2) (j := 2) d_X1_become_24 hA1.1 fi_1_22 rfl rfl ?_
  refine q_putI (k := 2) (j := 2) d_X1_become_27 hA.1 fp_1_22 rfl rfl (w_s4 _ _) w_s4 (fun s5 w_s5 => ?_)
  exact q_vret d_X1_become_30 rfl w_s5
abbrev R_X1_enter : Room := { frames := 0, cells := 0, slots := 0, locals := 0 }
noncomputable def f_X1_enter (a : Nat) (x1 : Int) (x2 : Int) (s0 : Mem) : Res :=
  if s0 a 2 < 16 then (gd ((0 : Int) ≤ s0 a 2 ∧ s0 a 2 < 16) (lm (mup s0 (a + 1) (s0 a 2) x1) fun s3 => gd ((0 : Int) ≤ s3 a 2 ∧ s3 a 2 < 16) (lm (mup s3 (a + 2) (s3 a 2) x2) fun s5 => lm (mup s5 a 2 (wr ((s5 a 2) + 1))) fun s6 => some (0, s6)))) else (some (0, s0))
set_option maxHeartbeats 4000000 in
set_option maxRecDepth 10000 in
theorem c_X1_enter (κ : Kp) (a : Nat) (hA : At1 κ a) (x1 : Int) (h_x1 : InR x1) (x2 : Int) (h_x2 : InR x2) (s0 : Mem) : ∀ r σ', f_X1_enter a x1 x2 s0 = some (r, σ') → Ct κ M_X1_enter R_X1_enter [vr κ a, vi x1, vi x2] s0 r σ' := by
  intro r σ' ho
  refine Ct.of (by decide) (Nat.le_of_ble_eq_true rfl) (cat_ok rfl) (fun w_s0 => ?_) ⟨rfl, rfl⟩
  refine q_ent (ls' := [some (vr κ a), some (vi x1), some (vi x2)]) (o := f_X1_enter a x1 x2 s0) ⟨rfl, rfl, rfl, trivial⟩ ?_ ho
  unfold f_X1_enter
  refine q_aload_n d_X1_enter_0 rfl ?_
  refine q_getI (k := 2) (j := 2) d_X1_enter_1 hA.1 fi_1_22 rfl rfl ?_
  refine q_bipush d_X1_enter_4 rfl ?_
  refine q_icmp_ge d_X1_enter_6 (w_s0 _ _) (inr_d rfl) (fun c1 => ?_) (fun c1 => ?_)
  · refine q_aload_n d_X1_enter_9 rfl ?_
    refine q_getR (n := 1) d_X1_enter_10 hA.1 fi_1_9 rfl (Nat.le_of_ble_eq_true rfl) ?_
    refine q_aload_n d_X1_enter_13 rfl ?_
    refine q_getI (k := 2) (j := 2) d_X1_enter_14 hA.1 fi_1_22 rfl rfl ?_
    refine q_iload_n (x := x1) d_X1_enter_17 rfl ?_
    refine q_iastore (m := 16) d_X1_enter_18 hA.2.1 (by decide) rfl h_x1 w_s0 (fun g2 s3 w_s3 => ?_)
    refine q_aload_n d_X1_enter_19 rfl ?_
    refine q_getR (n := 2) d_X1_enter_20 hA.1 fi_1_15 rfl (Nat.le_of_ble_eq_true rfl) ?_
    refine q_aload_n d_X1_enter_23 rfl ?_
    refine q_getI (k := 2) (j := 2) d_X1_enter_24 hA.1 fi_1_22 rfl rfl ?_
    refine q_iload_n (x := x2) d_X1_enter_27 rfl ?_
    refine q_iastore (m := 16) d_X1_enter_28 hA.2.2 (by decide) rfl h_x2 w_s3 (fun g4 s5 w_s5 => ?_)
    refine q_aload_n d_X1_enter_29 rfl ?_
    refine q_dup d_X1_enter_30 rfl ?_
    refine q_getI (k := 2) (j := 2) d_X1_enter_31 hA.1 fi_1_22 rfl rfl ?_
    refine q_iconst d_X1_enter_34 ?_
    refine q_iadd d_X1_enter_35 ?_
    refine q_putI (k := 2) (j := 2) d_X1_enter_36 hA.1 fp_1_22 rfl rfl (inr_wr _) w_s5 (fun s6 w_s6 => ?_)
    exact q_vret d_X1_enter_39 rfl w_s6
  · exact q_vret d_X1_enter_39 rfl w_s0
abbrev R_X1_latest : Room := { frames := 0, cells := 0, slots := 0, locals := 0 }
noncomputable def f_X1_latest_4 (a : Nat) (p1 : Int) (k50 : Int → Res) (s0 : Mem) : Nat → Int → Int → Res
  | 0, _, _ => none
  | n + 1, x2, x3 =>
    if x3 < s0 a 2 then (gd ((0 : Int) ≤ x3 ∧ x3 < 16) (jn (fun (v4 : Int) => f_X1_latest_4 a p1 k50 s0 n v4 (wr (x3 + 1))) fun j44 => if p1 < s0 (a + 1) x3 then (j44 x2) else (jn (fun (_ : Unit) => j44 x3) fun j42 => if x2 = (-1) then (j42 ()) else (gd ((0 : Int) ≤ x3 ∧ x3 < 16) (gd ((0 : Int) ≤ x2 ∧ x2 < 16) (if s0 (a + 1) x3 < s0 (a + 1) x2 then (j44 x2) else (j42 ()))))))) else (k50 x2)
noncomputable def f_X1_latest (a : Nat) (x1 : Int) (s0 : Mem) : Res :=
  jn (fun (v1 : Int) => some (v1, s0)) fun j50 => f_X1_latest_4 a x1 j50 s0 FU (-1) 0
set_option maxHeartbeats 4000000 in
set_option maxRecDepth 10000 in
theorem l_X1_latest_4 (κ : Kp) (a : Nat) (hA : At1 κ a) (p1 : Int) (h_p1 : InR p1) (k50 : Int → Res) (s0 : Mem) (w_s0 : WF s0) (hk50 : ∀ (z2 : Int) (h_z2 : InR z2), EO κ M_X1_latest R_X1_latest 50 [none, none, some (vi z2), none] [] s0 (k50 z2)) : ∀ (n : Nat) (x2 : Int) (h_x2 : InR x2) (x3 : Int) (h_x3 : InR x3), EO κ M_X1_latest R_X1_latest 4 [some (vr κ a), some (vi p1), some (vi x2), some (vi x3)] [] s0 (f_X1_latest_4 a p1 k50 s0 n x2 x3) := by
  intro n
  induction n with
  | zero => exact fun _ _ _ _ => q_none
  | succ n ih =>
    intro x2 h_x2 x3 h_x3
    rw [f_X1_latest_4]
    refine q_iload_n (x := x3) d_X1_latest_4 rfl ?_
    refine q_aload_n d_X1_latest_5 rfl ?_
    refine q_getI (k := 2) (j := 2) d_X1_latest_6 hA.1 fi_1_22 rfl rfl ?_
    refine q_icmp_ge d_X1_latest_9 h_x3 (w_s0 _ _) (fun c2 => ?_) (fun c2 => ?_)
    · refine q_aload_n d_X1_latest_12 rfl ?_
      refine q_getR (n := 1) d_X1_latest_13 hA.1 fi_1_9 rfl (Nat.le_of_ble_eq_true rfl) ?_
      refine q_iload_n (x := x3) d_X1_latest_16 rfl ?_
      refine q_iaload (m := 16) d_X1_latest_17 hA.2.1 (by decide) rfl (fun g3 => ?_)
      refine q_iload_n (x := p1) d_X1_latest_18 rfl ?_
      refine q_jn (α := Int → Res) (fun j44 => ∀ (v4 : Int) (h_v4 : InR v4), EO κ M_X1_latest R_X1_latest 44 [some (vr κ a), some (vi p1), some (vi v4), some (vi x3)] [] s0 (j44 v4)) ?_ (fun j44 hj44 => ?_)
      · intro v4 h_v4
        refine q_iinc (x := x3) d_X1_latest_44 rfl rfl ?_
        refine q_goto d_X1_latest_47 ?_
        refine q_sub (ls' := [some (vr κ a), some (vi p1), some (vi v4), some (vi (wr (x3 + 1)))]) ⟨rfl, rfl, rfl, rfl, trivial⟩ ?_
        exact ih v4 h_v4 (wr (x3 + 1)) (inr_wr _)
      refine q_icmp_gt d_X1_latest_19 (w_s0 _ _) h_p1 (fun c5 => ?_) (fun c5 => ?_)
      · refine q_sub (ls' := [some (vr κ a), some (vi p1), some (vi x2), some (vi x3)]) ⟨rfl, rfl, rfl, rfl, trivial⟩ ?_
        exact hj44 x2 h_x2
      · refine q_iload_n (x := x2) d_X1_latest_22 rfl ?_
        refine q_iconst d_X1_latest_23 ?_
        refine q_jn (α := Unit → Res) (fun j42 => EO κ M_X1_latest R_X1_latest 42 [some (vr κ a), some (vi p1), none, some (vi x3)] [] s0 (j42 ())) ?_ (fun j42 hj42 => ?_)
        · refine q_iload_n (x := x3) d_X1_latest_42 rfl ?_
          refine q_istore_n d_X1_latest_43 rfl ?_
          refine q_sub (ls' := [some (vr κ a), some (vi p1), some (vi x3), some (vi x3)]) ⟨rfl, rfl, rfl, rfl, trivial⟩ ?_
          exact hj44 x3 h_x3
        refine q_icmp_eq d_X1_latest_24 h_x2 (inr_d rfl) (fun c6 => ?_) (fun c6 => ?_)
        · refine q_sub (ls' := [some (vr κ a), some (vi p1), none, some (vi x3)]) ⟨rfl, rfl, rfl, trivial⟩ ?_
          exact hj42 
        · refine q_aload_n d_X1_latest_27 rfl ?_
          refine q_getR (n := 1) d_X1_latest_28 hA.1 fi_1_9 rfl (Nat.le_of_ble_eq_true rfl) ?_
          refine q_iload_n (x := x3) d_X1_latest_31 rfl ?_
          refine q_iaload (m := 16) d_X1_latest_32 hA.2.1 (by decide) rfl (fun g7 => ?_)
          refine q_aload_n d_X1_latest_33 rfl ?_
          refine q_getR (n := 1) d_X1_latest_34 hA.1 fi_1_9 rfl (Nat.le_of_ble_eq_true rfl) ?_
          refine q_iload_n (x := x2) d_X1_latest_37 rfl ?_
          refine q_iaload (m := 16) d_X1_latest_38 hA.2.1 (by decide) rfl (fun g8 => ?_)
          refine q_icmp_lt d_X1_latest_39 (w_s0 _ _) (w_s0 _ _) (fun c9 => ?_) (fun c9 => ?_)
          · refine q_sub (ls' := [some (vr κ a), some (vi p1), some (vi x2), some (vi x3)]) ⟨rfl, rfl, rfl, rfl, trivial⟩ ?_
            exact hj44 x2 h_x2
          · refine q_sub (ls' := [some (vr κ a), some (vi p1), none, some (vi x3)]) ⟨rfl, rfl, rfl, trivial⟩ ?_
            exact hj42 
    · refine q_sub (ls' := [none, none, some (vi x2), none]) ⟨rfl, trivial⟩ ?_
      exact hk50 x2 h_x2
set_option maxHeartbeats 4000000 in
set_option maxRecDepth 10000 in
theorem c_X1_latest (κ : Kp) (a : Nat) (hA : At1 κ a) (x1 : Int) (h_x1 : InR x1) (s0 : Mem) : ∀ r σ', f_X1_latest a x1 s0 = some (r, σ') → Ct κ M_X1_latest R_X1_latest [vr κ a, vi x1] s0 r σ' := by
  intro r σ' ho
  refine Ct.of (by decide) (Nat.le_of_ble_eq_true rfl) (cat_ok rfl) (fun w_s0 => ?_) ⟨rfl, rfl⟩
  refine q_ent (ls' := [some (vr κ a), some (vi x1), none, none]) (o := f_X1_latest a x1 s0) ⟨rfl, rfl, trivial⟩ ?_ ho
  unfold f_X1_latest
  refine q_iconst d_X1_latest_0 ?_
  refine q_istore_n d_X1_latest_1 rfl ?_
  refine q_iconst d_X1_latest_2 ?_
  refine q_istore_n d_X1_latest_3 rfl ?_
  refine q_jn (α := Int → Res) (fun j50 => ∀ (v1 : Int) (h_v1 : InR v1), EO κ M_X1_latest R_X1_latest 50 [none, none, some (vi v1), none] [] s0 (j50 v1)) ?_ (fun j50 hj50 => ?_)
  · intro v1 h_v1
    refine q_iload_n (x := v1) d_X1_latest_50 rfl ?_
    exact q_ireti d_X1_latest_51 rfl h_v1 w_s0
  refine q_sub (ls' := [some (vr κ a), some (vi x1), some (vi (-1)), some (vi 0)]) ⟨rfl, rfl, rfl, rfl, trivial⟩ ?_
  exact l_X1_latest_4 κ a hA x1 h_x1 j50 s0 w_s0 hj50 FU (-1) (inr_d rfl) 0 (inr_b (Or.inl rfl))
abbrev R_X1_goesAt : Room := { frames := 1, cells := 0, slots := 0, locals := 23 }
noncomputable def f_X1_goesAt (a : Nat) (x1 : Int) (s0 : Mem) : Res :=
  bd (f_X1_latest a x1 s0) fun r1 s2 => jn (fun (v3 : Int) (s4 : Mem) => if v3 = (-1) then (some (0, s4)) else (gd ((0 : Int) ≤ v3 ∧ v3 < 16) (some (s4 (a + 2) v3, s4)))) fun j18 => if r1 = (-1) then (bd (f_X1_latest a 24 s2) fun r8 s9 => j18 r8 s9) else (j18 r1 s2)
set_option maxHeartbeats 4000000 in
set_option maxRecDepth 10000 in
theorem c_X1_goesAt (κ : Kp) (a : Nat) (hA : At1 κ a) (x1 : Int) (h_x1 : InR x1) (s0 : Mem) : ∀ r σ', f_X1_goesAt a x1 s0 = some (r, σ') → Ct κ M_X1_goesAt R_X1_goesAt [vr κ a, vi x1] s0 r σ' := by
  intro r σ' ho
  refine Ct.of (by decide) (Nat.le_of_ble_eq_true rfl) (cat_ok rfl) (fun w_s0 => ?_) ⟨rfl, rfl⟩
  refine q_ent (ls' := [some (vr κ a), some (vi x1), none]) (o := f_X1_goesAt a x1 s0) ⟨rfl, rfl, trivial⟩ ?_ ho
  unfold f_X1_goesAt
  refine q_aload_n d_X1_goesAt_0 rfl ?_
  refine q_iload_n (x := x1) d_X1_goesAt_1 rfl ?_
  refine q_callI (R' := R_X1_latest) (runV (As := [vi x1]) (rest := []) d_X1_goesAt_2.1 cv_1_26 rfl hA.1 rfl rfl ⟨rfl, rfl, by decide, by decide⟩ (Nat.le_of_ble_eq_true rfl) w_s0 rfl) d_X1_goesAt_2.2 (c_X1_latest κ a hA x1 h_x1 s0) rfl (fun r1 s2 h_r1 w_s2 => ?_)
  refine q_istore_n d_X1_goesAt_5 rfl ?_
  refine q_iload_n (x := r1) d_X1_goesAt_6 rfl ?_
  refine q_iconst d_X1_goesAt_7 ?_
  refine q_jn (α := Int → Mem → Res) (fun j18 => ∀ (v3 : Int) (h_v3 : InR v3) (s4 : Mem) (w_s4 : WF s4), EO κ M_X1_goesAt R_X1_goesAt 18 [some (vr κ a), none, some (vi v3)] [] s4 (j18 v3 s4)) ?_ (fun j18 hj18 => ?_)
  · intro v3 h_v3 s4 w_s4
    refine q_iload_n (x := v3) d_X1_goesAt_18 rfl ?_
    refine q_iconst d_X1_goesAt_19 ?_
    refine q_icmp_ne d_X1_goesAt_20 h_v3 (inr_d rfl) (fun c5 => ?_) (fun c5 => ?_)
    · refine q_iconst d_X1_goesAt_23 ?_
      refine q_goto d_X1_goesAt_24 ?_
      exact q_ireti d_X1_goesAt_33 rfl (inr_b (Or.inl rfl)) w_s4
    · refine q_aload_n d_X1_goesAt_27 rfl ?_
      refine q_getR (n := 2) d_X1_goesAt_28 hA.1 fi_1_15 rfl (Nat.le_of_ble_eq_true rfl) ?_
      refine q_iload_n (x := v3) d_X1_goesAt_31 rfl ?_
      refine q_iaload (m := 16) d_X1_goesAt_32 hA.2.2 (by decide) rfl (fun g6 => ?_)
      exact q_ireti d_X1_goesAt_33 rfl (w_s4 _ _) w_s4
  refine q_icmp_ne d_X1_goesAt_8 h_r1 (inr_d rfl) (fun c7 => ?_) (fun c7 => ?_)
  · refine q_aload_n d_X1_goesAt_11 rfl ?_
    refine q_bipush d_X1_goesAt_12 rfl ?_
    refine q_callI (R' := R_X1_latest) (runV (As := [vi 24]) (rest := []) d_X1_goesAt_14.1 cv_1_26 rfl hA.1 rfl rfl ⟨rfl, rfl, by decide, by decide⟩ (Nat.le_of_ble_eq_true rfl) w_s2 rfl) d_X1_goesAt_14.2 (c_X1_latest κ a hA 24 (inr_d rfl) s2) rfl (fun r8 s9 h_r8 w_s9 => ?_)
    refine q_istore_n d_X1_goesAt_17 rfl ?_
    refine q_sub (ls' := [some (vr κ a), none, some (vi r8)]) ⟨rfl, rfl, trivial⟩ ?_
    exact hj18 r8 h_r8 s9 w_s9
  · refine q_sub (ls' := [some (vr κ a), none, some (vi r1)]) ⟨rfl, rfl, trivial⟩ ?_
    exact hj18 r1 h_r1 s2 w_s2
abbrev R_X2_become : Room := { frames := 2, cells := 0, slots := 0, locals := 81 }
noncomputable def f_X2_become (a : Nat) (a1 : Nat) (s0 : Mem) : Res :=
  bd (f_X11_copy (a1 + 1) 16 (a + 1) 16 s0) fun r1 s2 => bd (f_X11_copy (a1 + 2) 16 (a + 2) 16 s2) fun r3 s4 => bd (f_X11_copy (a1 + 3) 16 (a + 3) 16 s4) fun r5 s6 => bd (f_X11_copy (a1 + 4) 400 (a + 4) 400 s6) fun r7 s8 => lm (mup s8 a 4 (s8 a1 4)) fun s9 => lm (mup s9 a 5 (s9 a1 5)) fun s10 => some (0, s10)
set_option maxHeartbeats 4000000 in
set_option maxRecDepth 10000 in
theorem c_X2_become (κ : Kp) (a : Nat) (hA : At2 κ a) (a1 : Nat) (hA1 : At2 κ a1) (s0 : Mem) : ∀ r σ', f_X2_become a a1 s0 = some (r, σ') → Ct κ M_X2_become R_X2_become [vr κ a, vr κ a1] s0 r σ' := by
  intro r σ' ho
  refine Ct.of (by decide) (Nat.le_of_ble_eq_true rfl) (cat_ok rfl) (fun w_s0 => ?_) ⟨rfl, rfl⟩
  refine q_ent (ls' := [some (vr κ a), some (vr κ a1)]) (o := f_X2_become a a1 s0) ⟨rfl, rfl, trivial⟩ ?_ ho
  unfold f_X2_become
  refine q_aload_n d_X2_become_0 rfl ?_
  refine q_getR (n := 1) d_X2_become_1 hA1.1 fi_2_9 rfl (Nat.le_of_ble_eq_true rfl) ?_
  refine q_aload_n d_X2_become_4 rfl ?_
  refine q_getR (n := 1) d_X2_become_5 hA.1 fi_2_9 rfl (Nat.le_of_ble_eq_true rfl) ?_
  refine q_callV (R' := R_X11_copy) (runN (As := [vr κ (a1 + 1), vr κ (a + 1)]) (rest := []) d_X2_become_8.1 cv_2_30 rfl ⟨rfl, rfl, by decide, by decide⟩ (Nat.le_of_ble_eq_true rfl) w_s0 rfl) d_X2_become_8.2 (c_X11_copy κ (a1 + 1) 16 hA1.2.1 (by decide) (a + 1) 16 hA.2.1 (by decide) s0) rfl (fun r1 s2 w_s2 => ?_)
  refine q_aload_n d_X2_become_11 rfl ?_
  refine q_getR (n := 2) d_X2_become_12 hA1.1 fi_2_15 rfl (Nat.le_of_ble_eq_true rfl) ?_
  refine q_aload_n d_X2_become_15 rfl ?_
  refine q_getR (n := 2) d_X2_become_16 hA.1 fi_2_15 rfl (Nat.le_of_ble_eq_true rfl) ?_
  refine q_callV (R' := R_X11_copy) (runN (As := [vr κ (a1 + 2), vr κ (a + 2)]) (rest := []) d_X2_become_19.1 cv_2_30 rfl ⟨rfl, rfl, by decide, by decide⟩ (Nat.le_of_ble_eq_true rfl) w_s2 rfl) d_X2_become_19.2 (c_X11_copy κ (a1 + 2) 16 hA1.2.2.1 (by decide) (a + 2) 16 hA.2.2.1 (by decide) s2) rfl (fun r3 s4 w_s4 => ?_)
  refine q_aload_n d_X2_become_22 rfl ?_
  refine q_getR (n := 3) d_X2_become_23 hA1.1 fi_2_18 rfl (Nat.le_of_ble_eq_true rfl) ?_
  refine q_aload_n d_X2_become_26 rfl ?_
  refine q_getR (n := 3) d_X2_become_27 hA.1 fi_2_18 rfl (Nat.le_of_ble_eq_true rfl) ?_
  refine q_callV (R' := R_X11_copy) (runN (As := [vr κ (a1 + 3), vr κ (a + 3)]) (rest := []) d_X2_become_30.1 cv_2_30 rfl ⟨rfl, rfl, by decide, by decide⟩ (Nat.le_of_ble_eq_true rfl) w_s4 rfl) d_X2_become_30.2 (c_X11_copy κ (a1 + 3) 16 hA1.2.2.2.1 (by decide) (a + 3) 16 hA.2.2.2.1 (by decide) s4) rfl (fun r5 s6 w_s6 => ?_)
  refine q_aload_n d_X2_become_33 rfl ?_
  refine q_getR (n := 4) d_X2_become_34 hA1.1 fi_2_21 rfl (Nat.le_of_ble_eq_true rfl) ?_
  refine q_aload_n d_X2_become_37 rfl ?_
  refine q_getR (n := 4) d_X2_become_38 hA.1 fi_2_21 rfl (Nat.le_of_ble_eq_true rfl) ?_
  refine q_callV (R' := R_X11_copy) (runN (As := [vr κ (a1 + 4), vr κ (a + 4)]) (rest := []) d_X2_become_41.1 cv_2_30 rfl ⟨rfl, rfl, by decide, by decide⟩ (Nat.le_of_ble_eq_true rfl) w_s6 rfl) d_X2_become_41.2 (c_X11_copy κ (a1 + 4) 400 hA1.2.2.2.2.1 (by decide) (a + 4) 400 hA.2.2.2.2.1 (by decide) s6) rfl (fun r7 s8 w_s8 => ?_)
  refine q_aload_n d_X2_become_44 rfl ?_
  refine q_aload_n d_X2_become_45 rfl ?_
  refine q_getI (k := 4) (j := 4) d_X2_become_46 hA1.1 fi_2_34 rfl rfl ?_
  refine q_putI (k := 4) (j := 4) d_X2_become_49 hA.1 fp_2_34 rfl rfl (w_s8 _ _) w_s8 (fun s9 w_s9 => ?_)
  refine q_aload_n d_X2_become_52 rfl ?_
  refine q_aload_n d_X2_become_53 rfl ?_
  refine q_getI (k := 5) (j := 5) d_X2_become_54 hA1.1 fi_2_38 rfl rfl ?_
  refine q_putI (k := 5) (j := 5) d_X2_become_57 hA.1 fp_2_38 rfl rfl (w_s9 _ _) w_s9 (fun s10 w_s10 => ?_)
  exact q_vret d_X2_become_60 rfl w_s10
abbrev R_X2_put : Room := { frames := 0, cells := 0, slots := 0, locals := 0 }
noncomputable def f_X2_put (a : Nat) (x1 : Int) (s0 : Mem) : Res :=
  if s0 a 5 < 400 then (gd ((0 : Int) ≤ s0 a 5 ∧ s0 a 5 < 400) (lm (mup s0 (a + 4) (s0 a 5) x1) fun s3 => lm (mup s3 a 5 (wr ((s3 a 5) + 1))) fun s4 => some (0, s4))) else (some (0, s0))
set_option maxHeartbeats 4000000 in
set_option maxRecDepth 10000 in
theorem c_X2_put (κ : Kp) (a : Nat) (hA : At2 κ a) (x1 : Int) (h_x1 : InR x1) (s0 : Mem) : ∀ r σ', f_X2_put a x1 s0 = some (r, σ') → Ct κ M_X2_put R_X2_put [vr κ a, vi x1] s0 r σ' := by
  intro r σ' ho
  refine Ct.of (by decide) (Nat.le_of_ble_eq_true rfl) (cat_ok rfl) (fun w_s0 => ?_) ⟨rfl, rfl⟩
  refine q_ent (ls' := [some (vr κ a), some (vi x1)]) (o := f_X2_put a x1 s0) ⟨rfl, rfl, trivial⟩ ?_ ho
  unfold f_X2_put
  refine q_aload_n d_X2_put_0 rfl ?_
  refine q_getI (k := 5) (j := 5) d_X2_put_1 hA.1 fi_2_38 rfl rfl ?_
  refine q_aload_n d_X2_put_4 rfl ?_
  refine q_getR (n := 4) d_X2_put_5 hA.1 fi_2_21 rfl (Nat.le_of_ble_eq_true rfl) ?_
  refine q_alen (m := 400) d_X2_put_8 hA.2.2.2.2.1 rfl ?_
  refine q_icmp_ge d_X2_put_9 (w_s0 _ _) (inr_d rfl) (fun c1 => ?_) (fun c1 => ?_)
  · refine q_aload_n d_X2_put_12 rfl ?_
    refine q_getR (n := 4) d_X2_put_13 hA.1 fi_2_21 rfl (Nat.le_of_ble_eq_true rfl) ?_
    refine q_aload_n d_X2_put_16 rfl ?_
    refine q_getI (k := 5) (j := 5) d_X2_put_17 hA.1 fi_2_38 rfl rfl ?_
    refine q_iload_n (x := x1) d_X2_put_20 rfl ?_
    refine q_iastore (m := 400) d_X2_put_21 hA.2.2.2.2.1 (by decide) rfl h_x1 w_s0 (fun g2 s3 w_s3 => ?_)
    refine q_aload_n d_X2_put_22 rfl ?_
    refine q_dup d_X2_put_23 rfl ?_
    refine q_getI (k := 5) (j := 5) d_X2_put_24 hA.1 fi_2_38 rfl rfl ?_
    refine q_iconst d_X2_put_27 ?_
    refine q_iadd d_X2_put_28 ?_
    refine q_putI (k := 5) (j := 5) d_X2_put_29 hA.1 fp_2_38 rfl rfl (inr_wr _) w_s3 (fun s4 w_s4 => ?_)
    exact q_vret d_X2_put_32 rfl w_s4
  · exact q_vret d_X2_put_32 rfl w_s0
abbrev R_X2_closeLine : Room := { frames := 0, cells := 0, slots := 0, locals := 0 }
noncomputable def f_X2_closeLine (a : Nat) (x1 : Int) (x2 : Int) (s0 : Mem) : Res :=
  if s0 a 4 < 16 then (gd ((0 : Int) ≤ s0 a 4 ∧ s0 a 4 < 16) (lm (mup s0 (a + 1) (s0 a 4) x1) fun s3 => gd ((0 : Int) ≤ s3 a 4 ∧ s3 a 4 < 16) (lm (mup s3 (a + 2) (s3 a 4) x2) fun s5 => gd ((0 : Int) ≤ s5 a 4 ∧ s5 a 4 < 16) (lm (mup s5 (a + 3) (s5 a 4) (s5 a 5)) fun s7 => lm (mup s7 a 4 (wr ((s7 a 4) + 1))) fun s8 => some (0, s8))))) else (some (0, s0))
set_option maxHeartbeats 4000000 in
set_option maxRecDepth 10000 in
theorem c_X2_closeLine (κ : Kp) (a : Nat) (hA : At2 κ a) (x1 : Int) (h_x1 : InR x1) (x2 : Int) (h_x2 : InR x2) (s0 : Mem) : ∀ r σ', f_X2_closeLine a x1 x2 s0 = some (r, σ') → Ct κ M_X2_closeLine R_X2_closeLine [vr κ a, vi x1, vi x2] s0 r σ' := by
  intro r σ' ho
  refine Ct.of (by decide) (Nat.le_of_ble_eq_true rfl) (cat_ok rfl) (fun w_s0 => ?_) ⟨rfl, rfl⟩
  refine q_ent (ls' := [some (vr κ a), some (vi x1), some (vi x2)]) (o := f_X2_closeLine a x1 x2 s0) ⟨rfl, rfl, rfl, trivial⟩ ?_ ho
  unfold f_X2_closeLine
  refine q_aload_n d_X2_closeLine_0 rfl ?_
  refine q_getI (k := 4) (j := 4) d_X2_closeLine_1 hA.1 fi_2_34 rfl rfl ?_
  refine q_bipush d_X2_closeLine_4 rfl ?_
  refine q_icmp_ge d_X2_closeLine_6 (w_s0 _ _) (inr_d rfl) (fun c1 => ?_) (fun c1 => ?_)
  · refine q_aload_n d_X2_closeLine_9 rfl ?_
    refine q_getR (n := 1) d_X2_closeLine_10 hA.1 fi_2_9 rfl (Nat.le_of_ble_eq_true rfl) ?_
    refine q_aload_n d_X2_closeLine_13 rfl ?_
    refine q_getI (k := 4) (j := 4) d_X2_closeLine_14 hA.1 fi_2_34 rfl rfl ?_
    refine q_iload_n (x := x1) d_X2_closeLine_17 rfl ?_
    refine q_iastore (m := 16) d_X2_closeLine_18 hA.2.1 (by decide) rfl h_x1 w_s0 (fun g2 s3 w_s3 => ?_)
    refine q_aload_n d_X2_closeLine_19 rfl ?_
    refine q_getR (n := 2) d_X2_closeLine_20 hA.1 fi_2_15 rfl (Nat.le_of_ble_eq_true rfl) ?_
    refine q_aload_n d_X2_closeLine_23 rfl ?_
    refine q_getI (k := 4) (j := 4) d_X2_closeLine_24 hA.1 fi_2_34 rfl rfl ?_
    refine q_iload_n (x := x2) d_X2_closeLine_27 rfl ?_
    refine q_iastore (m := 16) d_X2_closeLine_28 hA.2.2.1 (by decide) rfl h_x2 w_s3 (fun g4 s5 w_s5 => ?_)
    refine q_aload_n d_X2_closeLine_29 rfl ?_
    refine q_getR (n := 3) d_X2_closeLine_30 hA.1 fi_2_18 rfl (Nat.le_of_ble_eq_true rfl) ?_
    refine q_aload_n d_X2_closeLine_33 rfl ?_
    refine q_getI (k := 4) (j := 4) d_X2_closeLine_34 hA.1 fi_2_34 rfl rfl ?_
    refine q_aload_n d_X2_closeLine_37 rfl ?_
    refine q_getI (k := 5) (j := 5) d_X2_closeLine_38 hA.1 fi_2_38 rfl rfl ?_
    refine q_iastore (m := 16) d_X2_closeLine_41 hA.2.2.2.1 (by decide) rfl (w_s5 _ _) w_s5 (fun g6 s7 w_s7 => ?_)
    refine q_aload_n d_X2_closeLine_42 rfl ?_
    refine q_dup d_X2_closeLine_43 rfl ?_
    refine q_getI (k := 4) (j := 4) d_X2_closeLine_44 hA.1 fi_2_34 rfl rfl ?_
    refine q_iconst d_X2_closeLine_47 ?_
    refine q_iadd d_X2_closeLine_48 ?_
    refine q_putI (k := 4) (j := 4) d_X2_closeLine_49 hA.1 fp_2_34 rfl rfl (inr_wr _) w_s7 (fun s8 w_s8 => ?_)
    exact q_vret d_X2_closeLine_52 rfl w_s8
  · exact q_vret d_X2_closeLine_52 rfl w_s0
abbrev R_X4_has : Room := { frames := 0, cells := 0, slots := 0, locals := 0 }
noncomputable def f_X4_has (a : Nat) (x1 : Int) (s0 : Mem) : Res :=
  if x1 < 0 then (some (0, s0)) else (if x1 < s0 a 8 then (some (1, s0)) else (some (0, s0)))
set_option maxHeartbeats 4000000 in
set_option maxRecDepth 10000 in
theorem c_X4_has (κ : Kp) (a : Nat) (hA : At4 κ a) (x1 : Int) (h_x1 : InR x1) (s0 : Mem) : ∀ r σ', f_X4_has a x1 s0 = some (r, σ') → Ct κ M_X4_has R_X4_has [vr κ a, vi x1] s0 r σ' := by
  intro r σ' ho
  refine Ct.of (by decide) (Nat.le_of_ble_eq_true rfl) (cat_ok rfl) (fun w_s0 => ?_) ⟨rfl, rfl⟩
  refine q_ent (ls' := [some (vr κ a), some (vi x1)]) (o := f_X4_has a x1 s0) ⟨rfl, rfl, trivial⟩ ?_ ho
  unfold f_X4_has
  refine q_iload_n (x := x1) d_X4_has_0 rfl ?_
  refine q_if_lt d_X4_has_1 h_x1 (fun c1 => ?_) (fun c1 => ?_)
  · refine q_iconst d_X4_has_16 ?_
    exact q_iretz d_X4_has_17 rfl (Or.inl rfl) w_s0
  · refine q_iload_n (x := x1) d_X4_has_4 rfl ?_
    refine q_aload_n d_X4_has_5 rfl ?_
    refine q_getI (k := 8) (j := 8) d_X4_has_6 hA.1 fi_4_47 rfl rfl ?_
    refine q_icmp_ge d_X4_has_9 h_x1 (w_s0 _ _) (fun c2 => ?_) (fun c2 => ?_)
    · refine q_iconst d_X4_has_12 ?_
      refine q_goto d_X4_has_13 ?_
      exact q_iretz d_X4_has_17 rfl (Or.inr rfl) w_s0
    · refine q_iconst d_X4_has_16 ?_
      exact q_iretz d_X4_has_17 rfl (Or.inl rfl) w_s0
abbrev R_X4_stuckIn : Room := { frames := 0, cells := 0, slots := 0, locals := 0 }
noncomputable def f_X4_stuckIn (a : Nat) (x1 : Int) (s0 : Mem) : Res :=
  gd ((0 : Int) ≤ x1 ∧ x1 < 10) (gd ((0 : Int) ≤ x1 ∧ x1 < 10) (some (wr ((s0 (a + 4) x1) + (s0 (a + 5) x1)), s0)))
set_option maxHeartbeats 4000000 in
set_option maxRecDepth 10000 in
theorem c_X4_stuckIn (κ : Kp) (a : Nat) (hA : At4 κ a) (x1 : Int) (h_x1 : InR x1) (s0 : Mem) : ∀ r σ', f_X4_stuckIn a x1 s0 = some (r, σ') → Ct κ M_X4_stuckIn R_X4_stuckIn [vr κ a, vi x1] s0 r σ' := by
  intro r σ' ho
  refine Ct.of (by decide) (Nat.le_of_ble_eq_true rfl) (cat_ok rfl) (fun w_s0 => ?_) ⟨rfl, rfl⟩
  refine q_ent (ls' := [some (vr κ a), some (vi x1)]) (o := f_X4_stuckIn a x1 s0) ⟨rfl, rfl, trivial⟩ ?_ ho
  unfold f_X4_stuckIn
  refine q_aload_n d_X4_stuckIn_0 rfl ?_
  refine q_getR (n := 4) d_X4_stuckIn_1 hA.1 fi_4_21 rfl (Nat.le_of_ble_eq_true rfl) ?_
  refine q_iload_n (x := x1) d_X4_stuckIn_4 rfl ?_
  refine q_iaload (m := 10) d_X4_stuckIn_5 hA.2.2.2.2.1 (by decide) rfl (fun g1 => ?_)
  refine q_aload_n d_X4_stuckIn_6 rfl ?_
  refine q_getR (n := 5) d_X4_stuckIn_7 hA.1 fi_4_24 rfl (Nat.le_of_ble_eq_true rfl) ?_
  refine q_iload_n (x := x1) d_X4_stuckIn_10 rfl ?_
  refine q_iaload (m := 10) d_X4_stuckIn_11 hA.2.2.2.2.2.1 (by decide) rfl (fun g2 => ?_)
  refine q_iadd d_X4_stuckIn_12 ?_
  exact q_ireti d_X4_stuckIn_13 rfl (inr_wr _) w_s0
abbrev R_X4_lean : Room := { frames := 0, cells := 0, slots := 0, locals := 0 }
noncomputable def f_X4_lean (a : Nat) (x1 : Int) (s0 : Mem) : Res :=
  gd ((0 : Int) ≤ x1 ∧ x1 < 10) (gd ((0 : Int) ≤ x1 ∧ x1 < 10) (if s0 (a + 5) x1 < s0 (a + 4) x1 then (gd ((0 : Int) ≤ x1 ∧ x1 < 10) (gd ((0 : Int) ≤ x1 ∧ x1 < 10) (some (wr ((s0 (a + 4) x1) - (s0 (a + 5) x1)), s0)))) else (gd ((0 : Int) ≤ x1 ∧ x1 < 10) (gd ((0 : Int) ≤ x1 ∧ x1 < 10) (some (wr ((s0 (a + 5) x1) - (s0 (a + 4) x1)), s0))))))
set_option maxHeartbeats 4000000 in
set_option maxRecDepth 10000 in
theorem c_X4_lean (κ : Kp) (a : Nat) (hA : At4 κ a) (x1 : Int) (h_x1 : InR x1) (s0 : Mem) : ∀ r σ', f_X4_lean a x1 s0 = some (r, σ') → Ct κ M_X4_lean R_X4_lean [vr κ a, vi x1] s0 r σ' := by
  intro r σ' ho
  refine Ct.of (by decide) (Nat.le_of_ble_eq_true rfl) (cat_ok rfl) (fun w_s0 => ?_) ⟨rfl, rfl⟩
  refine q_ent (ls' := [some (vr κ a), some (vi x1)]) (o := f_X4_lean a x1 s0) ⟨rfl, rfl, trivial⟩ ?_ ho
  unfold f_X4_lean
  refine q_aload_n d_X4_lean_0 rfl ?_
  refine q_getR (n := 4) d_X4_lean_1 hA.1 fi_4_21 rfl (Nat.le_of_ble_eq_true rfl) ?_
  refine q_iload_n (x := x1) d_X4_lean_4 rfl ?_
  refine q_iaload (m := 10) d_X4_lean_5 hA.2.2.2.2.1 (by decide) rfl (fun g1 => ?_)
  refine q_aload_n d_X4_lean_6 rfl ?_
  refine q_getR (n := 5) d_X4_lean_7 hA.1 fi_4_24 rfl (Nat.le_of_ble_eq_true rfl) ?_
  refine q_iload_n (x := x1) d_X4_lean_10 rfl ?_
  refine q_iaload (m := 10) d_X4_lean_11 hA.2.2.2.2.2.1 (by decide) rfl (fun g2 => ?_)
  refine q_icmp_le d_X4_lean_12 (w_s0 _ _) (w_s0 _ _) (fun c3 => ?_) (fun c3 => ?_)
  · refine q_aload_n d_X4_lean_15 rfl ?_
    refine q_getR (n := 4) d_X4_lean_16 hA.1 fi_4_21 rfl (Nat.le_of_ble_eq_true rfl) ?_
    refine q_iload_n (x := x1) d_X4_lean_19 rfl ?_
    refine q_iaload (m := 10) d_X4_lean_20 hA.2.2.2.2.1 (by decide) rfl (fun g4 => ?_)
    refine q_aload_n d_X4_lean_21 rfl ?_
    refine q_getR (n := 5) d_X4_lean_22 hA.1 fi_4_24 rfl (Nat.le_of_ble_eq_true rfl) ?_
    refine q_iload_n (x := x1) d_X4_lean_25 rfl ?_
    refine q_iaload (m := 10) d_X4_lean_26 hA.2.2.2.2.2.1 (by decide) rfl (fun g5 => ?_)
    refine q_isub d_X4_lean_27 ?_
    refine q_goto d_X4_lean_28 ?_
    exact q_ireti d_X4_lean_44 rfl (inr_wr _) w_s0
  · refine q_aload_n d_X4_lean_31 rfl ?_
    refine q_getR (n := 5) d_X4_lean_32 hA.1 fi_4_24 rfl (Nat.le_of_ble_eq_true rfl) ?_
    refine q_iload_n (x := x1) d_X4_lean_35 rfl ?_
    refine q_iaload (m := 10) d_X4_lean_36 hA.2.2.2.2.2.1 (by decide) rfl (fun g6 => ?_)
    refine q_aload_n d_X4_lean_37 rfl ?_
    refine q_getR (n := 4) d_X4_lean_38 hA.1 fi_4_21 rfl (Nat.le_of_ble_eq_true rfl) ?_
    refine q_iload_n (x := x1) d_X4_lean_41 rfl ?_
    refine q_iaload (m := 10) d_X4_lean_42 hA.2.2.2.2.1 (by decide) rfl (fun g7 => ?_)
    refine q_isub d_X4_lean_43 ?_
    exact q_ireti d_X4_lean_44 rfl (inr_wr _) w_s0
abbrev R_X2_see : Room := { frames := 1, cells := 0, slots := 0, locals := 22 }
noncomputable def f_X2_see (a : Nat) (a1 : Nat) (x2 : Int) (s0 : Mem) : Res :=
  bd (f_X4_has a1 x2 s0) fun r1 s2 => gd ((0 : Int) ≤ 0 ∧ (0 : Int) < 10) (lm (mup s2 (a + 5) 0 (s2 a1 11)) fun s4 => gd ((0 : Int) ≤ 1 ∧ (1 : Int) < 10) (lm (mup s4 (a + 5) 1 (s4 a1 12)) fun s6 => gd ((0 : Int) ≤ 2 ∧ (2 : Int) < 10) (lm (mup s6 (a + 5) 2 (s6 a1 10)) fun s8 => gd ((24 : Int) ≠ 0) (gd ((0 : Int) ≤ 7 ∧ (7 : Int) < 10) (lm (mup s8 (a + 5) 7 (Int.tmod (s8 a1 14) 24)) fun s11 => jn (fun (y12 : Int) => jn (fun (y13 : Int) (s14 : Mem) => gd ((0 : Int) ≤ 3 ∧ (3 : Int) < 10) (lm (mup s14 (a + 5) 3 y13) fun s16 => jn (fun (y17 : Int) => gd ((0 : Int) ≤ 4 ∧ (4 : Int) < 10) (lm (mup s16 (a + 5) 4 y17) fun s19 => jn (fun (y20 : Int) => gd ((0 : Int) ≤ 5 ∧ (5 : Int) < 10) (lm (mup s19 (a + 5) 5 y20) fun s22 => gd ((0 : Int) ≤ 6 ∧ (6 : Int) < 10) (lm (mup s22 (a + 5) 6 y12) fun s24 => jn (fun (y25 : Int) (s26 : Mem) => gd ((0 : Int) ≤ 8 ∧ (8 : Int) < 10) (lm (mup s26 (a + 5) 8 y25) fun s28 => jn (fun (y29 : Int) (s30 : Mem) => gd ((0 : Int) ≤ 9 ∧ (9 : Int) < 10) (lm (mup s30 (a + 5) 9 y29) fun s32 => some (0, s32))) fun j186 => if r1 = 0 then (j186 0 s28) else (bd (f_X4_lean a1 x2 s28) fun r34 s35 => j186 r34 s35))) fun j166 => if r1 = 0 then (j166 0 s24) else (bd (f_X4_stuckIn a1 x2 s24) fun r37 s38 => j166 r37 s38)))) fun j137 => if r1 = 0 then (j137 0) else (gd ((0 : Int) ≤ x2 ∧ x2 < 10) (j137 (s19 (a1 + 2) x2))))) fun j117 => if r1 = 0 then (j117 0) else (gd ((0 : Int) ≤ x2 ∧ x2 < 10) (j117 (s16 (a1 + 1) x2))))) fun j97 => jn (fun (s43 : Mem) => j97 0 s43) fun j96 => if r1 = 0 then (j96 s11) else (bd (f_X11_within y12 0 15 s11) fun r45 s46 => if r45 = 0 then (j96 s46) else (gd ((0 : Int) ≤ y12 ∧ y12 < 16) (j97 (s46 (a1 + 8) y12) s46)))) fun j64 => if r1 = 0 then (j64 0) else (gd ((0 : Int) ≤ x2 ∧ x2 < 10) (j64 (s11 (a1 + 3) x2))))))))
set_option maxHeartbeats 4000000 in
set_option maxRecDepth 10000 in
theorem c_X2_see (κ : Kp) (a : Nat) (hA : At2 κ a) (a1 : Nat) (hA1 : At4 κ a1) (x2 : Int) (h_x2 : InR x2) (s0 : Mem) : ∀ r σ', f_X2_see a a1 x2 s0 = some (r, σ') → Ct κ M_X2_see R_X2_see [vr κ a, vr κ a1, vi x2] s0 r σ' := by
  intro r σ' ho
  refine Ct.of (by decide) (Nat.le_of_ble_eq_true rfl) (cat_ok rfl) (fun w_s0 => ?_) ⟨rfl, rfl⟩
  refine q_ent (ls' := [some (vr κ a), some (vr κ a1), some (vi x2), none, none]) (o := f_X2_see a a1 x2 s0) ⟨rfl, rfl, rfl, trivial⟩ ?_ ho
  unfold f_X2_see
  refine q_aload_n d_X2_see_0 rfl ?_
  refine q_iload_n (x := x2) d_X2_see_1 rfl ?_
  refine q_callZ (R' := R_X4_has) (runV (As := [vi x2]) (rest := []) d_X2_see_2.1 cv_2_65 rfl hA1.1 rfl rfl ⟨rfl, rfl, by decide, by decide⟩ (Nat.le_of_ble_eq_true rfl) w_s0 rfl) d_X2_see_2.2 (c_X4_has κ a1 hA1 x2 h_x2 s0) rfl (fun r1 s2 h_r1 w_s2 => ?_)
  refine q_istore_n d_X2_see_5 rfl ?_
  refine q_aload_n d_X2_see_6 rfl ?_
  refine q_getR (n := 5) d_X2_see_7 hA.1 fi_2_24 rfl (Nat.le_of_ble_eq_true rfl) ?_
  refine q_iconst d_X2_see_10 ?_
  refine q_aload_n d_X2_see_11 rfl ?_
  refine q_getI (k := 11) (j := 11) d_X2_see_12 hA1.1 fi_2_71 rfl rfl ?_
  refine q_iastore (m := 10) d_X2_see_15 hA.2.2.2.2.2.1 (by decide) rfl (w_s2 _ _) w_s2 (fun g3 s4 w_s4 => ?_)
  refine q_aload_n d_X2_see_16 rfl ?_
  refine q_getR (n := 5) d_X2_see_17 hA.1 fi_2_24 rfl (Nat.le_of_ble_eq_true rfl) ?_
  refine q_iconst d_X2_see_20 ?_
  refine q_aload_n d_X2_see_21 rfl ?_
  refine q_getI (k := 12) (j := 12) d_X2_see_22 hA1.1 fi_2_74 rfl rfl ?_
  refine q_iastore (m := 10) d_X2_see_25 hA.2.2.2.2.2.1 (by decide) rfl (w_s4 _ _) w_s4 (fun g5 s6 w_s6 => ?_)
  refine q_aload_n d_X2_see_26 rfl ?_
  refine q_getR (n := 5) d_X2_see_27 hA.1 fi_2_24 rfl (Nat.le_of_ble_eq_true rfl) ?_
  refine q_iconst d_X2_see_30 ?_
  refine q_aload_n d_X2_see_31 rfl ?_
  refine q_getI (k := 10) (j := 10) d_X2_see_32 hA1.1 fi_2_77 rfl rfl ?_
  refine q_iastore (m := 10) d_X2_see_35 hA.2.2.2.2.2.1 (by decide) rfl (w_s6 _ _) w_s6 (fun g7 s8 w_s8 => ?_)
  refine q_aload_n d_X2_see_36 rfl ?_
  refine q_getR (n := 5) d_X2_see_37 hA.1 fi_2_24 rfl (Nat.le_of_ble_eq_true rfl) ?_
  refine q_bipush d_X2_see_40 rfl ?_
  refine q_aload_n d_X2_see_42 rfl ?_
  refine q_getI (k := 14) (j := 14) d_X2_see_43 hA1.1 fi_2_80 rfl rfl ?_
  refine q_bipush d_X2_see_46 rfl ?_
  refine q_irem d_X2_see_48 (w_s8 _ _) (inr_d rfl) (fun g9 => ?_)
  refine q_iastore (m := 10) d_X2_see_49 hA.2.2.2.2.2.1 (by decide) rfl (inr_tmod (w_s8 _ _) (inr_d rfl)) w_s8 (fun g10 s11 w_s11 => ?_)
  refine q_iload_n (x := r1) d_X2_see_50 rfl ?_
  refine q_jn (α := Int → Res) (fun j64 => ∀ (y12 : Int) (h_y12 : InR y12), EO κ M_X2_see R_X2_see 64 [some (vr κ a), some (vr κ a1), some (vi x2), some (vi r1), none] [vi y12] s11 (j64 y12)) ?_ (fun j64 hj64 => ?_)
  · intro y12 h_y12
    refine q_istore d_X2_see_64 rfl ?_
    refine q_aload_n d_X2_see_66 rfl ?_
    refine q_getR (n := 5) d_X2_see_67 hA.1 fi_2_24 rfl (Nat.le_of_ble_eq_true rfl) ?_
    refine q_iconst d_X2_see_70 ?_
    refine q_iload_n (x := r1) d_X2_see_71 rfl ?_
    refine q_jn (α := Int → Mem → Res) (fun j97 => ∀ (y13 : Int) (h_y13 : InR y13) (s14 : Mem) (w_s14 : WF s14), EO κ M_X2_see R_X2_see 97 [some (vr κ a), some (vr κ a1), some (vi x2), some (vi r1), some (vi y12)] [vi y13, vi 3, vr κ (a + 5)] s14 (j97 y13 s14)) ?_ (fun j97 hj97 => ?_)
    · intro y13 h_y13 s14 w_s14
      refine q_iastore (m := 10) d_X2_see_97 hA.2.2.2.2.2.1 (by decide) rfl h_y13 w_s14 (fun g15 s16 w_s16 => ?_)
      refine q_aload_n d_X2_see_98 rfl ?_
      refine q_getR (n := 5) d_X2_see_99 hA.1 fi_2_24 rfl (Nat.le_of_ble_eq_true rfl) ?_
      refine q_iconst d_X2_see_102 ?_
      refine q_iload_n (x := r1) d_X2_see_103 rfl ?_
      refine q_jn (α := Int → Res) (fun j117 => ∀ (y17 : Int) (h_y17 : InR y17), EO κ M_X2_see R_X2_see 117 [some (vr κ a), some (vr κ a1), some (vi x2), some (vi r1), some (vi y12)] [vi y17, vi 4, vr κ (a + 5)] s16 (j117 y17)) ?_ (fun j117 hj117 => ?_)
      · intro y17 h_y17
        refine q_iastore (m := 10) d_X2_see_117 hA.2.2.2.2.2.1 (by decide) rfl h_y17 w_s16 (fun g18 s19 w_s19 => ?_)
        refine q_aload_n d_X2_see_118 rfl ?_
        refine q_getR (n := 5) d_X2_see_119 hA.1 fi_2_24 rfl (Nat.le_of_ble_eq_true rfl) ?_
        refine q_iconst d_X2_see_122 ?_
        refine q_iload_n (x := r1) d_X2_see_123 rfl ?_
        refine q_jn (α := Int → Res) (fun j137 => ∀ (y20 : Int) (h_y20 : InR y20), EO κ M_X2_see R_X2_see 137 [some (vr κ a), some (vr κ a1), some (vi x2), some (vi r1), some (vi y12)] [vi y20, vi 5, vr κ (a + 5)] s19 (j137 y20)) ?_ (fun j137 hj137 => ?_)
        · intro y20 h_y20
          refine q_iastore (m := 10) d_X2_see_137 hA.2.2.2.2.2.1 (by decide) rfl h_y20 w_s19 (fun g21 s22 w_s22 => ?_)
          refine q_aload_n d_X2_see_138 rfl ?_
          refine q_getR (n := 5) d_X2_see_139 hA.1 fi_2_24 rfl (Nat.le_of_ble_eq_true rfl) ?_
          refine q_bipush d_X2_see_142 rfl ?_
          refine q_iload (x := y12) d_X2_see_144 rfl ?_
          refine q_iastore (m := 10) d_X2_see_146 hA.2.2.2.2.2.1 (by decide) rfl h_y12 w_s22 (fun g23 s24 w_s24 => ?_)
          refine q_aload_n d_X2_see_147 rfl ?_
          refine q_getR (n := 5) d_X2_see_148 hA.1 fi_2_24 rfl (Nat.le_of_ble_eq_true rfl) ?_
          refine q_bipush d_X2_see_151 rfl ?_
          refine q_iload_n (x := r1) d_X2_see_153 rfl ?_
          refine q_jn (α := Int → Mem → Res) (fun j166 => ∀ (y25 : Int) (h_y25 : InR y25) (s26 : Mem) (w_s26 : WF s26), EO κ M_X2_see R_X2_see 166 [some (vr κ a), some (vr κ a1), some (vi x2), some (vi r1), none] [vi y25, vi 8, vr κ (a + 5)] s26 (j166 y25 s26)) ?_ (fun j166 hj166 => ?_)
          · intro y25 h_y25 s26 w_s26
            refine q_iastore (m := 10) d_X2_see_166 hA.2.2.2.2.2.1 (by decide) rfl h_y25 w_s26 (fun g27 s28 w_s28 => ?_)
            refine q_aload_n d_X2_see_167 rfl ?_
            refine q_getR (n := 5) d_X2_see_168 hA.1 fi_2_24 rfl (Nat.le_of_ble_eq_true rfl) ?_
            refine q_bipush d_X2_see_171 rfl ?_
            refine q_iload_n (x := r1) d_X2_see_173 rfl ?_
            refine q_jn (α := Int → Mem → Res) (fun j186 => ∀ (y29 : Int) (h_y29 : InR y29) (s30 : Mem) (w_s30 : WF s30), EO κ M_X2_see R_X2_see 186 [none, none, none, none, none] [vi y29, vi 9, vr κ (a + 5)] s30 (j186 y29 s30)) ?_ (fun j186 hj186 => ?_)
            · intro y29 h_y29 s30 w_s30
              refine q_iastore (m := 10) d_X2_see_186 hA.2.2.2.2.2.1 (by decide) rfl h_y29 w_s30 (fun g31 s32 w_s32 => ?_)
              exact q_vret d_X2_see_187 rfl w_s32
            refine q_if_eq d_X2_see_174 (inr_b h_r1) (fun c33 => ?_) (fun c33 => ?_)
            · refine q_iconst d_X2_see_185 ?_
              refine q_sub (ls' := [none, none, none, none, none]) trivial ?_
              exact hj186 0 (inr_b (Or.inl rfl)) s28 w_s28
            · refine q_aload_n d_X2_see_177 rfl ?_
              refine q_iload_n (x := x2) d_X2_see_178 rfl ?_
              refine q_callI (R' := R_X4_lean) (runV (As := [vi x2]) (rest := [vi 9, vr κ (a + 5)]) d_X2_see_179.1 cv_2_102 rfl hA1.1 rfl rfl ⟨rfl, rfl, by decide, by decide⟩ (Nat.le_of_ble_eq_true rfl) w_s28 rfl) d_X2_see_179.2 (c_X4_lean κ a1 hA1 x2 h_x2 s28) rfl (fun r34 s35 h_r34 w_s35 => ?_)
              refine q_goto d_X2_see_182 ?_
              refine q_sub (ls' := [none, none, none, none, none]) trivial ?_
              exact hj186 r34 h_r34 s35 w_s35
          refine q_if_eq d_X2_see_154 (inr_b h_r1) (fun c36 => ?_) (fun c36 => ?_)
          · refine q_iconst d_X2_see_165 ?_
            refine q_sub (ls' := [some (vr κ a), some (vr κ a1), some (vi x2), some (vi r1), none]) ⟨rfl, rfl, rfl, rfl, trivial⟩ ?_
            exact hj166 0 (inr_b (Or.inl rfl)) s24 w_s24
          · refine q_aload_n d_X2_see_157 rfl ?_
            refine q_iload_n (x := x2) d_X2_see_158 rfl ?_
            refine q_callI (R' := R_X4_stuckIn) (runV (As := [vi x2]) (rest := [vi 8, vr κ (a + 5)]) d_X2_see_159.1 cv_2_99 rfl hA1.1 rfl rfl ⟨rfl, rfl, by decide, by decide⟩ (Nat.le_of_ble_eq_true rfl) w_s24 rfl) d_X2_see_159.2 (c_X4_stuckIn κ a1 hA1 x2 h_x2 s24) rfl (fun r37 s38 h_r37 w_s38 => ?_)
            refine q_goto d_X2_see_162 ?_
            refine q_sub (ls' := [some (vr κ a), some (vr κ a1), some (vi x2), some (vi r1), none]) ⟨rfl, rfl, rfl, rfl, trivial⟩ ?_
            exact hj166 r37 h_r37 s38 w_s38
        refine q_if_eq d_X2_see_124 (inr_b h_r1) (fun c39 => ?_) (fun c39 => ?_)
        · refine q_iconst d_X2_see_136 ?_
          refine q_sub (ls' := [some (vr κ a), some (vr κ a1), some (vi x2), some (vi r1), some (vi y12)]) ⟨rfl, rfl, rfl, rfl, rfl, trivial⟩ ?_
          exact hj137 0 (inr_b (Or.inl rfl))
        · refine q_aload_n d_X2_see_127 rfl ?_
          refine q_getR (n := 2) d_X2_see_128 hA1.1 fi_2_96 rfl (Nat.le_of_ble_eq_true rfl) ?_
          refine q_iload_n (x := x2) d_X2_see_131 rfl ?_
          refine q_iaload (m := 10) d_X2_see_132 hA1.2.2.1 (by decide) rfl (fun g40 => ?_)
          refine q_goto d_X2_see_133 ?_
          refine q_sub (ls' := [some (vr κ a), some (vr κ a1), some (vi x2), some (vi r1), some (vi y12)]) ⟨rfl, rfl, rfl, rfl, rfl, trivial⟩ ?_
          exact hj137 (s19 (a1 + 2) x2) (w_s19 _ _)
      refine q_if_eq d_X2_see_104 (inr_b h_r1) (fun c41 => ?_) (fun c41 => ?_)
      · refine q_iconst d_X2_see_116 ?_
        refine q_sub (ls' := [some (vr κ a), some (vr κ a1), some (vi x2), some (vi r1), some (vi y12)]) ⟨rfl, rfl, rfl, rfl, rfl, trivial⟩ ?_
        exact hj117 0 (inr_b (Or.inl rfl))
      · refine q_aload_n d_X2_see_107 rfl ?_
        refine q_getR (n := 1) d_X2_see_108 hA1.1 fi_2_93 rfl (Nat.le_of_ble_eq_true rfl) ?_
        refine q_iload_n (x := x2) d_X2_see_111 rfl ?_
        refine q_iaload (m := 10) d_X2_see_112 hA1.2.1 (by decide) rfl (fun g42 => ?_)
        refine q_goto d_X2_see_113 ?_
        refine q_sub (ls' := [some (vr κ a), some (vr κ a1), some (vi x2), some (vi r1), some (vi y12)]) ⟨rfl, rfl, rfl, rfl, rfl, trivial⟩ ?_
        exact hj117 (s16 (a1 + 1) x2) (w_s16 _ _)
    refine q_jn (α := Mem → Res) (fun j96 => ∀ (s43 : Mem) (w_s43 : WF s43), EO κ M_X2_see R_X2_see 96 [some (vr κ a), some (vr κ a1), some (vi x2), some (vi r1), some (vi y12)] [vi 3, vr κ (a + 5)] s43 (j96 s43)) ?_ (fun j96 hj96 => ?_)
    · intro s43 w_s43
      refine q_iconst d_X2_see_96 ?_
      refine q_sub (ls' := [some (vr κ a), some (vr κ a1), some (vi x2), some (vi r1), some (vi y12)]) ⟨rfl, rfl, rfl, rfl, rfl, trivial⟩ ?_
      exact hj97 0 (inr_b (Or.inl rfl)) s43 w_s43
    refine q_if_eq d_X2_see_72 (inr_b h_r1) (fun c44 => ?_) (fun c44 => ?_)
    · refine q_sub (ls' := [some (vr κ a), some (vr κ a1), some (vi x2), some (vi r1), some (vi y12)]) ⟨rfl, rfl, rfl, rfl, rfl, trivial⟩ ?_
      exact hj96 s11 w_s11
    · refine q_iload (x := y12) d_X2_see_75 rfl ?_
      refine q_iconst d_X2_see_77 ?_
      refine q_bipush d_X2_see_78 rfl ?_
      refine q_callZ (R' := R_X11_within) (runN (As := [vi y12, vi 0, vi 15]) (rest := [vi 3, vr κ (a + 5)]) d_X2_see_80.1 cv_2_86 rfl ⟨rfl, rfl, by decide, by decide⟩ (Nat.le_of_ble_eq_true rfl) w_s11 rfl) d_X2_see_80.2 (c_X11_within κ y12 h_y12 0 (inr_b (Or.inl rfl)) 15 (inr_d rfl) s11) rfl (fun r45 s46 h_r45 w_s46 => ?_)
      refine q_if_eq d_X2_see_83 (inr_b h_r45) (fun c47 => ?_) (fun c47 => ?_)
      · refine q_sub (ls' := [some (vr κ a), some (vr κ a1), some (vi x2), some (vi r1), some (vi y12)]) ⟨rfl, rfl, rfl, rfl, rfl, trivial⟩ ?_
        exact hj96 s46 w_s46
      · refine q_aload_n d_X2_see_86 rfl ?_
        refine q_getR (n := 8) d_X2_see_87 hA1.1 fi_2_90 rfl (Nat.le_of_ble_eq_true rfl) ?_
        refine q_iload (x := y12) d_X2_see_90 rfl ?_
        refine q_iaload (m := 16) d_X2_see_92 hA1.2.2.2.2.2.2.2.2 (by decide) rfl (fun g48 => ?_)
        refine q_goto d_X2_see_93 ?_
        refine q_sub (ls' := [some (vr κ a), some (vr κ a1), some (vi x2), some (vi r1), some (vi y12)]) ⟨rfl, rfl, rfl, rfl, rfl, trivial⟩ ?_
        exact hj97 (s46 (a1 + 8) y12) (w_s46 _ _) s46 w_s46
  refine q_if_eq d_X2_see_51 (inr_b h_r1) (fun c49 => ?_) (fun c49 => ?_)
  · refine q_iconst d_X2_see_63 ?_
    refine q_sub (ls' := [some (vr κ a), some (vr κ a1), some (vi x2), some (vi r1), none]) ⟨rfl, rfl, rfl, rfl, trivial⟩ ?_
    exact hj64 0 (inr_b (Or.inl rfl))
  · refine q_aload_n d_X2_see_54 rfl ?_
    refine q_getR (n := 3) d_X2_see_55 hA1.1 fi_2_83 rfl (Nat.le_of_ble_eq_true rfl) ?_
    refine q_iload_n (x := x2) d_X2_see_58 rfl ?_
    refine q_iaload (m := 10) d_X2_see_59 hA1.2.2.2.1 (by decide) rfl (fun g50 => ?_)
    refine q_goto d_X2_see_60 ?_
    refine q_sub (ls' := [some (vr κ a), some (vr κ a1), some (vi x2), some (vi r1), none]) ⟨rfl, rfl, rfl, rfl, trivial⟩ ?_
    exact hj64 (s11 (a1 + 3) x2) (w_s11 _ _)
abbrev R_X2_unsaid : Room := { frames := 0, cells := 0, slots := 0, locals := 0 }
noncomputable def f_X2_unsaid (a : Nat) (x1 : Int) (s0 : Mem) : Res :=
  if x1 = 10 then (gd ((0 : Int) ≤ 3 ∧ (3 : Int) < 10) (gd ((0 : Int) ≤ 0 ∧ (0 : Int) < 10) (some (wr ((s0 (a + 5) 3) - (wr (2 * (s0 (a + 5) 0)))), s0)))) else (if x1 = 11 then (gd ((0 : Int) ≤ 4 ∧ (4 : Int) < 10) (some (wr (40 + (s0 (a + 5) 4)), s0))) else (if x1 = 12 then (gd ((0 : Int) ≤ 4 ∧ (4 : Int) < 10) (some (wr (10 * (s0 (a + 5) 4)), s0))) else (some (5, s0))))
set_option maxHeartbeats 4000000 in
set_option maxRecDepth 10000 in
theorem c_X2_unsaid (κ : Kp) (a : Nat) (hA : At2 κ a) (x1 : Int) (h_x1 : InR x1) (s0 : Mem) : ∀ r σ', f_X2_unsaid a x1 s0 = some (r, σ') → Ct κ M_X2_unsaid R_X2_unsaid [vr κ a, vi x1] s0 r σ' := by
  intro r σ' ho
  refine Ct.of (by decide) (Nat.le_of_ble_eq_true rfl) (cat_ok rfl) (fun w_s0 => ?_) ⟨rfl, rfl⟩
  refine q_ent (ls' := [some (vr κ a), some (vi x1)]) (o := f_X2_unsaid a x1 s0) ⟨rfl, rfl, trivial⟩ ?_ ho
  unfold f_X2_unsaid
  refine q_iload_n (x := x1) d_X2_unsaid_0 rfl ?_
  refine q_ite (fun c1 => ?_) (fun c1 => ?_)
  · refine q_tswC (tgt := 28) d_X2_unsaid_1 h_x1 c1 (by decide) (by decide) rfl (by decide) ?_
    refine q_aload_n d_X2_unsaid_28 rfl ?_
    refine q_getR (n := 5) d_X2_unsaid_29 hA.1 fi_2_24 rfl (Nat.le_of_ble_eq_true rfl) ?_
    refine q_iconst d_X2_unsaid_32 ?_
    refine q_iaload (m := 10) d_X2_unsaid_33 hA.2.2.2.2.2.1 (by decide) rfl (fun g2 => ?_)
    refine q_iconst d_X2_unsaid_34 ?_
    refine q_aload_n d_X2_unsaid_35 rfl ?_
    refine q_getR (n := 5) d_X2_unsaid_36 hA.1 fi_2_24 rfl (Nat.le_of_ble_eq_true rfl) ?_
    refine q_iconst d_X2_unsaid_39 ?_
    refine q_iaload (m := 10) d_X2_unsaid_40 hA.2.2.2.2.2.1 (by decide) rfl (fun g3 => ?_)
    refine q_imul d_X2_unsaid_41 ?_
    refine q_isub d_X2_unsaid_42 ?_
    exact q_ireti d_X2_unsaid_43 rfl (inr_wr _) w_s0
  refine q_ite (fun c4 => ?_) (fun c4 => ?_)
  · refine q_tswC (tgt := 44) d_X2_unsaid_1 h_x1 c4 (by decide) (by decide) rfl (by decide) ?_
    refine q_bipush d_X2_unsaid_44 rfl ?_
    refine q_aload_n d_X2_unsaid_46 rfl ?_
    refine q_getR (n := 5) d_X2_unsaid_47 hA.1 fi_2_24 rfl (Nat.le_of_ble_eq_true rfl) ?_
    refine q_iconst d_X2_unsaid_50 ?_
    refine q_iaload (m := 10) d_X2_unsaid_51 hA.2.2.2.2.2.1 (by decide) rfl (fun g5 => ?_)
    refine q_iadd d_X2_unsaid_52 ?_
    exact q_ireti d_X2_unsaid_53 rfl (inr_wr _) w_s0
  refine q_ite (fun c6 => ?_) (fun c6 => ?_)
  · refine q_tswC (tgt := 54) d_X2_unsaid_1 h_x1 c6 (by decide) (by decide) rfl (by decide) ?_
    refine q_bipush d_X2_unsaid_54 rfl ?_
    refine q_aload_n d_X2_unsaid_56 rfl ?_
    refine q_getR (n := 5) d_X2_unsaid_57 hA.1 fi_2_24 rfl (Nat.le_of_ble_eq_true rfl) ?_
    refine q_iconst d_X2_unsaid_60 ?_
    refine q_iaload (m := 10) d_X2_unsaid_61 hA.2.2.2.2.2.1 (by decide) rfl (fun g7 => ?_)
    refine q_imul d_X2_unsaid_62 ?_
    exact q_ireti d_X2_unsaid_63 rfl (inr_wr _) w_s0
  refine q_tswD (tgt := 64) d_X2_unsaid_1 h_x1 (by omega) (by decide) ?_
  refine q_iconst d_X2_unsaid_64 ?_
  exact q_ireti d_X2_unsaid_65 rfl (inr_d rfl) w_s0
abbrev R_X2_asked : Room := { frames := 0, cells := 0, slots := 0, locals := 0 }
noncomputable def f_X2_asked (a : Nat) (x1 : Int) (s0 : Mem) : Res :=
  if x1 < 0 then (some (0, s0)) else (if x1 < 10 then (gd ((0 : Int) ≤ x1 ∧ x1 < 10) (some (s0 (a + 5) x1, s0))) else (some (0, s0)))
set_option maxHeartbeats 4000000 in
set_option maxRecDepth 10000 in
theorem c_X2_asked (κ : Kp) (a : Nat) (hA : At2 κ a) (x1 : Int) (h_x1 : InR x1) (s0 : Mem) : ∀ r σ', f_X2_asked a x1 s0 = some (r, σ') → Ct κ M_X2_asked R_X2_asked [vr κ a, vi x1] s0 r σ' := by
  intro r σ' ho
  refine Ct.of (by decide) (Nat.le_of_ble_eq_true rfl) (cat_ok rfl) (fun w_s0 => ?_) ⟨rfl, rfl⟩
  refine q_ent (ls' := [some (vr κ a), some (vi x1)]) (o := f_X2_asked a x1 s0) ⟨rfl, rfl, trivial⟩ ?_ ho
  unfold f_X2_asked
  refine q_iload_n (x := x1) d_X2_asked_0 rfl ?_
  refine q_if_lt d_X2_asked_1 h_x1 (fun c1 => ?_) (fun c1 => ?_)
  · refine q_iconst d_X2_asked_19 ?_
    exact q_ireti d_X2_asked_20 rfl (inr_b (Or.inl rfl)) w_s0
  · refine q_iload_n (x := x1) d_X2_asked_4 rfl ?_
    refine q_bipush d_X2_asked_5 rfl ?_
    refine q_icmp_ge d_X2_asked_7 h_x1 (inr_d rfl) (fun c2 => ?_) (fun c2 => ?_)
    · refine q_aload_n d_X2_asked_10 rfl ?_
      refine q_getR (n := 5) d_X2_asked_11 hA.1 fi_2_24 rfl (Nat.le_of_ble_eq_true rfl) ?_
      refine q_iload_n (x := x1) d_X2_asked_14 rfl ?_
      refine q_iaload (m := 10) d_X2_asked_15 hA.2.2.2.2.2.1 (by decide) rfl (fun g3 => ?_)
      refine q_goto d_X2_asked_16 ?_
      exact q_ireti d_X2_asked_20 rfl (w_s0 _ _) w_s0
    · refine q_iconst d_X2_asked_19 ?_
      exact q_ireti d_X2_asked_20 rfl (inr_b (Or.inl rfl)) w_s0
abbrev R_X2_joined : Room := { frames := 0, cells := 0, slots := 0, locals := 0 }
noncomputable def f_X2_joined (x0 : Int) (x1 : Int) (x2 : Int) (s0 : Mem) : Res :=
  if x0 = 15 then (some (ior x1 x2, s0)) else (if x0 = 42 then (some (wr (x1 * x2), s0)) else (if x0 = 43 then (some (wr (x1 + x2), s0)) else (if x0 = 45 then (some (wr (x1 - x2), s0)) else (if x0 = 47 then (if x2 = 0 then (some (0, s0)) else (gd (x2 ≠ 0) (some (wr (Int.tdiv x1 x2), s0)))) else (if x0 = 60 then (if x1 < x2 then (some (1, s0)) else (some (0, s0))) else (if x0 = 61 then (if x1 = x2 then (some (1, s0)) else (some (0, s0))) else (if x0 = 62 then (if x2 < x1 then (some (1, s0)) else (some (0, s0))) else (some (iand x1 x2, s0)))))))))
set_option maxHeartbeats 4000000 in
set_option maxRecDepth 10000 in
theorem c_X2_joined (κ : Kp) (x0 : Int) (h_x0 : InR x0) (x1 : Int) (h_x1 : InR x1) (x2 : Int) (h_x2 : InR x2) (s0 : Mem) : ∀ r σ', f_X2_joined x0 x1 x2 s0 = some (r, σ') → Ct κ M_X2_joined R_X2_joined [vi x0, vi x1, vi x2] s0 r σ' := by
  intro r σ' ho
  refine Ct.of (by decide) (Nat.le_of_ble_eq_true rfl) (cat_ok rfl) (fun w_s0 => ?_) ⟨rfl, rfl⟩
  refine q_ent (ls' := [some (vi x0), some (vi x1), some (vi x2)]) (o := f_X2_joined x0 x1 x2 s0) ⟨rfl, rfl, rfl, trivial⟩ ?_ ho
  unfold f_X2_joined
  refine q_iload_n (x := x0) d_X2_joined_0 rfl ?_
  refine q_ite (fun c1 => ?_) (fun c1 => ?_)
  · refine q_lsw (tgt := 133) (off := 132) d_X2_joined_1 h_x0 (by decide) (by rw [c1]; rfl) (by decide) ?_
    refine q_iload_n (x := x1) d_X2_joined_133 rfl ?_
    refine q_iload_n (x := x2) d_X2_joined_134 rfl ?_
    refine q_ior d_X2_joined_135 ?_
    exact q_ireti d_X2_joined_136 rfl (inr_i32 _) w_s0
  refine q_ite (fun c2 => ?_) (fun c2 => ?_)
  · refine q_lsw (tgt := 84) (off := 83) d_X2_joined_1 h_x0 (by decide) (by rw [c2]; rfl) (by decide) ?_
    refine q_iload_n (x := x1) d_X2_joined_84 rfl ?_
    refine q_iload_n (x := x2) d_X2_joined_85 rfl ?_
    refine q_imul d_X2_joined_86 ?_
    exact q_ireti d_X2_joined_87 rfl (inr_wr _) w_s0
  refine q_ite (fun c3 => ?_) (fun c3 => ?_)
  · refine q_lsw (tgt := 76) (off := 75) d_X2_joined_1 h_x0 (by decide) (by rw [c3]; rfl) (by decide) ?_
    refine q_iload_n (x := x1) d_X2_joined_76 rfl ?_
    refine q_iload_n (x := x2) d_X2_joined_77 rfl ?_
    refine q_iadd d_X2_joined_78 ?_
    exact q_ireti d_X2_joined_79 rfl (inr_wr _) w_s0
  refine q_ite (fun c4 => ?_) (fun c4 => ?_)
  · refine q_lsw (tgt := 80) (off := 79) d_X2_joined_1 h_x0 (by decide) (by rw [c4]; rfl) (by decide) ?_
    refine q_iload_n (x := x1) d_X2_joined_80 rfl ?_
    refine q_iload_n (x := x2) d_X2_joined_81 rfl ?_
    refine q_isub d_X2_joined_82 ?_
    exact q_ireti d_X2_joined_83 rfl (inr_wr _) w_s0
  refine q_ite (fun c5 => ?_) (fun c5 => ?_)
  · refine q_lsw (tgt := 88) (off := 87) d_X2_joined_1 h_x0 (by decide) (by rw [c5]; rfl) (by decide) ?_
    refine q_iload_n (x := x2) d_X2_joined_88 rfl ?_
    refine q_if_ne d_X2_joined_89 h_x2 (fun c6 => ?_) (fun c6 => ?_)
    · refine q_iconst d_X2_joined_92 ?_
      refine q_goto d_X2_joined_93 ?_
      exact q_ireti d_X2_joined_99 rfl (inr_b (Or.inl rfl)) w_s0
    · refine q_iload_n (x := x1) d_X2_joined_96 rfl ?_
      refine q_iload_n (x := x2) d_X2_joined_97 rfl ?_
      refine q_idiv d_X2_joined_98 h_x1 h_x2 (fun g7 => ?_)
      exact q_ireti d_X2_joined_99 rfl (inr_wr _) w_s0
  refine q_ite (fun c8 => ?_) (fun c8 => ?_)
  · refine q_lsw (tgt := 100) (off := 99) d_X2_joined_1 h_x0 (by decide) (by rw [c8]; rfl) (by decide) ?_
    refine q_iload_n (x := x1) d_X2_joined_100 rfl ?_
    refine q_iload_n (x := x2) d_X2_joined_101 rfl ?_
    refine q_icmp_ge d_X2_joined_102 h_x1 h_x2 (fun c9 => ?_) (fun c9 => ?_)
    · refine q_iconst d_X2_joined_105 ?_
      refine q_goto d_X2_joined_106 ?_
      exact q_ireti d_X2_joined_110 rfl (inr_b (Or.inr rfl)) w_s0
    · refine q_iconst d_X2_joined_109 ?_
      exact q_ireti d_X2_joined_110 rfl (inr_b (Or.inl rfl)) w_s0
  refine q_ite (fun c10 => ?_) (fun c10 => ?_)
  · refine q_lsw (tgt := 111) (off := 110) d_X2_joined_1 h_x0 (by decide) (by rw [c10]; rfl) (by decide) ?_
    refine q_iload_n (x := x1) d_X2_joined_111 rfl ?_
    refine q_iload_n (x := x2) d_X2_joined_112 rfl ?_
    refine q_icmp_ne d_X2_joined_113 h_x1 h_x2 (fun c11 => ?_) (fun c11 => ?_)
    · refine q_iconst d_X2_joined_116 ?_
      refine q_goto d_X2_joined_117 ?_
      exact q_ireti d_X2_joined_121 rfl (inr_b (Or.inr rfl)) w_s0
    · refine q_iconst d_X2_joined_120 ?_
      exact q_ireti d_X2_joined_121 rfl (inr_b (Or.inl rfl)) w_s0
  refine q_ite (fun c12 => ?_) (fun c12 => ?_)
  · refine q_lsw (tgt := 122) (off := 121) d_X2_joined_1 h_x0 (by decide) (by rw [c12]; rfl) (by decide) ?_
    refine q_iload_n (x := x1) d_X2_joined_122 rfl ?_
    refine q_iload_n (x := x2) d_X2_joined_123 rfl ?_
    refine q_icmp_le d_X2_joined_124 h_x1 h_x2 (fun c13 => ?_) (fun c13 => ?_)
    · refine q_iconst d_X2_joined_127 ?_
      refine q_goto d_X2_joined_128 ?_
      exact q_ireti d_X2_joined_132 rfl (inr_b (Or.inr rfl)) w_s0
    · refine q_iconst d_X2_joined_131 ?_
      exact q_ireti d_X2_joined_132 rfl (inr_b (Or.inl rfl)) w_s0
  refine q_lsw (tgt := 137) (off := 136) d_X2_joined_1 h_x0 (by decide) (by
    show Op.lookupswitch.offset [(15, 132), (42, 83), (43, 75), (45, 79), (47, 87), (60, 99), (61, 110), (62, 121)] 136 x0 = 136
    rw [Op.lookupswitch.offset_cons, if_neg (fun q => c1 q.symm), Op.lookupswitch.offset_cons, if_neg (fun q => c2 q.symm), Op.lookupswitch.offset_cons, if_neg (fun q => c3 q.symm), Op.lookupswitch.offset_cons, if_neg (fun q => c4 q.symm), Op.lookupswitch.offset_cons, if_neg (fun q => c5 q.symm), Op.lookupswitch.offset_cons, if_neg (fun q => c8 q.symm), Op.lookupswitch.offset_cons, if_neg (fun q => c10 q.symm), Op.lookupswitch.offset_cons, if_neg (fun q => c12 q.symm), Op.lookupswitch.offset_nil]) (by decide) ?_
  refine q_iload_n (x := x1) d_X2_joined_137 rfl ?_
  refine q_iload_n (x := x2) d_X2_joined_138 rfl ?_
  refine q_iand d_X2_joined_139 ?_
  exact q_ireti d_X2_joined_140 rfl (inr_i32 _) w_s0
abbrev R_X2_value : Room := { frames := 1, cells := 0, slots := 0, locals := 22 }
noncomputable def f_X2_value_12 (a : Nat) (p2 : Int) : Nat → Int → Int → Mem → Res
  | 0, _, _, _ => none
  | n + 1, x3, x4, s0 =>
    if x4 < p2 then (if x4 < 400 then (gd ((0 : Int) ≤ x4 ∧ x4 < 400) (jn (fun (v6 : Int) (s7 : Mem) => f_X2_value_12 a p2 n v6 (wr (x4 + 1)) s7) fun j161 => if s0 (a + 4) x4 < 20000 then (if x3 < 32 then (jn (fun (y10 : Int) (s11 : Mem) => gd ((0 : Int) ≤ x3 ∧ x3 < 32) (lm (mup s11 (a + 6) x3 y10) fun s13 => j161 (wr (x3 + 1)) s13)) fun j82 => if s0 (a + 4) x4 < 10000 then (j82 (s0 (a + 4) x4) s0) else (bd (f_X2_asked a (wr ((s0 (a + 4) x4) - 10000)) s0) fun r15 s16 => j82 r15 s16)) else (j161 x3 s0)) else (if s0 (a + 4) x4 = 20017 then (if 0 < x3 then (gd ((0 : Int) ≤ wr (x3 - 1) ∧ wr (x3 - 1) < 32) (gd ((0 : Int) ≤ wr (x3 - 1) ∧ wr (x3 - 1) < 32) (lm (mup s0 (a + 6) (wr (x3 - 1)) (wr (1 - (s0 (a + 6) (wr (x3 - 1)))))) fun s21 => j161 x3 s21))) else (j161 x3 s0)) else (if 1 < x3 then (gd ((0 : Int) ≤ wr ((wr (x3 + (-1))) - 1) ∧ wr ((wr (x3 + (-1))) - 1) < 32) (gd ((0 : Int) ≤ wr (x3 + (-1)) ∧ wr (x3 + (-1)) < 32) (bd (f_X2_joined (wr ((s0 (a + 4) x4) - 20000)) (s0 (a + 6) (wr ((wr (x3 + (-1))) - 1))) (s0 (a + 6) (wr (x3 + (-1)))) s0) fun r25 s26 => gd ((0 : Int) ≤ wr ((wr (x3 + (-1))) - 1) ∧ wr ((wr (x3 + (-1))) - 1) < 32) (lm (mup s26 (a + 6) (wr ((wr (x3 + (-1))) - 1)) r25) fun s28 => j161 (wr (x3 + (-1))) s28)))) else (j161 x3 s0))))) else (gd ((0 : Int) ≤ 0 ∧ (0 : Int) < 32) (some (s0 (a + 6) 0, s0)))) else (gd ((0 : Int) ≤ 0 ∧ (0 : Int) < 32) (some (s0 (a + 6) 0, s0)))
noncomputable def f_X2_value (a : Nat) (x1 : Int) (x2 : Int) (s0 : Mem) : Res :=
  gd ((0 : Int) ≤ 0 ∧ (0 : Int) < 32) (lm (mup s0 (a + 6) 0 0) fun s2 => f_X2_value_12 a x2 FU 0 x1 s2)
set_option maxHeartbeats 4000000 in
set_option maxRecDepth 10000 in
theorem l_X2_value_12 (κ : Kp) (a : Nat) (hA : At2 κ a) (p2 : Int) (h_p2 : InR p2)   : ∀ (n : Nat) (x3 : Int) (h_x3 : InR x3) (x4 : Int) (h_x4 : InR x4) (s0 : Mem) (w_s0 : WF s0), EO κ M_X2_value R_X2_value 12 [some (vr κ a), none, some (vi p2), some (vi x3), some (vi x4), none] [] s0 (f_X2_value_12 a p2 n x3 x4 s0) := by
  intro n
  induction n with
  | zero => exact fun _ _ _ _ _ _ => q_none
  | succ n ih =>
    intro x3 h_x3 x4 h_x4 s0 w_s0
    rw [f_X2_value_12]
    refine q_iload (x := x4) d_X2_value_12 rfl ?_
    refine q_iload_n (x := p2) d_X2_value_14 rfl ?_
    refine q_icmp_ge d_X2_value_15 h_x4 h_p2 (fun c3 => ?_) (fun c3 => ?_)
    · refine q_iload (x := x4) d_X2_value_18 rfl ?_
      refine q_aload_n d_X2_value_20 rfl ?_
      refine q_getR (n := 4) d_X2_value_21 hA.1 fi_2_21 rfl (Nat.le_of_ble_eq_true rfl) ?_
      refine q_alen (m := 400) d_X2_value_24 hA.2.2.2.2.1 rfl ?_
      refine q_icmp_ge d_X2_value_25 h_x4 (inr_d rfl) (fun c4 => ?_) (fun c4 => ?_)
      · refine q_aload_n d_X2_value_28 rfl ?_
        refine q_getR (n := 4) d_X2_value_29 hA.1 fi_2_21 rfl (Nat.le_of_ble_eq_true rfl) ?_
        refine q_iload (x := x4) d_X2_value_32 rfl ?_
        refine q_iaload (m := 400) d_X2_value_34 hA.2.2.2.2.1 (by decide) rfl (fun g5 => ?_)
        refine q_istore d_X2_value_35 rfl ?_
        refine q_iload (x := s0 (a + 4) x4) d_X2_value_37 rfl ?_
        refine q_sipush d_X2_value_39 rfl ?_
        refine q_jn (α := Int → Mem → Res) (fun j161 => ∀ (v6 : Int) (h_v6 : InR v6) (s7 : Mem) (w_s7 : WF s7), EO κ M_X2_value R_X2_value 161 [some (vr κ a), none, some (vi p2), some (vi v6), some (vi x4), none] [] s7 (j161 v6 s7)) ?_ (fun j161 hj161 => ?_)
        · intro v6 h_v6 s7 w_s7
          refine q_iinc (x := x4) d_X2_value_161 rfl rfl ?_
          refine q_goto d_X2_value_164 ?_
          refine q_sub (ls' := [some (vr κ a), none, some (vi p2), some (vi v6), some (vi (wr (x4 + 1))), none]) ⟨rfl, rfl, rfl, rfl, trivial⟩ ?_
          exact ih v6 h_v6 (wr (x4 + 1)) (inr_wr _) s7 w_s7
        refine q_icmp_ge d_X2_value_42 (w_s0 _ _) (inr_d rfl) (fun c8 => ?_) (fun c8 => ?_)
        · refine q_iload_n (x := x3) d_X2_value_45 rfl ?_
          refine q_aload_n d_X2_value_46 rfl ?_
          refine q_getR (n := 6) d_X2_value_47 hA.1 fi_2_27 rfl (Nat.le_of_ble_eq_true rfl) ?_
          refine q_alen (m := 32) d_X2_value_50 hA.2.2.2.2.2.2 rfl ?_
          refine q_icmp_ge d_X2_value_51 h_x3 (inr_d rfl) (fun c9 => ?_) (fun c9 => ?_)
          · refine q_aload_n d_X2_value_54 rfl ?_
            refine q_getR (n := 6) d_X2_value_55 hA.1 fi_2_27 rfl (Nat.le_of_ble_eq_true rfl) ?_
            refine q_iload_n (x := x3) d_X2_value_58 rfl ?_
            refine q_iload (x := s0 (a + 4) x4) d_X2_value_59 rfl ?_
            refine q_sipush d_X2_value_61 rfl ?_
            refine q_jn (α := Int → Mem → Res) (fun j82 => ∀ (y10 : Int) (h_y10 : InR y10) (s11 : Mem) (w_s11 : WF s11), EO κ M_X2_value R_X2_value 82 [some (vr κ a), none, some (vi p2), some (vi x3), some (vi x4), none] [vi y10, vi x3, vr κ (a + 6)] s11 (j82 y10 s11)) ?_ (fun j82 hj82 => ?_)
            · intro y10 h_y10 s11 w_s11
              refine q_iastore (m := 32) d_X2_value_82 hA.2.2.2.2.2.2 (by decide) rfl h_y10 w_s11 (fun g12 s13 w_s13 => ?_)
              refine q_iinc (x := x3) d_X2_value_83 rfl rfl ?_
              refine q_goto d_X2_value_86 ?_
              refine q_sub (ls' := [some (vr κ a), none, some (vi p2), some (vi (wr (x3 + 1))), some (vi x4), none]) ⟨rfl, rfl, rfl, rfl, trivial⟩ ?_
              exact hj161 (wr (x3 + 1)) (inr_wr _) s13 w_s13
            refine q_icmp_ge d_X2_value_64 (w_s0 _ _) (inr_d rfl) (fun c14 => ?_) (fun c14 => ?_)
            · refine q_iload (x := s0 (a + 4) x4) d_X2_value_67 rfl ?_
              refine q_goto d_X2_value_69 ?_
              refine q_sub (ls' := [some (vr κ a), none, some (vi p2), some (vi x3), some (vi x4), none]) ⟨rfl, rfl, rfl, rfl, trivial⟩ ?_
              exact hj82 (s0 (a + 4) x4) (w_s0 _ _) s0 w_s0
            · refine q_aload_n d_X2_value_72 rfl ?_
              refine q_iload (x := s0 (a + 4) x4) d_X2_value_73 rfl ?_
              refine q_sipush d_X2_value_75 rfl ?_
              refine q_isub d_X2_value_78 ?_
              refine q_callI (R' := R_X2_asked) (runV (As := [vi (wr ((s0 (a + 4) x4) - 10000))]) (rest := [vi x3, vr κ (a + 6)]) d_X2_value_79.1 cv_2_105 rfl hA.1 rfl rfl ⟨rfl, rfl, by decide, by decide⟩ (Nat.le_of_ble_eq_true rfl) w_s0 rfl) d_X2_value_79.2 (c_X2_asked κ a hA (wr ((s0 (a + 4) x4) - 10000)) (inr_wr _) s0) rfl (fun r15 s16 h_r15 w_s16 => ?_)
              refine q_sub (ls' := [some (vr κ a), none, some (vi p2), some (vi x3), some (vi x4), none]) ⟨rfl, rfl, rfl, rfl, trivial⟩ ?_
              exact hj82 r15 h_r15 s16 w_s16
          · refine q_sub (ls' := [some (vr κ a), none, some (vi p2), some (vi x3), some (vi x4), none]) ⟨rfl, rfl, rfl, rfl, trivial⟩ ?_
            exact hj161 x3 h_x3 s0 w_s0
        · refine q_iload (x := s0 (a + 4) x4) d_X2_value_89 rfl ?_
          refine q_sipush d_X2_value_91 rfl ?_
          refine q_icmp_ne d_X2_value_94 (w_s0 _ _) (inr_d rfl) (fun c17 => ?_) (fun c17 => ?_)
          · refine q_iload_n (x := x3) d_X2_value_97 rfl ?_
            refine q_if_le d_X2_value_98 h_x3 (fun c18 => ?_) (fun c18 => ?_)
            · refine q_aload_n d_X2_value_101 rfl ?_
              refine q_getR (n := 6) d_X2_value_102 hA.1 fi_2_27 rfl (Nat.le_of_ble_eq_true rfl) ?_
              refine q_iload_n (x := x3) d_X2_value_105 rfl ?_
              refine q_iconst d_X2_value_106 ?_
              refine q_isub d_X2_value_107 ?_
              refine q_iconst d_X2_value_108 ?_
              refine q_aload_n d_X2_value_109 rfl ?_
              refine q_getR (n := 6) d_X2_value_110 hA.1 fi_2_27 rfl (Nat.le_of_ble_eq_true rfl) ?_
              refine q_iload_n (x := x3) d_X2_value_113 rfl ?_
              refine q_iconst d_X2_value_114 ?_
              refine q_isub d_X2_value_115 ?_
              refine q_iaload (m := 32) d_X2_value_116 hA.2.2.2.2.2.2 (by decide) rfl (fun g19 => ?_)
              refine q_isub d_X2_value_117 ?_
              refine q_iastore (m := 32) d_X2_value_118 hA.2.2.2.2.2.2 (by decide) rfl (inr_wr _) w_s0 (fun g20 s21 w_s21 => ?_)
              refine q_goto d_X2_value_119 ?_
              refine q_sub (ls' := [some (vr κ a), none, some (vi p2), some (vi x3), some (vi x4), none]) ⟨rfl, rfl, rfl, rfl, trivial⟩ ?_
              exact hj161 x3 h_x3 s21 w_s21
            · refine q_sub (ls' := [some (vr κ a), none, some (vi p2), some (vi x3), some (vi x4), none]) ⟨rfl, rfl, rfl, rfl, trivial⟩ ?_
              exact hj161 x3 h_x3 s0 w_s0
          · refine q_iload_n (x := x3) d_X2_value_122 rfl ?_
            refine q_iconst d_X2_value_123 ?_
            refine q_icmp_le d_X2_value_124 h_x3 (inr_b (Or.inr rfl)) (fun c22 => ?_) (fun c22 => ?_)
            · refine q_iinc (x := x3) d_X2_value_127 rfl rfl ?_
              refine q_aload_n d_X2_value_130 rfl ?_
              refine q_getR (n := 6) d_X2_value_131 hA.1 fi_2_27 rfl (Nat.le_of_ble_eq_true rfl) ?_
              refine q_iload_n (x := wr (x3 + (-1))) d_X2_value_134 rfl ?_
              refine q_iconst d_X2_value_135 ?_
              refine q_isub d_X2_value_136 ?_
              refine q_iload (x := s0 (a + 4) x4) d_X2_value_137 rfl ?_
              refine q_sipush d_X2_value_139 rfl ?_
              refine q_isub d_X2_value_142 ?_
              refine q_aload_n d_X2_value_143 rfl ?_
              refine q_getR (n := 6) d_X2_value_144 hA.1 fi_2_27 rfl (Nat.le_of_ble_eq_true rfl) ?_
              refine q_iload_n (x := wr (x3 + (-1))) d_X2_value_147 rfl ?_
              refine q_iconst d_X2_value_148 ?_
              refine q_isub d_X2_value_149 ?_
              refine q_iaload (m := 32) d_X2_value_150 hA.2.2.2.2.2.2 (by decide) rfl (fun g23 => ?_)
              refine q_aload_n d_X2_value_151 rfl ?_
              refine q_getR (n := 6) d_X2_value_152 hA.1 fi_2_27 rfl (Nat.le_of_ble_eq_true rfl) ?_
              refine q_iload_n (x := wr (x3 + (-1))) d_X2_value_155 rfl ?_
              refine q_iaload (m := 32) d_X2_value_156 hA.2.2.2.2.2.2 (by decide) rfl (fun g24 => ?_)
              refine q_callI (R' := R_X2_joined) (runS (As := [vi (wr ((s0 (a + 4) x4) - 20000)), vi (s0 (a + 6) (wr ((wr (x3 + (-1))) - 1))), vi (s0 (a + 6) (wr (x3 + (-1))))]) (rest := [vi (wr ((wr (x3 + (-1))) - 1)), vr κ (a + 6)]) d_X2_value_157.1 cv_2_108 rfl ⟨rfl, rfl, by decide, by decide⟩ (Nat.le_of_ble_eq_true rfl) w_s0 rfl) d_X2_value_157.2 (c_X2_joined κ (wr ((s0 (a + 4) x4) - 20000)) (inr_wr _) (s0 (a + 6) (wr ((wr (x3 + (-1))) - 1))) (w_s0 _ _) (s0 (a + 6) (wr (x3 + (-1)))) (w_s0 _ _) s0) rfl (fun r25 s26 h_r25 w_s26 => ?_)
              refine q_iastore (m := 32) d_X2_value_160 hA.2.2.2.2.2.2 (by decide) rfl h_r25 w_s26 (fun g27 s28 w_s28 => ?_)
              refine q_sub (ls' := [some (vr κ a), none, some (vi p2), some (vi (wr (x3 + (-1)))), some (vi x4), none]) ⟨rfl, rfl, rfl, rfl, trivial⟩ ?_
              exact hj161 (wr (x3 + (-1))) (inr_wr _) s28 w_s28
            · refine q_sub (ls' := [some (vr κ a), none, some (vi p2), some (vi x3), some (vi x4), none]) ⟨rfl, rfl, rfl, rfl, trivial⟩ ?_
              exact hj161 x3 h_x3 s0 w_s0
      · refine q_aload_n d_X2_value_167 rfl ?_
        refine q_getR (n := 6) d_X2_value_168 hA.1 fi_2_27 rfl (Nat.le_of_ble_eq_true rfl) ?_
        refine q_iconst d_X2_value_171 ?_
        refine q_iaload (m := 32) d_X2_value_172 hA.2.2.2.2.2.2 (by decide) rfl (fun g29 => ?_)
        exact q_ireti d_X2_value_173 rfl (w_s0 _ _) w_s0
    · refine q_aload_n d_X2_value_167 rfl ?_
      refine q_getR (n := 6) d_X2_value_168 hA.1 fi_2_27 rfl (Nat.le_of_ble_eq_true rfl) ?_
      refine q_iconst d_X2_value_171 ?_
      refine q_iaload (m := 32) d_X2_value_172 hA.2.2.2.2.2.2 (by decide) rfl (fun g30 => ?_)
      exact q_ireti d_X2_value_173 rfl (w_s0 _ _) w_s0
set_option maxHeartbeats 4000000 in
set_option maxRecDepth 10000 in
theorem c_X2_value (κ : Kp) (a : Nat) (hA : At2 κ a) (x1 : Int) (h_x1 : InR x1) (x2 : Int) (h_x2 : InR x2) (s0 : Mem) : ∀ r σ', f_X2_value a x1 x2 s0 = some (r, σ') → Ct κ M_X2_value R_X2_value [vr κ a, vi x1, vi x2] s0 r σ' := by
  intro r σ' ho
  refine Ct.of (by decide) (Nat.le_of_ble_eq_true rfl) (cat_ok rfl) (fun w_s0 => ?_) ⟨rfl, rfl⟩
  refine q_ent (ls' := [some (vr κ a), some (vi x1), some (vi x2), none, none, none]) (o := f_X2_value a x1 x2 s0) ⟨rfl, rfl, rfl, trivial⟩ ?_ ho
  unfold f_X2_value
  refine q_iconst d_X2_value_0 ?_
  refine q_istore_n d_X2_value_1 rfl ?_
  refine q_aload_n d_X2_value_2 rfl ?_
  refine q_getR (n := 6) d_X2_value_3 hA.1 fi_2_27 rfl (Nat.le_of_ble_eq_true rfl) ?_
  refine q_iconst d_X2_value_6 ?_
  refine q_iconst d_X2_value_7 ?_
  refine q_iastore (m := 32) d_X2_value_8 hA.2.2.2.2.2.2 (by decide) rfl (inr_b (Or.inl rfl)) w_s0 (fun g1 s2 w_s2 => ?_)
  refine q_iload_n (x := x1) d_X2_value_9 rfl ?_
  refine q_istore d_X2_value_10 rfl ?_
  refine q_sub (ls' := [some (vr κ a), none, some (vi x2), some (vi 0), some (vi x1), none]) ⟨rfl, rfl, rfl, rfl, trivial⟩ ?_
  exact l_X2_value_12 κ a hA x2 h_x2   FU 0 (inr_b (Or.inl rfl)) x1 h_x1 s2 w_s2
abbrev R_X2_held : Room := { frames := 1, cells := 0, slots := 0, locals := 30 }
noncomputable def f_X2_held (x0 : Int) (x1 : Int) (x2 : Int) (s0 : Mem) : Res :=
  some (mmx x1 (mmn x2 x0), s0)
set_option maxHeartbeats 4000000 in
set_option maxRecDepth 10000 in
theorem c_X2_held (κ : Kp) (x0 : Int) (h_x0 : InR x0) (x1 : Int) (h_x1 : InR x1) (x2 : Int) (h_x2 : InR x2) (s0 : Mem) : ∀ r σ', f_X2_held x0 x1 x2 s0 = some (r, σ') → Ct κ M_X2_held R_X2_held [vi x0, vi x1, vi x2] s0 r σ' := by
  intro r σ' ho
  refine Ct.of (by decide) (Nat.le_of_ble_eq_true rfl) (cat_ok rfl) (fun w_s0 => ?_) ⟨rfl, rfl⟩
  refine q_ent (ls' := [some (vi x0), some (vi x1), some (vi x2)]) (o := f_X2_held x0 x1 x2 s0) ⟨rfl, rfl, rfl, trivial⟩ ?_ ho
  unfold f_X2_held
  refine q_iload_n (x := x1) d_X2_held_0 rfl ?_
  refine q_iload_n (x := x2) d_X2_held_1 rfl ?_
  refine q_iload_n (x := x0) d_X2_held_2 rfl ?_
  refine q_mmin d_X2_held_3 cv_2_57 mw_min ⟨by decide, Nat.le_of_ble_eq_true rfl⟩ h_x2 h_x0 ?_
  refine q_mmax d_X2_held_6 cv_2_62 mw_max ⟨by decide, Nat.le_of_ble_eq_true rfl⟩ h_x1 (inr_mmn h_x2 h_x0) ?_
  exact q_ireti d_X2_held_9 rfl (inr_mmx h_x1 (inr_mmn h_x2 h_x0)) w_s0
abbrev R_X2_tells : Room := { frames := 2, cells := 0, slots := 0, locals := 52 }
noncomputable def f_X2_tells_19 (a : Nat) (p1 : Int) (p4 : Int) (k110 : Int → Mem → Res) (k77 : Int → Int → Mem → Res) : Nat → Int → Int → Mem → Res
  | 0, _, _, _ => none
  | n + 1, x5, x6, s0 =>
    if x6 < s0 a 4 then (gd ((0 : Int) ≤ x6 ∧ x6 < 16) (jn (fun (s23 : Mem) => gd ((0 : Int) ≤ x6 ∧ x6 < 16) (f_X2_tells_19 a p1 p4 k110 k77 n (s23 (a + 3) x6) (wr (x6 + 1)) s23)) fun j95 => if s0 (a + 1) x6 = p1 then (gd ((0 : Int) ≤ x6 ∧ x6 < 16) (gd ((0 : Int) ≤ x6 ∧ x6 < 16) (if s0 (a + 2) x6 = s0 (a + 3) x6 then (k77 x5 x6 s0) else (gd ((0 : Int) ≤ x6 ∧ x6 < 16) (gd ((0 : Int) ≤ x6 ∧ x6 < 16) (bd (f_X2_value a (s0 (a + 2) x6) (s0 (a + 3) x6) s0) fun r31 s32 => if r31 = 0 then (j95 s32) else (k77 x5 x6 s32))))))) else (j95 s0))) else (k110 p4 s0)
noncomputable def f_X2_tells (a : Nat) (x1 : Int) (a2 : Nat) (x3 : Int) (s0 : Mem) : Res :=
  bd (f_X2_see a a2 x3 s0) fun r1 s2 => bd (f_X2_unsaid a x1 s2) fun r3 s4 => jn (fun (v5 : Int) (s6 : Mem) => if x1 = 11 then (bd (f_X2_held v5 0 100 s6) fun r8 s9 => some (r8, s9)) else (if x1 = 12 then (bd (f_X2_held v5 1 999 s6) fun r11 s12 => some (r11, s12)) else (bd (f_X2_held v5 0 99 s6) fun r13 s14 => some (r13, s14)))) fun j110 => jn (fun (v15 : Int) (v16 : Int) (s17 : Mem) => gd ((0 : Int) ≤ v16 ∧ v16 < 16) (bd (f_X2_value a v15 (s17 (a + 2) v16) s17) fun r19 s20 => j110 r19 s20)) fun j77 => f_X2_tells_19 a x1 r3 j110 j77 FU 0 0 s4
set_option maxHeartbeats 4000000 in
set_option maxRecDepth 10000 in
theorem l_X2_tells_19 (κ : Kp) (a : Nat) (hA : At2 κ a) (p1 : Int) (h_p1 : InR p1) (p4 : Int) (h_p4 : InR p4) (k110 : Int → Mem → Res) (k77 : Int → Int → Mem → Res) (hk110 : ∀ (z4 : Int) (h_z4 : InR z4) (sz : Mem) (w_sz : WF sz), EO κ M_X2_tells R_X2_tells 110 [none, some (vi p1), none, none, some (vi z4), none, none] [] sz (k110 z4 sz)) (hk77 : ∀ (z5 : Int) (h_z5 : InR z5) (z6 : Int) (h_z6 : InR z6) (sz : Mem) (w_sz : WF sz), EO κ M_X2_tells R_X2_tells 77 [some (vr κ a), some (vi p1), none, none, none, some (vi z5), some (vi z6)] [] sz (k77 z5 z6 sz)) : ∀ (n : Nat) (x5 : Int) (h_x5 : InR x5) (x6 : Int) (h_x6 : InR x6) (s0 : Mem) (w_s0 : WF s0), EO κ M_X2_tells R_X2_tells 19 [some (vr κ a), some (vi p1), none, none, some (vi p4), some (vi x5), some (vi x6)] [] s0 (f_X2_tells_19 a p1 p4 k110 k77 n x5 x6 s0) := by
  intro n
  induction n with
  | zero => exact fun _ _ _ _ _ _ => q_none
  | succ n ih =>
    intro x5 h_x5 x6 h_x6 s0 w_s0
    rw [f_X2_tells_19]
    refine q_iload (x := x6) d_X2_tells_19 rfl ?_
    refine q_aload_n d_X2_tells_21 rfl ?_
    refine q_getI (k := 4) (j := 4) d_X2_tells_22 hA.1 fi_2_34 rfl rfl ?_
    refine q_icmp_ge d_X2_tells_25 h_x6 (w_s0 _ _) (fun c21 => ?_) (fun c21 => ?_)
    · refine q_aload_n d_X2_tells_28 rfl ?_
      refine q_getR (n := 1) d_X2_tells_29 hA.1 fi_2_9 rfl (Nat.le_of_ble_eq_true rfl) ?_
      refine q_iload (x := x6) d_X2_tells_32 rfl ?_
      refine q_iaload (m := 16) d_X2_tells_34 hA.2.1 (by decide) rfl (fun g22 => ?_)
      refine q_iload_n (x := p1) d_X2_tells_35 rfl ?_
      refine q_jn (α := Mem → Res) (fun j95 => ∀ (s23 : Mem) (w_s23 : WF s23), EO κ M_X2_tells R_X2_tells 95 [some (vr κ a), some (vi p1), none, none, some (vi p4), none, some (vi x6)] [] s23 (j95 s23)) ?_ (fun j95 hj95 => ?_)
      · intro s23 w_s23
        refine q_aload_n d_X2_tells_95 rfl ?_
        refine q_getR (n := 3) d_X2_tells_96 hA.1 fi_2_18 rfl (Nat.le_of_ble_eq_true rfl) ?_
        refine q_iload (x := x6) d_X2_tells_99 rfl ?_
        refine q_iaload (m := 16) d_X2_tells_101 hA.2.2.2.1 (by decide) rfl (fun g24 => ?_)
        refine q_istore d_X2_tells_102 rfl ?_
        refine q_iinc (x := x6) d_X2_tells_104 rfl rfl ?_
        refine q_goto d_X2_tells_107 ?_
        refine q_sub (ls' := [some (vr κ a), some (vi p1), none, none, some (vi p4), some (vi (s23 (a + 3) x6)), some (vi (wr (x6 + 1)))]) ⟨rfl, rfl, rfl, rfl, rfl, trivial⟩ ?_
        exact ih (s23 (a + 3) x6) (w_s23 _ _) (wr (x6 + 1)) (inr_wr _) s23 w_s23
      refine q_icmp_ne d_X2_tells_36 (w_s0 _ _) h_p1 (fun c25 => ?_) (fun c25 => ?_)
      · refine q_aload_n d_X2_tells_39 rfl ?_
        refine q_getR (n := 2) d_X2_tells_40 hA.1 fi_2_15 rfl (Nat.le_of_ble_eq_true rfl) ?_
        refine q_iload (x := x6) d_X2_tells_43 rfl ?_
        refine q_iaload (m := 16) d_X2_tells_45 hA.2.2.1 (by decide) rfl (fun g26 => ?_)
        refine q_aload_n d_X2_tells_46 rfl ?_
        refine q_getR (n := 3) d_X2_tells_47 hA.1 fi_2_18 rfl (Nat.le_of_ble_eq_true rfl) ?_
        refine q_iload (x := x6) d_X2_tells_50 rfl ?_
        refine q_iaload (m := 16) d_X2_tells_52 hA.2.2.2.1 (by decide) rfl (fun g27 => ?_)
        refine q_icmp_eq d_X2_tells_53 (w_s0 _ _) (w_s0 _ _) (fun c28 => ?_) (fun c28 => ?_)
        · refine q_sub (ls' := [some (vr κ a), some (vi p1), none, none, none, some (vi x5), some (vi x6)]) ⟨rfl, rfl, rfl, rfl, trivial⟩ ?_
          exact hk77 x5 h_x5 x6 h_x6 s0 w_s0
        · refine q_aload_n d_X2_tells_56 rfl ?_
          refine q_aload_n d_X2_tells_57 rfl ?_
          refine q_getR (n := 2) d_X2_tells_58 hA.1 fi_2_15 rfl (Nat.le_of_ble_eq_true rfl) ?_
          refine q_iload (x := x6) d_X2_tells_61 rfl ?_
          refine q_iaload (m := 16) d_X2_tells_63 hA.2.2.1 (by decide) rfl (fun g29 => ?_)
          refine q_aload_n d_X2_tells_64 rfl ?_
          refine q_getR (n := 3) d_X2_tells_65 hA.1 fi_2_18 rfl (Nat.le_of_ble_eq_true rfl) ?_
          refine q_iload (x := x6) d_X2_tells_68 rfl ?_
          refine q_iaload (m := 16) d_X2_tells_70 hA.2.2.2.1 (by decide) rfl (fun g30 => ?_)
          refine q_callI (R' := R_X2_value) (runV (As := [vi (s0 (a + 2) x6), vi (s0 (a + 3) x6)]) (rest := []) d_X2_tells_71.1 cv_2_49 rfl hA.1 rfl rfl ⟨rfl, rfl, by decide, by decide⟩ (Nat.le_of_ble_eq_true rfl) w_s0 rfl) d_X2_tells_71.2 (c_X2_value κ a hA (s0 (a + 2) x6) (w_s0 _ _) (s0 (a + 3) x6) (w_s0 _ _) s0) rfl (fun r31 s32 h_r31 w_s32 => ?_)
          refine q_if_eq d_X2_tells_74 h_r31 (fun c33 => ?_) (fun c33 => ?_)
          · refine q_sub (ls' := [some (vr κ a), some (vi p1), none, none, some (vi p4), none, some (vi x6)]) ⟨rfl, rfl, rfl, rfl, trivial⟩ ?_
            exact hj95 s32 w_s32
          · refine q_sub (ls' := [some (vr κ a), some (vi p1), none, none, none, some (vi x5), some (vi x6)]) ⟨rfl, rfl, rfl, rfl, trivial⟩ ?_
            exact hk77 x5 h_x5 x6 h_x6 s32 w_s32
      · refine q_sub (ls' := [some (vr κ a), some (vi p1), none, none, some (vi p4), none, some (vi x6)]) ⟨rfl, rfl, rfl, rfl, trivial⟩ ?_
        exact hj95 s0 w_s0
    · refine q_sub (ls' := [none, some (vi p1), none, none, some (vi p4), none, none]) ⟨rfl, rfl, trivial⟩ ?_
      exact hk110 p4 h_p4 s0 w_s0
set_option maxHeartbeats 4000000 in
set_option maxRecDepth 10000 in
theorem c_X2_tells (κ : Kp) (a : Nat) (hA : At2 κ a) (x1 : Int) (h_x1 : InR x1) (a2 : Nat) (hA2 : At4 κ a2) (x3 : Int) (h_x3 : InR x3) (s0 : Mem) : ∀ r σ', f_X2_tells a x1 a2 x3 s0 = some (r, σ') → Ct κ M_X2_tells R_X2_tells [vr κ a, vi x1, vr κ a2, vi x3] s0 r σ' := by
  intro r σ' ho
  refine Ct.of (by decide) (Nat.le_of_ble_eq_true rfl) (cat_ok rfl) (fun w_s0 => ?_) ⟨rfl, rfl⟩
  refine q_ent (ls' := [some (vr κ a), some (vi x1), some (vr κ a2), some (vi x3), none, none, none]) (o := f_X2_tells a x1 a2 x3 s0) ⟨rfl, rfl, rfl, rfl, trivial⟩ ?_ ho
  unfold f_X2_tells
  refine q_aload_n d_X2_tells_0 rfl ?_
  refine q_aload_n d_X2_tells_1 rfl ?_
  refine q_iload_n (x := x3) d_X2_tells_2 rfl ?_
  refine q_callV (R' := R_X2_see) (runV (As := [vr κ a2, vi x3]) (rest := []) d_X2_tells_3.1 cv_2_41 rfl hA.1 rfl rfl ⟨rfl, rfl, by decide, by decide⟩ (Nat.le_of_ble_eq_true rfl) w_s0 rfl) d_X2_tells_3.2 (c_X2_see κ a hA a2 hA2 x3 h_x3 s0) rfl (fun r1 s2 w_s2 => ?_)
  refine q_aload_n d_X2_tells_6 rfl ?_
  refine q_iload_n (x := x1) d_X2_tells_7 rfl ?_
  refine q_callI (R' := R_X2_unsaid) (runV (As := [vi x1]) (rest := []) d_X2_tells_8.1 cv_2_45 rfl hA.1 rfl rfl ⟨rfl, rfl, by decide, by decide⟩ (Nat.le_of_ble_eq_true rfl) w_s2 rfl) d_X2_tells_8.2 (c_X2_unsaid κ a hA x1 h_x1 s2) rfl (fun r3 s4 h_r3 w_s4 => ?_)
  refine q_istore d_X2_tells_11 rfl ?_
  refine q_iconst d_X2_tells_13 ?_
  refine q_istore d_X2_tells_14 rfl ?_
  refine q_iconst d_X2_tells_16 ?_
  refine q_istore d_X2_tells_17 rfl ?_
  refine q_jn (α := Int → Mem → Res) (fun j110 => ∀ (v5 : Int) (h_v5 : InR v5) (s6 : Mem) (w_s6 : WF s6), EO κ M_X2_tells R_X2_tells 110 [none, some (vi x1), none, none, some (vi v5), none, none] [] s6 (j110 v5 s6)) ?_ (fun j110 hj110 => ?_)
  · intro v5 h_v5 s6 w_s6
    refine q_iload_n (x := x1) d_X2_tells_110 rfl ?_
    refine q_ite (fun c7 => ?_) (fun c7 => ?_)
    · refine q_lsw (tgt := 136) (off := 25) d_X2_tells_111 h_x1 (by decide) (by rw [c7]; rfl) (by decide) ?_
      refine q_iload (x := v5) d_X2_tells_136 rfl ?_
      refine q_iconst d_X2_tells_138 ?_
      refine q_bipush d_X2_tells_139 rfl ?_
      refine q_callI (R' := R_X2_held) (runS (As := [vi v5, vi 0, vi 100]) (rest := []) d_X2_tells_141.1 cv_2_53 rfl ⟨rfl, rfl, by decide, by decide⟩ (Nat.le_of_ble_eq_true rfl) w_s6 rfl) d_X2_tells_141.2 (c_X2_held κ v5 h_v5 0 (inr_b (Or.inl rfl)) 100 (inr_d rfl) s6) rfl (fun r8 s9 h_r8 w_s9 => ?_)
      exact q_ireti d_X2_tells_144 rfl h_r8 w_s9
    refine q_ite (fun c10 => ?_) (fun c10 => ?_)
    · refine q_lsw (tgt := 145) (off := 34) d_X2_tells_111 h_x1 (by decide) (by rw [c10]; rfl) (by decide) ?_
      refine q_iload (x := v5) d_X2_tells_145 rfl ?_
      refine q_iconst d_X2_tells_147 ?_
      refine q_sipush d_X2_tells_148 rfl ?_
      refine q_callI (R' := R_X2_held) (runS (As := [vi v5, vi 1, vi 999]) (rest := []) d_X2_tells_151.1 cv_2_53 rfl ⟨rfl, rfl, by decide, by decide⟩ (Nat.le_of_ble_eq_true rfl) w_s6 rfl) d_X2_tells_151.2 (c_X2_held κ v5 h_v5 1 (inr_b (Or.inr rfl)) 999 (inr_d rfl) s6) rfl (fun r11 s12 h_r11 w_s12 => ?_)
      exact q_ireti d_X2_tells_154 rfl h_r11 w_s12
    refine q_lsw (tgt := 155) (off := 44) d_X2_tells_111 h_x1 (by decide) (by
    show Op.lookupswitch.offset [(11, 25), (12, 34)] 44 x1 = 44
    rw [Op.lookupswitch.offset_cons, if_neg (fun q => c7 q.symm), Op.lookupswitch.offset_cons, if_neg (fun q => c10 q.symm), Op.lookupswitch.offset_nil]) (by decide) ?_
    refine q_iload (x := v5) d_X2_tells_155 rfl ?_
    refine q_iconst d_X2_tells_157 ?_
    refine q_bipush d_X2_tells_158 rfl ?_
    refine q_callI (R' := R_X2_held) (runS (As := [vi v5, vi 0, vi 99]) (rest := []) d_X2_tells_160.1 cv_2_53 rfl ⟨rfl, rfl, by decide, by decide⟩ (Nat.le_of_ble_eq_true rfl) w_s6 rfl) d_X2_tells_160.2 (c_X2_held κ v5 h_v5 0 (inr_b (Or.inl rfl)) 99 (inr_d rfl) s6) rfl (fun r13 s14 h_r13 w_s14 => ?_)
    exact q_ireti d_X2_tells_163 rfl h_r13 w_s14
  refine q_jn (α := Int → Int → Mem → Res) (fun j77 => ∀ (v15 : Int) (h_v15 : InR v15) (v16 : Int) (h_v16 : InR v16) (s17 : Mem) (w_s17 : WF s17), EO κ M_X2_tells R_X2_tells 77 [some (vr κ a), some (vi x1), none, none, none, some (vi v15), some (vi v16)] [] s17 (j77 v15 v16 s17)) ?_ (fun j77 hj77 => ?_)
  · intro v15 h_v15 v16 h_v16 s17 w_s17
    refine q_aload_n d_X2_tells_77 rfl ?_
    refine q_iload (x := v15) d_X2_tells_78 rfl ?_
    refine q_aload_n d_X2_tells_80 rfl ?_
    refine q_getR (n := 2) d_X2_tells_81 hA.1 fi_2_15 rfl (Nat.le_of_ble_eq_true rfl) ?_
    refine q_iload (x := v16) d_X2_tells_84 rfl ?_
    refine q_iaload (m := 16) d_X2_tells_86 hA.2.2.1 (by decide) rfl (fun g18 => ?_)
    refine q_callI (R' := R_X2_value) (runV (As := [vi v15, vi (s17 (a + 2) v16)]) (rest := []) d_X2_tells_87.1 cv_2_49 rfl hA.1 rfl rfl ⟨rfl, rfl, by decide, by decide⟩ (Nat.le_of_ble_eq_true rfl) w_s17 rfl) d_X2_tells_87.2 (c_X2_value κ a hA v15 h_v15 (s17 (a + 2) v16) (w_s17 _ _) s17) rfl (fun r19 s20 h_r19 w_s20 => ?_)
    refine q_istore d_X2_tells_90 rfl ?_
    refine q_goto d_X2_tells_92 ?_
    refine q_sub (ls' := [none, some (vi x1), none, none, some (vi r19), none, none]) ⟨rfl, rfl, trivial⟩ ?_
    exact hj110 r19 h_r19 s20 w_s20
  refine q_sub (ls' := [some (vr κ a), some (vi x1), none, none, some (vi r3), some (vi 0), some (vi 0)]) ⟨rfl, rfl, rfl, rfl, rfl, trivial⟩ ?_
  exact l_X2_tells_19 κ a hA x1 h_x1 r3 h_r3 j110 j77 hj110 hj77 FU 0 (inr_b (Or.inl rfl)) 0 (inr_b (Or.inl rfl)) s4 w_s4
abbrev R_X3_become : Room := { frames := 2, cells := 0, slots := 0, locals := 81 }
noncomputable def f_X3_become (a : Nat) (a1 : Nat) (s0 : Mem) : Res :=
  bd (f_X11_copy (a1 + 1) 4 (a + 1) 4 s0) fun r1 s2 => bd (f_X11_copy (a1 + 2) 6 (a + 2) 6 s2) fun r3 s4 => lm (mup s4 a 2 (s4 a1 2)) fun s5 => some (0, s5)
set_option maxHeartbeats 4000000 in
set_option maxRecDepth 10000 in
theorem c_X3_become (κ : Kp) (a : Nat) (hA : At3 κ a) (a1 : Nat) (hA1 : At3 κ a1) (s0 : Mem) : ∀ r σ', f_X3_become a a1 s0 = some (r, σ') → Ct κ M_X3_become R_X3_become [vr κ a, vr κ a1] s0 r σ' := by
  intro r σ' ho
  refine Ct.of (by decide) (Nat.le_of_ble_eq_true rfl) (cat_ok rfl) (fun w_s0 => ?_) ⟨rfl, rfl⟩
  refine q_ent (ls' := [some (vr κ a), some (vr κ a1)]) (o := f_X3_become a a1 s0) ⟨rfl, rfl, trivial⟩ ?_ ho
  unfold f_X3_become
  refine q_aload_n d_X3_become_0 rfl ?_
  refine q_getR (n := 1) d_X3_become_1 hA1.1 fi_3_9 rfl (Nat.le_of_ble_eq_true rfl) ?_
  refine q_aload_n d_X3_become_4 rfl ?_
  refine q_getR (n := 1) d_X3_become_5 hA.1 fi_3_9 rfl (Nat.le_of_ble_eq_true rfl) ?_
  refine q_callV (R' := R_X11_copy) (runN (As := [vr κ (a1 + 1), vr κ (a + 1)]) (rest := []) d_X3_become_8.1 cv_3_18 rfl ⟨rfl, rfl, by decide, by decide⟩ (Nat.le_of_ble_eq_true rfl) w_s0 rfl) d_X3_become_8.2 (c_X11_copy κ (a1 + 1) 4 hA1.2.1 (by decide) (a + 1) 4 hA.2.1 (by decide) s0) rfl (fun r1 s2 w_s2 => ?_)
  refine q_aload_n d_X3_become_11 rfl ?_
  refine q_getR (n := 2) d_X3_become_12 hA1.1 fi_3_15 rfl (Nat.le_of_ble_eq_true rfl) ?_
  refine q_aload_n d_X3_become_15 rfl ?_
  refine q_getR (n := 2) d_X3_become_16 hA.1 fi_3_15 rfl (Nat.le_of_ble_eq_true rfl) ?_
  refine q_callV (R' := R_X11_copy) (runN (As := [vr κ (a1 + 2), vr κ (a + 2)]) (rest := []) d_X3_become_19.1 cv_3_18 rfl ⟨rfl, rfl, by decide, by decide⟩ (Nat.le_of_ble_eq_true rfl) w_s2 rfl) d_X3_become_19.2 (c_X11_copy κ (a1 + 2) 6 hA1.2.2 (by decide) (a + 2) 6 hA.2.2 (by decide) s2) rfl (fun r3 s4 w_s4 => ?_)
  refine q_aload_n d_X3_become_22 rfl ?_
  refine q_aload_n d_X3_become_23 rfl ?_
  refine q_getI (k := 2) (j := 2) d_X3_become_24 hA1.1 fi_3_22 rfl rfl ?_
  refine q_putI (k := 2) (j := 2) d_X3_become_27 hA.1 fp_3_22 rfl rfl (w_s4 _ _) w_s4 (fun s5 w_s5 => ?_)
  exact q_vret d_X3_become_30 rfl w_s5
abbrev R_X3_enter : Room := { frames := 1, cells := 0, slots := 0, locals := 22 }
noncomputable def f_X3_enter (a : Nat) (x1 : Int) (s0 : Mem) : Res :=
  bd (f_X11_within x1 1 999 s0) fun r1 s2 => if r1 = 0 then (some ((-1), s2)) else (bd (f_X11_within (s2 a 2) 0 5 s2) fun r4 s5 => if r4 = 0 then (some ((-1), s5)) else (gd ((0 : Int) ≤ s5 a 2 ∧ s5 a 2 < 6) (lm (mup s5 (a + 2) (s5 a 2) x1) fun s8 => lm (mup s8 a 2 (wr ((s8 a 2) + 1))) fun s9 => some (s9 a 2, s9))))
set_option maxHeartbeats 4000000 in
set_option maxRecDepth 10000 in
theorem c_X3_enter (κ : Kp) (a : Nat) (hA : At3 κ a) (x1 : Int) (h_x1 : InR x1) (s0 : Mem) : ∀ r σ', f_X3_enter a x1 s0 = some (r, σ') → Ct κ M_X3_enter R_X3_enter [vr κ a, vi x1] s0 r σ' := by
  intro r σ' ho
  refine Ct.of (by decide) (Nat.le_of_ble_eq_true rfl) (cat_ok rfl) (fun w_s0 => ?_) ⟨rfl, rfl⟩
  refine q_ent (ls' := [some (vr κ a), some (vi x1)]) (o := f_X3_enter a x1 s0) ⟨rfl, rfl, trivial⟩ ?_ ho
  unfold f_X3_enter
  refine q_iload_n (x := x1) d_X3_enter_0 rfl ?_
  refine q_iconst d_X3_enter_1 ?_
  refine q_sipush d_X3_enter_2 rfl ?_
  refine q_callZ (R' := R_X11_within) (runN (As := [vi x1, vi 1, vi 999]) (rest := []) d_X3_enter_5.1 cv_3_26 rfl ⟨rfl, rfl, by decide, by decide⟩ (Nat.le_of_ble_eq_true rfl) w_s0 rfl) d_X3_enter_5.2 (c_X11_within κ x1 h_x1 1 (inr_b (Or.inr rfl)) 999 (inr_d rfl) s0) rfl (fun r1 s2 h_r1 w_s2 => ?_)
  refine q_if_eq d_X3_enter_8 (inr_b h_r1) (fun c3 => ?_) (fun c3 => ?_)
  · refine q_iconst d_X3_enter_23 ?_
    exact q_ireti d_X3_enter_24 rfl (inr_d rfl) w_s2
  · refine q_aload_n d_X3_enter_11 rfl ?_
    refine q_getI (k := 2) (j := 2) d_X3_enter_12 hA.1 fi_3_22 rfl rfl ?_
    refine q_iconst d_X3_enter_15 ?_
    refine q_iconst d_X3_enter_16 ?_
    refine q_callZ (R' := R_X11_within) (runN (As := [vi (s2 a 2), vi 0, vi 5]) (rest := []) d_X3_enter_17.1 cv_3_26 rfl ⟨rfl, rfl, by decide, by decide⟩ (Nat.le_of_ble_eq_true rfl) w_s2 rfl) d_X3_enter_17.2 (c_X11_within κ (s2 a 2) (w_s2 _ _) 0 (inr_b (Or.inl rfl)) 5 (inr_d rfl) s2) rfl (fun r4 s5 h_r4 w_s5 => ?_)
    refine q_if_ne d_X3_enter_20 (inr_b h_r4) (fun c6 => ?_) (fun c6 => ?_)
    · refine q_iconst d_X3_enter_23 ?_
      exact q_ireti d_X3_enter_24 rfl (inr_d rfl) w_s5
    · refine q_aload_n d_X3_enter_25 rfl ?_
      refine q_getR (n := 2) d_X3_enter_26 hA.1 fi_3_15 rfl (Nat.le_of_ble_eq_true rfl) ?_
      refine q_aload_n d_X3_enter_29 rfl ?_
      refine q_getI (k := 2) (j := 2) d_X3_enter_30 hA.1 fi_3_22 rfl rfl ?_
      refine q_iload_n (x := x1) d_X3_enter_33 rfl ?_
      refine q_iastore (m := 6) d_X3_enter_34 hA.2.2 (by decide) rfl h_x1 w_s5 (fun g7 s8 w_s8 => ?_)
      refine q_aload_n d_X3_enter_35 rfl ?_
      refine q_dup d_X3_enter_36 rfl ?_
      refine q_getI (k := 2) (j := 2) d_X3_enter_37 hA.1 fi_3_22 rfl rfl ?_
      refine q_iconst d_X3_enter_40 ?_
      refine q_iadd d_X3_enter_41 ?_
      refine q_putI (k := 2) (j := 2) d_X3_enter_42 hA.1 fp_3_22 rfl rfl (inr_wr _) w_s8 (fun s9 w_s9 => ?_)
      refine q_aload_n d_X3_enter_45 rfl ?_
      refine q_getI (k := 2) (j := 2) d_X3_enter_46 hA.1 fi_3_22 rfl rfl ?_
      exact q_ireti d_X3_enter_49 rfl (w_s9 _ _) w_s9
abbrev R_X3_dearer : Room := { frames := 1, cells := 0, slots := 0, locals := 30 }
noncomputable def f_X3_dearer (a : Nat) (x1 : Int) (s0 : Mem) : Res :=
  gd ((0 : Int) ≤ 3 ∧ (3 : Int) < 4) (gd ((0 : Int) ≤ 1 ∧ (1 : Int) < 4) (lt (wr ((wr (x1 * (s0 (a + 1) 3))) + (wr ((wr (1000 - x1)) * (s0 (a + 1) 1))))) fun v3 => gd ((0 : Int) ≤ 2 ∧ (2 : Int) < 4) (gd ((0 : Int) ≤ 0 ∧ (0 : Int) < 4) (lt (wr ((wr (x1 * (s0 (a + 1) 2))) + (wr ((wr (1000 - x1)) * (s0 (a + 1) 0))))) fun v6 => some (mmx v3 v6, s0)))))
set_option maxHeartbeats 4000000 in
set_option maxRecDepth 10000 in
theorem c_X3_dearer (κ : Kp) (a : Nat) (hA : At3 κ a) (x1 : Int) (h_x1 : InR x1) (s0 : Mem) : ∀ r σ', f_X3_dearer a x1 s0 = some (r, σ') → Ct κ M_X3_dearer R_X3_dearer [vr κ a, vi x1] s0 r σ' := by
  intro r σ' ho
  refine Ct.of (by decide) (Nat.le_of_ble_eq_true rfl) (cat_ok rfl) (fun w_s0 => ?_) ⟨rfl, rfl⟩
  refine q_ent (ls' := [some (vr κ a), some (vi x1), none, none]) (o := f_X3_dearer a x1 s0) ⟨rfl, rfl, trivial⟩ ?_ ho
  unfold f_X3_dearer
  refine q_iload_n (x := x1) d_X3_dearer_0 rfl ?_
  refine q_aload_n d_X3_dearer_1 rfl ?_
  refine q_getR (n := 1) d_X3_dearer_2 hA.1 fi_3_9 rfl (Nat.le_of_ble_eq_true rfl) ?_
  refine q_iconst d_X3_dearer_5 ?_
  refine q_iaload (m := 4) d_X3_dearer_6 hA.2.1 (by decide) rfl (fun g1 => ?_)
  refine q_imul d_X3_dearer_7 ?_
  refine q_sipush d_X3_dearer_8 rfl ?_
  refine q_iload_n (x := x1) d_X3_dearer_11 rfl ?_
  refine q_isub d_X3_dearer_12 ?_
  refine q_aload_n d_X3_dearer_13 rfl ?_
  refine q_getR (n := 1) d_X3_dearer_14 hA.1 fi_3_9 rfl (Nat.le_of_ble_eq_true rfl) ?_
  refine q_iconst d_X3_dearer_17 ?_
  refine q_iaload (m := 4) d_X3_dearer_18 hA.2.1 (by decide) rfl (fun g2 => ?_)
  refine q_imul d_X3_dearer_19 ?_
  refine q_iadd d_X3_dearer_20 ?_
  refine q_lt (inr_wr _) (fun v3 h_v3 => ?_)
  refine q_istore_n d_X3_dearer_21 rfl ?_
  refine q_iload_n (x := x1) d_X3_dearer_22 rfl ?_
  refine q_aload_n d_X3_dearer_23 rfl ?_
  refine q_getR (n := 1) d_X3_dearer_24 hA.1 fi_3_9 rfl (Nat.le_of_ble_eq_true rfl) ?_
  refine q_iconst d_X3_dearer_27 ?_
  refine q_iaload (m := 4) d_X3_dearer_28 hA.2.1 (by decide) rfl (fun g4 => ?_)
  refine q_imul d_X3_dearer_29 ?_
  refine q_sipush d_X3_dearer_30 rfl ?_
  refine q_iload_n (x := x1) d_X3_dearer_33 rfl ?_
  refine q_isub d_X3_dearer_34 ?_
  refine q_aload_n d_X3_dearer_35 rfl ?_
  refine q_getR (n := 1) d_X3_dearer_36 hA.1 fi_3_9 rfl (Nat.le_of_ble_eq_true rfl) ?_
  refine q_iconst d_X3_dearer_39 ?_
  refine q_iaload (m := 4) d_X3_dearer_40 hA.2.1 (by decide) rfl (fun g5 => ?_)
  refine q_imul d_X3_dearer_41 ?_
  refine q_iadd d_X3_dearer_42 ?_
  refine q_lt (inr_wr _) (fun v6 h_v6 => ?_)
  refine q_istore_n d_X3_dearer_43 rfl ?_
  refine q_iload_n (x := v3) d_X3_dearer_44 rfl ?_
  refine q_iload_n (x := v6) d_X3_dearer_45 rfl ?_
  refine q_mmax d_X3_dearer_46 cv_3_30 mw_max ⟨by decide, Nat.le_of_ble_eq_true rfl⟩ h_v3 h_v6 ?_
  exact q_ireti d_X3_dearer_49 rfl (inr_mmx h_v3 h_v6) w_s0
abbrev R_X3_cheapest : Room := { frames := 2, cells := 0, slots := 0, locals := 53 }
noncomputable def f_X3_cheapest_4 (a : Nat) (k32 : Int → Mem → Res) : Nat → Int → Int → Mem → Res
  | 0, _, _, _ => none
  | n + 1, x1, x2, s0 =>
    if 1000 < x2 then (k32 x1 s0) else (bd (f_X3_dearer a x2 s0) fun r4 s5 => bd (f_X3_dearer a x1 s5) fun r6 s7 => jn (fun (v8 : Int) => f_X3_cheapest_4 a k32 n v8 (wr (x2 + 1)) s7) fun j26 => if r4 < r6 then (j26 x2) else (j26 x1))
noncomputable def f_X3_cheapest (a : Nat) (s0 : Mem) : Res :=
  jn (fun (v1 : Int) (s2 : Mem) => some (v1, s2)) fun j32 => f_X3_cheapest_4 a j32 FU 0 1 s0
set_option maxHeartbeats 4000000 in
set_option maxRecDepth 10000 in
theorem l_X3_cheapest_4 (κ : Kp) (a : Nat) (hA : At3 κ a) (k32 : Int → Mem → Res) (hk32 : ∀ (z1 : Int) (h_z1 : InR z1) (sz : Mem) (w_sz : WF sz), EO κ M_X3_cheapest R_X3_cheapest 32 [none, some (vi z1), none] [] sz (k32 z1 sz)) : ∀ (n : Nat) (x1 : Int) (h_x1 : InR x1) (x2 : Int) (h_x2 : InR x2) (s0 : Mem) (w_s0 : WF s0), EO κ M_X3_cheapest R_X3_cheapest 4 [some (vr κ a), some (vi x1), some (vi x2)] [] s0 (f_X3_cheapest_4 a k32 n x1 x2 s0) := by
  intro n
  induction n with
  | zero => exact fun _ _ _ _ _ _ => q_none
  | succ n ih =>
    intro x1 h_x1 x2 h_x2 s0 w_s0
    rw [f_X3_cheapest_4]
    refine q_iload_n (x := x2) d_X3_cheapest_4 rfl ?_
    refine q_sipush d_X3_cheapest_5 rfl ?_
    refine q_icmp_gt d_X3_cheapest_8 h_x2 (inr_d rfl) (fun c3 => ?_) (fun c3 => ?_)
    · refine q_sub (ls' := [none, some (vi x1), none]) ⟨rfl, trivial⟩ ?_
      exact hk32 x1 h_x1 s0 w_s0
    · refine q_aload_n d_X3_cheapest_11 rfl ?_
      refine q_iload_n (x := x2) d_X3_cheapest_12 rfl ?_
      refine q_callI (R' := R_X3_dearer) (runV (As := [vi x2]) (rest := []) d_X3_cheapest_13.1 cv_3_36 rfl hA.1 rfl rfl ⟨rfl, rfl, by decide, by decide⟩ (Nat.le_of_ble_eq_true rfl) w_s0 rfl) d_X3_cheapest_13.2 (c_X3_dearer κ a hA x2 h_x2 s0) rfl (fun r4 s5 h_r4 w_s5 => ?_)
      refine q_aload_n d_X3_cheapest_16 rfl ?_
      refine q_iload_n (x := x1) d_X3_cheapest_17 rfl ?_
      refine q_callI (R' := R_X3_dearer) (runV (As := [vi x1]) (rest := [vi r4]) d_X3_cheapest_18.1 cv_3_36 rfl hA.1 rfl rfl ⟨rfl, rfl, by decide, by decide⟩ (Nat.le_of_ble_eq_true rfl) w_s5 rfl) d_X3_cheapest_18.2 (c_X3_dearer κ a hA x1 h_x1 s5) rfl (fun r6 s7 h_r6 w_s7 => ?_)
      refine q_jn (α := Int → Res) (fun j26 => ∀ (v8 : Int) (h_v8 : InR v8), EO κ M_X3_cheapest R_X3_cheapest 26 [some (vr κ a), some (vi v8), some (vi x2)] [] s7 (j26 v8)) ?_ (fun j26 hj26 => ?_)
      · intro v8 h_v8
        refine q_iinc (x := x2) d_X3_cheapest_26 rfl rfl ?_
        refine q_goto d_X3_cheapest_29 ?_
        refine q_sub (ls' := [some (vr κ a), some (vi v8), some (vi (wr (x2 + 1)))]) ⟨rfl, rfl, rfl, trivial⟩ ?_
        exact ih v8 h_v8 (wr (x2 + 1)) (inr_wr _) s7 w_s7
      refine q_icmp_ge d_X3_cheapest_21 h_r4 h_r6 (fun c9 => ?_) (fun c9 => ?_)
      · refine q_iload_n (x := x2) d_X3_cheapest_24 rfl ?_
        refine q_istore_n d_X3_cheapest_25 rfl ?_
        refine q_sub (ls' := [some (vr κ a), some (vi x2), some (vi x2)]) ⟨rfl, rfl, rfl, trivial⟩ ?_
        exact hj26 x2 h_x2
      · refine q_sub (ls' := [some (vr κ a), some (vi x1), some (vi x2)]) ⟨rfl, rfl, rfl, trivial⟩ ?_
        exact hj26 x1 h_x1
set_option maxHeartbeats 4000000 in
set_option maxRecDepth 10000 in
theorem c_X3_cheapest (κ : Kp) (a : Nat) (hA : At3 κ a) (s0 : Mem) : ∀ r σ', f_X3_cheapest a s0 = some (r, σ') → Ct κ M_X3_cheapest R_X3_cheapest [vr κ a] s0 r σ' := by
  intro r σ' ho
  refine Ct.of (by decide) (Nat.le_of_ble_eq_true rfl) (cat_ok rfl) (fun w_s0 => ?_) ⟨rfl, rfl⟩
  refine q_ent (ls' := [some (vr κ a), none, none]) (o := f_X3_cheapest a s0) ⟨rfl, trivial⟩ ?_ ho
  unfold f_X3_cheapest
  refine q_iconst d_X3_cheapest_0 ?_
  refine q_istore_n d_X3_cheapest_1 rfl ?_
  refine q_iconst d_X3_cheapest_2 ?_
  refine q_istore_n d_X3_cheapest_3 rfl ?_
  refine q_jn (α := Int → Mem → Res) (fun j32 => ∀ (v1 : Int) (h_v1 : InR v1) (s2 : Mem) (w_s2 : WF s2), EO κ M_X3_cheapest R_X3_cheapest 32 [none, some (vi v1), none] [] s2 (j32 v1 s2)) ?_ (fun j32 hj32 => ?_)
  · intro v1 h_v1 s2 w_s2
    refine q_iload_n (x := v1) d_X3_cheapest_32 rfl ?_
    exact q_ireti d_X3_cheapest_33 rfl h_v1 w_s2
  refine q_sub (ls' := [some (vr κ a), some (vi 0), some (vi 1)]) ⟨rfl, rfl, rfl, trivial⟩ ?_
  exact l_X3_cheapest_4 κ a hA j32 hj32 FU 0 (inr_b (Or.inl rfl)) 1 (inr_b (Or.inr rfl)) s0 w_s0
abbrev R_X3_part : Room := { frames := 0, cells := 0, slots := 0, locals := 0 }
noncomputable def f_X3_part_58 (a : Nat) (p1 : Int) (p2 : Int) (p3 : Int) (p6 : Int) (k125 : Int → Int → Res) (s0 : Mem) : Nat → Int → Int → Int → Res
  | 0, _, _, _ => none
  | n + 1, x4, x5, x7 =>
    if x7 < s0 a 2 then (gd ((0 : Int) ≤ x7 ∧ x7 < 6) (gd (p3 ≠ 0) (gd ((0 : Int) ≤ x7 ∧ x7 < 6) (gd (p3 ≠ 0) (jn (fun (v15 : Int) => f_X3_part_58 a p1 p2 p3 p6 k125 s0 n (wr (x4 - (wr (Int.tdiv (wr (p1 * (s0 (a + 2) x7))) p3)))) v15 (wr (x7 + 1))) fun j119 => jn (fun (_ : Unit) => j119 (wr (x5 + 1))) fun j116 => if p6 < Int.tmod (wr (p1 * (s0 (a + 2) x7))) p3 then (j116 ()) else (if Int.tmod (wr (p1 * (s0 (a + 2) x7))) p3 = p6 then (if x7 < p2 then (j116 ()) else (j119 x5)) else (j119 x5))))))) else (k125 x4 x5)
noncomputable def f_X3_part_5 (a : Nat) (k30 : Int → Res) (s0 : Mem) : Nat → Int → Int → Res
  | 0, _, _ => none
  | n + 1, x3, x4 =>
    if x4 < s0 a 2 then (gd ((0 : Int) ≤ x4 ∧ x4 < 6) (f_X3_part_5 a k30 s0 n (wr (x3 + (s0 (a + 2) x4))) (wr (x4 + 1)))) else (k30 x3)
noncomputable def f_X3_part (a : Nat) (x1 : Int) (x2 : Int) (s0 : Mem) : Res :=
  jn (fun (v1 : Int) => if v1 < 1 then (some (0, s0)) else (gd ((0 : Int) ≤ x2 ∧ x2 < 6) (gd (v1 ≠ 0) (jn (fun (v5 : Int) (v6 : Int) => gd ((0 : Int) ≤ x2 ∧ x2 < 6) (gd (v1 ≠ 0) (if v6 < v5 then (some (wr ((wr (Int.tdiv (wr (x1 * (s0 (a + 2) x2))) v1)) + 1), s0)) else (some (wr ((wr (Int.tdiv (wr (x1 * (s0 (a + 2) x2))) v1)) + 0), s0))))) fun j125 => f_X3_part_58 a x1 x2 v1 (Int.tmod (wr (x1 * (s0 (a + 2) x2))) v1) j125 s0 FU x1 0 0)))) fun j30 => f_X3_part_5 a j30 s0 FU 0 0
set_option maxHeartbeats 4000000 in
set_option maxRecDepth 10000 in
theorem l_X3_part_58 (κ : Kp) (a : Nat) (hA : At3 κ a) (p1 : Int) (h_p1 : InR p1) (p2 : Int) (h_p2 : InR p2) (p3 : Int) (h_p3 : InR p3) (p6 : Int) (h_p6 : InR p6) (k125 : Int → Int → Res) (s0 : Mem) (w_s0 : WF s0) (hk125 : ∀ (z4 : Int) (h_z4 : InR z4) (z5 : Int) (h_z5 : InR z5), EO κ M_X3_part R_X3_part 125 [some (vr κ a), some (vi p1), some (vi p2), some (vi p3), some (vi z4), some (vi z5), none, none, none] [] s0 (k125 z4 z5)) : ∀ (n : Nat) (x4 : Int) (h_x4 : InR x4) (x5 : Int) (h_x5 : InR x5) (x7 : Int) (h_x7 : InR x7), EO κ M_X3_part R_X3_part 58 [some (vr κ a), some (vi p1), some (vi p2), some (vi p3), some (vi x4), some (vi x5), some (vi p6), some (vi x7), none] [] s0 (f_X3_part_58 a p1 p2 p3 p6 k125 s0 n x4 x5 x7) := by
  intro n
  induction n with
  | zero => exact fun _ _ _ _ _ _ => q_none
  | succ n ih =>
    intro x4 h_x4 x5 h_x5 x7 h_x7
    rw [f_X3_part_58]
    refine q_iload (x := x7) d_X3_part_58 rfl ?_
    refine q_aload_n d_X3_part_60 rfl ?_
    refine q_getI (k := 2) (j := 2) d_X3_part_61 hA.1 fi_3_22 rfl rfl ?_
    refine q_icmp_ge d_X3_part_64 h_x7 (w_s0 _ _) (fun c10 => ?_) (fun c10 => ?_)
    · refine q_iload_n (x := p1) d_X3_part_67 rfl ?_
      refine q_aload_n d_X3_part_68 rfl ?_
      refine q_getR (n := 2) d_X3_part_69 hA.1 fi_3_15 rfl (Nat.le_of_ble_eq_true rfl) ?_
      refine q_iload (x := x7) d_X3_part_72 rfl ?_
      refine q_iaload (m := 6) d_X3_part_74 hA.2.2 (by decide) rfl (fun g11 => ?_)
      refine q_imul d_X3_part_75 ?_
      refine q_iload_n (x := p3) d_X3_part_76 rfl ?_
      refine q_irem d_X3_part_77 (inr_wr _) h_p3 (fun g12 => ?_)
      refine q_istore d_X3_part_78 rfl ?_
      refine q_iload (x := x4) d_X3_part_80 rfl ?_
      refine q_iload_n (x := p1) d_X3_part_82 rfl ?_
      refine q_aload_n d_X3_part_83 rfl ?_
      refine q_getR (n := 2) d_X3_part_84 hA.1 fi_3_15 rfl (Nat.le_of_ble_eq_true rfl) ?_
      refine q_iload (x := x7) d_X3_part_87 rfl ?_
      refine q_iaload (m := 6) d_X3_part_89 hA.2.2 (by decide) rfl (fun g13 => ?_)
      refine q_imul d_X3_part_90 ?_
      refine q_iload_n (x := p3) d_X3_part_91 rfl ?_
      refine q_idiv d_X3_part_92 (inr_wr _) h_p3 (fun g14 => ?_)
      refine q_isub d_X3_part_93 ?_
      refine q_istore d_X3_part_94 rfl ?_
      refine q_iload (x := Int.tmod (wr (p1 * (s0 (a + 2) x7))) p3) d_X3_part_96 rfl ?_
      refine q_iload (x := p6) d_X3_part_98 rfl ?_
      refine q_jn (α := Int → Res) (fun j119 => ∀ (v15 : Int) (h_v15 : InR v15), EO κ M_X3_part R_X3_part 119 [some (vr κ a), some (vi p1), some (vi p2), some (vi p3), some (vi (wr (x4 - (wr (Int.tdiv (wr (p1 * (s0 (a + 2) x7))) p3))))), some (vi v15), some (vi p6), some (vi x7), none] [] s0 (j119 v15)) ?_ (fun j119 hj119 => ?_)
      · intro v15 h_v15
        refine q_iinc (x := x7) d_X3_part_119 rfl rfl ?_
        refine q_goto d_X3_part_122 ?_
        refine q_sub (ls' := [some (vr κ a), some (vi p1), some (vi p2), some (vi p3), some (vi (wr (x4 - (wr (Int.tdiv (wr (p1 * (s0 (a + 2) x7))) p3))))), some (vi v15), some (vi p6), some (vi (wr (x7 + 1))), none]) ⟨rfl, rfl, rfl, rfl, rfl, rfl, rfl, rfl, trivial⟩ ?_
        exact ih (wr (x4 - (wr (Int.tdiv (wr (p1 * (s0 (a + 2) x7))) p3)))) (inr_wr _) v15 h_v15 (wr (x7 + 1)) (inr_wr _)
      refine q_jn (α := Unit → Res) (fun j116 => EO κ M_X3_part R_X3_part 116 [some (vr κ a), some (vi p1), some (vi p2), some (vi p3), some (vi (wr (x4 - (wr (Int.tdiv (wr (p1 * (s0 (a + 2) x7))) p3))))), some (vi x5), some (vi p6), some (vi x7), none] [] s0 (j116 ())) ?_ (fun j116 hj116 => ?_)
      · refine q_iinc (x := x5) d_X3_part_116 rfl rfl ?_
        refine q_sub (ls' := [some (vr κ a), some (vi p1), some (vi p2), some (vi p3), some (vi (wr (x4 - (wr (Int.tdiv (wr (p1 * (s0 (a + 2) x7))) p3))))), some (vi (wr (x5 + 1))), some (vi p6), some (vi x7), none]) ⟨rfl, rfl, rfl, rfl, rfl, rfl, rfl, rfl, trivial⟩ ?_
        exact hj119 (wr (x5 + 1)) (inr_wr _)
      refine q_icmp_gt d_X3_part_100 (inr_tmod (inr_wr _) h_p3) h_p6 (fun c16 => ?_) (fun c16 => ?_)
      · refine q_sub (ls' := [some (vr κ a), some (vi p1), some (vi p2), some (vi p3), some (vi (wr (x4 - (wr (Int.tdiv (wr (p1 * (s0 (a + 2) x7))) p3))))), some (vi x5), some (vi p6), some (vi x7), none]) ⟨rfl, rfl, rfl, rfl, rfl, rfl, rfl, rfl, trivial⟩ ?_
        exact hj116 
      · refine q_iload (x := Int.tmod (wr (p1 * (s0 (a + 2) x7))) p3) d_X3_part_103 rfl ?_
        refine q_iload (x := p6) d_X3_part_105 rfl ?_
        refine q_icmp_ne d_X3_part_107 (inr_tmod (inr_wr _) h_p3) h_p6 (fun c17 => ?_) (fun c17 => ?_)
        · refine q_iload (x := x7) d_X3_part_110 rfl ?_
          refine q_iload_n (x := p2) d_X3_part_112 rfl ?_
          refine q_icmp_ge d_X3_part_113 h_x7 h_p2 (fun c18 => ?_) (fun c18 => ?_)
          · refine q_sub (ls' := [some (vr κ a), some (vi p1), some (vi p2), some (vi p3), some (vi (wr (x4 - (wr (Int.tdiv (wr (p1 * (s0 (a + 2) x7))) p3))))), some (vi x5), some (vi p6), some (vi x7), none]) ⟨rfl, rfl, rfl, rfl, rfl, rfl, rfl, rfl, trivial⟩ ?_
            exact hj116 
          · refine q_sub (ls' := [some (vr κ a), some (vi p1), some (vi p2), some (vi p3), some (vi (wr (x4 - (wr (Int.tdiv (wr (p1 * (s0 (a + 2) x7))) p3))))), some (vi x5), some (vi p6), some (vi x7), none]) ⟨rfl, rfl, rfl, rfl, rfl, rfl, rfl, rfl, trivial⟩ ?_
            exact hj119 x5 h_x5
        · refine q_sub (ls' := [some (vr κ a), some (vi p1), some (vi p2), some (vi p3), some (vi (wr (x4 - (wr (Int.tdiv (wr (p1 * (s0 (a + 2) x7))) p3))))), some (vi x5), some (vi p6), some (vi x7), none]) ⟨rfl, rfl, rfl, rfl, rfl, rfl, rfl, rfl, trivial⟩ ?_
          exact hj119 x5 h_x5
    · refine q_sub (ls' := [some (vr κ a), some (vi p1), some (vi p2), some (vi p3), some (vi x4), some (vi x5), none, none, none]) ⟨rfl, rfl, rfl, rfl, rfl, rfl, trivial⟩ ?_
      exact hk125 x4 h_x4 x5 h_x5
set_option maxHeartbeats 4000000 in
set_option maxRecDepth 10000 in
theorem l_X3_part_5 (κ : Kp) (a : Nat) (hA : At3 κ a) (p1 : Int) (h_p1 : InR p1) (p2 : Int) (h_p2 : InR p2) (k30 : Int → Res) (s0 : Mem) (w_s0 : WF s0) (hk30 : ∀ (z3 : Int) (h_z3 : InR z3), EO κ M_X3_part R_X3_part 30 [some (vr κ a), some (vi p1), some (vi p2), some (vi z3), none, none, none, none, none] [] s0 (k30 z3)) : ∀ (n : Nat) (x3 : Int) (h_x3 : InR x3) (x4 : Int) (h_x4 : InR x4), EO κ M_X3_part R_X3_part 5 [some (vr κ a), some (vi p1), some (vi p2), some (vi x3), some (vi x4), none, none, none, none] [] s0 (f_X3_part_5 a k30 s0 n x3 x4) := by
  intro n
  induction n with
  | zero => exact fun _ _ _ _ => q_none
  | succ n ih =>
    intro x3 h_x3 x4 h_x4
    rw [f_X3_part_5]
    refine q_iload (x := x4) d_X3_part_5 rfl ?_
    refine q_aload_n d_X3_part_7 rfl ?_
    refine q_getI (k := 2) (j := 2) d_X3_part_8 hA.1 fi_3_22 rfl rfl ?_
    refine q_icmp_ge d_X3_part_11 h_x4 (w_s0 _ _) (fun c19 => ?_) (fun c19 => ?_)
    · refine q_iload_n (x := x3) d_X3_part_14 rfl ?_
      refine q_aload_n d_X3_part_15 rfl ?_
      refine q_getR (n := 2) d_X3_part_16 hA.1 fi_3_15 rfl (Nat.le_of_ble_eq_true rfl) ?_
      refine q_iload (x := x4) d_X3_part_19 rfl ?_
      refine q_iaload (m := 6) d_X3_part_21 hA.2.2 (by decide) rfl (fun g20 => ?_)
      refine q_iadd d_X3_part_22 ?_
      refine q_istore_n d_X3_part_23 rfl ?_
      refine q_iinc (x := x4) d_X3_part_24 rfl rfl ?_
      refine q_goto d_X3_part_27 ?_
      refine q_sub (ls' := [some (vr κ a), some (vi p1), some (vi p2), some (vi (wr (x3 + (s0 (a + 2) x4)))), some (vi (wr (x4 + 1))), none, none, none, none]) ⟨rfl, rfl, rfl, rfl, rfl, trivial⟩ ?_
      exact ih (wr (x3 + (s0 (a + 2) x4))) (inr_wr _) (wr (x4 + 1)) (inr_wr _)
    · refine q_sub (ls' := [some (vr κ a), some (vi p1), some (vi p2), some (vi x3), none, none, none, none, none]) ⟨rfl, rfl, rfl, rfl, trivial⟩ ?_
      exact hk30 x3 h_x3
set_option maxHeartbeats 4000000 in
set_option maxRecDepth 10000 in
theorem c_X3_part (κ : Kp) (a : Nat) (hA : At3 κ a) (x1 : Int) (h_x1 : InR x1) (x2 : Int) (h_x2 : InR x2) (s0 : Mem) : ∀ r σ', f_X3_part a x1 x2 s0 = some (r, σ') → Ct κ M_X3_part R_X3_part [vr κ a, vi x1, vi x2] s0 r σ' := by
  intro r σ' ho
  refine Ct.of (by decide) (Nat.le_of_ble_eq_true rfl) (cat_ok rfl) (fun w_s0 => ?_) ⟨rfl, rfl⟩
  refine q_ent (ls' := [some (vr κ a), some (vi x1), some (vi x2), none, none, none, none, none, none]) (o := f_X3_part a x1 x2 s0) ⟨rfl, rfl, rfl, trivial⟩ ?_ ho
  unfold f_X3_part
  refine q_iconst d_X3_part_0 ?_
  refine q_istore_n d_X3_part_1 rfl ?_
  refine q_iconst d_X3_part_2 ?_
  refine q_istore d_X3_part_3 rfl ?_
  refine q_jn (α := Int → Res) (fun j30 => ∀ (v1 : Int) (h_v1 : InR v1), EO κ M_X3_part R_X3_part 30 [some (vr κ a), some (vi x1), some (vi x2), some (vi v1), none, none, none, none, none] [] s0 (j30 v1)) ?_ (fun j30 hj30 => ?_)
  · intro v1 h_v1
    refine q_iload_n (x := v1) d_X3_part_30 rfl ?_
    refine q_iconst d_X3_part_31 ?_
    refine q_icmp_ge d_X3_part_32 h_v1 (inr_b (Or.inr rfl)) (fun c2 => ?_) (fun c2 => ?_)
    · refine q_iconst d_X3_part_35 ?_
      exact q_ireti d_X3_part_36 rfl (inr_b (Or.inl rfl)) w_s0
    · refine q_iload_n (x := x1) d_X3_part_37 rfl ?_
      refine q_istore d_X3_part_38 rfl ?_
      refine q_iconst d_X3_part_40 ?_
      refine q_istore d_X3_part_41 rfl ?_
      refine q_iload_n (x := x1) d_X3_part_43 rfl ?_
      refine q_aload_n d_X3_part_44 rfl ?_
      refine q_getR (n := 2) d_X3_part_45 hA.1 fi_3_15 rfl (Nat.le_of_ble_eq_true rfl) ?_
      refine q_iload_n (x := x2) d_X3_part_48 rfl ?_
      refine q_iaload (m := 6) d_X3_part_49 hA.2.2 (by decide) rfl (fun g3 => ?_)
      refine q_imul d_X3_part_50 ?_
      refine q_iload_n (x := v1) d_X3_part_51 rfl ?_
      refine q_irem d_X3_part_52 (inr_wr _) h_v1 (fun g4 => ?_)
      refine q_istore d_X3_part_53 rfl ?_
      refine q_iconst d_X3_part_55 ?_
      refine q_istore d_X3_part_56 rfl ?_
      refine q_jn (α := Int → Int → Res) (fun j125 => ∀ (v5 : Int) (h_v5 : InR v5) (v6 : Int) (h_v6 : InR v6), EO κ M_X3_part R_X3_part 125 [some (vr κ a), some (vi x1), some (vi x2), some (vi v1), some (vi v5), some (vi v6), none, none, none] [] s0 (j125 v5 v6)) ?_ (fun j125 hj125 => ?_)
      · intro v5 h_v5 v6 h_v6
        refine q_iload_n (x := x1) d_X3_part_125 rfl ?_
        refine q_aload_n d_X3_part_126 rfl ?_
        refine q_getR (n := 2) d_X3_part_127 hA.1 fi_3_15 rfl (Nat.le_of_ble_eq_true rfl) ?_
        refine q_iload_n (x := x2) d_X3_part_130 rfl ?_
        refine q_iaload (m := 6) d_X3_part_131 hA.2.2 (by decide) rfl (fun g7 => ?_)
        refine q_imul d_X3_part_132 ?_
        refine q_iload_n (x := v1) d_X3_part_133 rfl ?_
        refine q_idiv d_X3_part_134 (inr_wr _) h_v1 (fun g8 => ?_)
        refine q_iload (x := v6) d_X3_part_135 rfl ?_
        refine q_iload (x := v5) d_X3_part_137 rfl ?_
        refine q_icmp_ge d_X3_part_139 h_v6 h_v5 (fun c9 => ?_) (fun c9 => ?_)
        · refine q_iconst d_X3_part_142 ?_
          refine q_goto d_X3_part_143 ?_
          refine q_iadd d_X3_part_147 ?_
          exact q_ireti d_X3_part_148 rfl (inr_wr _) w_s0
        · refine q_iconst d_X3_part_146 ?_
          refine q_iadd d_X3_part_147 ?_
          exact q_ireti d_X3_part_148 rfl (inr_wr _) w_s0
      refine q_sub (ls' := [some (vr κ a), some (vi x1), some (vi x2), some (vi v1), some (vi x1), some (vi 0), some (vi (Int.tmod (wr (x1 * (s0 (a + 2) x2))) v1)), some (vi 0), none]) ⟨rfl, rfl, rfl, rfl, rfl, rfl, rfl, rfl, trivial⟩ ?_
      exact l_X3_part_58 κ a hA x1 h_x1 x2 h_x2 v1 h_v1 (Int.tmod (wr (x1 * (s0 (a + 2) x2))) v1) (inr_tmod (inr_wr _) h_v1) j125 s0 w_s0 hj125 FU x1 h_x1 0 (inr_b (Or.inl rfl)) 0 (inr_b (Or.inl rfl))
  refine q_sub (ls' := [some (vr κ a), some (vi x1), some (vi x2), some (vi 0), some (vi 0), none, none, none, none]) ⟨rfl, rfl, rfl, rfl, rfl, trivial⟩ ?_
  exact l_X3_part_5 κ a hA x1 h_x1 x2 h_x2 j30 s0 w_s0 hj30 FU 0 (inr_b (Or.inl rfl)) 0 (inr_b (Or.inl rfl))
abbrev R_X4_become : Room := { frames := 2, cells := 0, slots := 0, locals := 81 }
noncomputable def f_X4_become (a : Nat) (a1 : Nat) (s0 : Mem) : Res :=
  bd (f_X11_copy (a1 + 1) 10 (a + 1) 10 s0) fun r1 s2 => bd (f_X11_copy (a1 + 2) 10 (a + 2) 10 s2) fun r3 s4 => bd (f_X11_copy (a1 + 3) 10 (a + 3) 10 s4) fun r5 s6 => bd (f_X11_copy (a1 + 4) 10 (a + 4) 10 s6) fun r7 s8 => bd (f_X11_copy (a1 + 5) 10 (a + 5) 10 s8) fun r9 s10 => bd (f_X11_copy (a1 + 6) 10 (a + 6) 10 s10) fun r11 s12 => bd (f_X11_copy (a1 + 7) 10 (a + 7) 10 s12) fun r13 s14 => bd (f_X11_copy (a1 + 8) 16 (a + 8) 16 s14) fun r15 s16 => lm (mup s16 a 8 (s16 a1 8)) fun s17 => lm (mup s17 a 9 (s17 a1 9)) fun s18 => lm (mup s18 a 10 (s18 a1 10)) fun s19 => lm (mup s19 a 11 (s19 a1 11)) fun s20 => lm (mup s20 a 12 (s20 a1 12)) fun s21 => lm (mup s21 a 13 (s21 a1 13)) fun s22 => lm (mup s22 a 14 (s22 a1 14)) fun s23 => lm (mup s23 a 15 (s23 a1 15)) fun s24 => lm (mup s24 a 16 (s24 a1 16)) fun s25 => some (0, s25)
set_option maxHeartbeats 4000000 in
set_option maxRecDepth 10000 in
theorem c_X4_become (κ : Kp) (a : Nat) (hA : At4 κ a) (a1 : Nat) (hA1 : At4 κ a1) (s0 : Mem) : ∀ r σ', f_X4_become a a1 s0 = some (r, σ') → Ct κ M_X4_become R_X4_become [vr κ a, vr κ a1] s0 r σ' := by
  intro r σ' ho
  refine Ct.of (by decide) (Nat.le_of_ble_eq_true rfl) (cat_ok rfl) (fun w_s0 => ?_) ⟨rfl, rfl⟩
  refine q_ent (ls' := [some (vr κ a), some (vr κ a1)]) (o := f_X4_become a a1 s0) ⟨rfl, rfl, trivial⟩ ?_ ho
  unfold f_X4_become
  refine q_aload_n d_X4_become_0 rfl ?_
  refine q_getR (n := 1) d_X4_become_1 hA1.1 fi_4_9 rfl (Nat.le_of_ble_eq_true rfl) ?_
  refine q_aload_n d_X4_become_4 rfl ?_
  refine q_getR (n := 1) d_X4_become_5 hA.1 fi_4_9 rfl (Nat.le_of_ble_eq_true rfl) ?_
  refine q_callV (R' := R_X11_copy) (runN (As := [vr κ (a1 + 1), vr κ (a + 1)]) (rest := []) d_X4_become_8.1 cv_4_43 rfl ⟨rfl, rfl, by decide, by decide⟩ (Nat.le_of_ble_eq_true rfl) w_s0 rfl) d_X4_become_8.2 (c_X11_copy κ (a1 + 1) 10 hA1.2.1 (by decide) (a + 1) 10 hA.2.1 (by decide) s0) rfl (fun r1 s2 w_s2 => ?_)
  refine q_aload_n d_X4_become_11 rfl ?_
  refine q_getR (n := 2) d_X4_become_12 hA1.1 fi_4_15 rfl (Nat.le_of_ble_eq_true rfl) ?_
  refine q_aload_n d_X4_become_15 rfl ?_
  refine q_getR (n := 2) d_X4_become_16 hA.1 fi_4_15 rfl (Nat.le_of_ble_eq_true rfl) ?_
  refine q_callV (R' := R_X11_copy) (runN (As := [vr κ (a1 + 2), vr κ (a + 2)]) (rest := []) d_X4_become_19.1 cv_4_43 rfl ⟨rfl, rfl, by decide, by decide⟩ (Nat.le_of_ble_eq_true rfl) w_s2 rfl) d_X4_become_19.2 (c_X11_copy κ (a1 + 2) 10 hA1.2.2.1 (by decide) (a + 2) 10 hA.2.2.1 (by decide) s2) rfl (fun r3 s4 w_s4 => ?_)
  refine q_aload_n d_X4_become_22 rfl ?_
  refine q_getR (n := 3) d_X4_become_23 hA1.1 fi_4_18 rfl (Nat.le_of_ble_eq_true rfl) ?_
  refine q_aload_n d_X4_become_26 rfl ?_
  refine q_getR (n := 3) d_X4_become_27 hA.1 fi_4_18 rfl (Nat.le_of_ble_eq_true rfl) ?_
  refine q_callV (R' := R_X11_copy) (runN (As := [vr κ (a1 + 3), vr κ (a + 3)]) (rest := []) d_X4_become_30.1 cv_4_43 rfl ⟨rfl, rfl, by decide, by decide⟩ (Nat.le_of_ble_eq_true rfl) w_s4 rfl) d_X4_become_30.2 (c_X11_copy κ (a1 + 3) 10 hA1.2.2.2.1 (by decide) (a + 3) 10 hA.2.2.2.1 (by decide) s4) rfl (fun r5 s6 w_s6 => ?_)
  refine q_aload_n d_X4_become_33 rfl ?_
  refine q_getR (n := 4) d_X4_become_34 hA1.1 fi_4_21 rfl (Nat.le_of_ble_eq_true rfl) ?_
  refine q_aload_n d_X4_become_37 rfl ?_
  refine q_getR (n := 4) d_X4_become_38 hA.1 fi_4_21 rfl (Nat.le_of_ble_eq_true rfl) ?_
  refine q_callV (R' := R_X11_copy) (runN (As := [vr κ (a1 + 4), vr κ (a + 4)]) (rest := []) d_X4_become_41.1 cv_4_43 rfl ⟨rfl, rfl, by decide, by decide⟩ (Nat.le_of_ble_eq_true rfl) w_s6 rfl) d_X4_become_41.2 (c_X11_copy κ (a1 + 4) 10 hA1.2.2.2.2.1 (by decide) (a + 4) 10 hA.2.2.2.2.1 (by decide) s6) rfl (fun r7 s8 w_s8 => ?_)
  refine q_aload_n d_X4_become_44 rfl ?_
  refine q_getR (n := 5) d_X4_become_45 hA1.1 fi_4_24 rfl (Nat.le_of_ble_eq_true rfl) ?_
  refine q_aload_n d_X4_become_48 rfl ?_
  refine q_getR (n := 5) d_X4_become_49 hA.1 fi_4_24 rfl (Nat.le_of_ble_eq_true rfl) ?_
  refine q_callV (R' := R_X11_copy) (runN (As := [vr κ (a1 + 5), vr κ (a + 5)]) (rest := []) d_X4_become_52.1 cv_4_43 rfl ⟨rfl, rfl, by decide, by decide⟩ (Nat.le_of_ble_eq_true rfl) w_s8 rfl) d_X4_become_52.2 (c_X11_copy κ (a1 + 5) 10 hA1.2.2.2.2.2.1 (by decide) (a + 5) 10 hA.2.2.2.2.2.1 (by decide) s8) rfl (fun r9 s10 w_s10 => ?_)
  refine q_aload_n d_X4_become_55 rfl ?_
  refine q_getR (n := 6) d_X4_become_56 hA1.1 fi_4_27 rfl (Nat.le_of_ble_eq_true rfl) ?_
  refine q_aload_n d_X4_become_59 rfl ?_
  refine q_getR (n := 6) d_X4_become_60 hA.1 fi_4_27 rfl (Nat.le_of_ble_eq_true rfl) ?_
  refine q_callV (R' := R_X11_copy) (runN (As := [vr κ (a1 + 6), vr κ (a + 6)]) (rest := []) d_X4_become_63.1 cv_4_43 rfl ⟨rfl, rfl, by decide, by decide⟩ (Nat.le_of_ble_eq_true rfl) w_s10 rfl) d_X4_become_63.2 (c_X11_copy κ (a1 + 6) 10 hA1.2.2.2.2.2.2.1 (by decide) (a + 6) 10 hA.2.2.2.2.2.2.1 (by decide) s10) rfl (fun r11 s12 w_s12 => ?_)
  refine q_aload_n d_X4_become_66 rfl ?_
  refine q_getR (n := 7) d_X4_become_67 hA1.1 fi_4_30 rfl (Nat.le_of_ble_eq_true rfl) ?_
  refine q_aload_n d_X4_become_70 rfl ?_
  refine q_getR (n := 7) d_X4_become_71 hA.1 fi_4_30 rfl (Nat.le_of_ble_eq_true rfl) ?_
  refine q_callV (R' := R_X11_copy) (runN (As := [vr κ (a1 + 7), vr κ (a + 7)]) (rest := []) d_X4_become_74.1 cv_4_43 rfl ⟨rfl, rfl, by decide, by decide⟩ (Nat.le_of_ble_eq_true rfl) w_s12 rfl) d_X4_become_74.2 (c_X11_copy κ (a1 + 7) 10 hA1.2.2.2.2.2.2.2.1 (by decide) (a + 7) 10 hA.2.2.2.2.2.2.2.1 (by decide) s12) rfl (fun r13 s14 w_s14 => ?_)
  refine q_aload_n d_X4_become_77 rfl ?_
  refine q_getR (n := 8) d_X4_become_78 hA1.1 fi_4_33 rfl (Nat.le_of_ble_eq_true rfl) ?_
  refine q_aload_n d_X4_become_81 rfl ?_
  refine q_getR (n := 8) d_X4_become_82 hA.1 fi_4_33 rfl (Nat.le_of_ble_eq_true rfl) ?_
  refine q_callV (R' := R_X11_copy) (runN (As := [vr κ (a1 + 8), vr κ (a + 8)]) (rest := []) d_X4_become_85.1 cv_4_43 rfl ⟨rfl, rfl, by decide, by decide⟩ (Nat.le_of_ble_eq_true rfl) w_s14 rfl) d_X4_become_85.2 (c_X11_copy κ (a1 + 8) 16 hA1.2.2.2.2.2.2.2.2 (by decide) (a + 8) 16 hA.2.2.2.2.2.2.2.2 (by decide) s14) rfl (fun r15 s16 w_s16 => ?_)
  refine q_aload_n d_X4_become_88 rfl ?_
  refine q_aload_n d_X4_become_89 rfl ?_
  refine q_getI (k := 8) (j := 8) d_X4_become_90 hA1.1 fi_4_47 rfl rfl ?_
  refine q_putI (k := 8) (j := 8) d_X4_become_93 hA.1 fp_4_47 rfl rfl (w_s16 _ _) w_s16 (fun s17 w_s17 => ?_)
  refine q_aload_n d_X4_become_96 rfl ?_
  refine q_aload_n d_X4_become_97 rfl ?_
  refine q_getI (k := 9) (j := 9) d_X4_become_98 hA1.1 fi_4_50 rfl rfl ?_
  refine q_putI (k := 9) (j := 9) d_X4_become_101 hA.1 fp_4_50 rfl rfl (w_s17 _ _) w_s17 (fun s18 w_s18 => ?_)
  refine q_aload_n d_X4_become_104 rfl ?_
  refine q_aload_n d_X4_become_105 rfl ?_
  refine q_getI (k := 10) (j := 10) d_X4_become_106 hA1.1 fi_4_53 rfl rfl ?_
  refine q_putI (k := 10) (j := 10) d_X4_become_109 hA.1 fp_4_53 rfl rfl (w_s18 _ _) w_s18 (fun s19 w_s19 => ?_)
  refine q_aload_n d_X4_become_112 rfl ?_
  refine q_aload_n d_X4_become_113 rfl ?_
  refine q_getI (k := 11) (j := 11) d_X4_become_114 hA1.1 fi_4_36 rfl rfl ?_
  refine q_putI (k := 11) (j := 11) d_X4_become_117 hA.1 fp_4_36 rfl rfl (w_s19 _ _) w_s19 (fun s20 w_s20 => ?_)
  refine q_aload_n d_X4_become_120 rfl ?_
  refine q_aload_n d_X4_become_121 rfl ?_
  refine q_getI (k := 12) (j := 12) d_X4_become_122 hA1.1 fi_4_40 rfl rfl ?_
  refine q_putI (k := 12) (j := 12) d_X4_become_125 hA.1 fp_4_40 rfl rfl (w_s20 _ _) w_s20 (fun s21 w_s21 => ?_)
  refine q_aload_n d_X4_become_128 rfl ?_
  refine q_aload_n d_X4_become_129 rfl ?_
  refine q_getI (k := 13) (j := 13) d_X4_become_130 hA1.1 fi_4_56 rfl rfl ?_
  refine q_putI (k := 13) (j := 13) d_X4_become_133 hA.1 fp_4_56 rfl rfl (w_s21 _ _) w_s21 (fun s22 w_s22 => ?_)
  refine q_aload_n d_X4_become_136 rfl ?_
  refine q_aload_n d_X4_become_137 rfl ?_
  refine q_getI (k := 14) (j := 14) d_X4_become_138 hA1.1 fi_4_59 rfl rfl ?_
  refine q_putI (k := 14) (j := 14) d_X4_become_141 hA.1 fp_4_59 rfl rfl (w_s22 _ _) w_s22 (fun s23 w_s23 => ?_)
  refine q_aload_n d_X4_become_144 rfl ?_
  refine q_aload_n d_X4_become_145 rfl ?_
  refine q_getI (k := 15) (j := 15) d_X4_become_146 hA1.1 fi_4_62 rfl rfl ?_
  refine q_putI (k := 15) (j := 15) d_X4_become_149 hA.1 fp_4_62 rfl rfl (w_s23 _ _) w_s23 (fun s24 w_s24 => ?_)
  refine q_aload_n d_X4_become_152 rfl ?_
  refine q_aload_n d_X4_become_153 rfl ?_
  refine q_getI (k := 16) (j := 16) d_X4_become_154 hA1.1 fi_4_65 rfl rfl ?_
  refine q_putI (k := 16) (j := 16) d_X4_become_157 hA.1 fp_4_65 rfl rfl (w_s24 _ _) w_s24 (fun s25 w_s25 => ?_)
  exact q_vret d_X4_become_160 rfl w_s25
abbrev R_X4_launch : Room := { frames := 1, cells := 0, slots := 0, locals := 22 }
noncomputable def f_X4_launch (a : Nat) (x1 : Int) (x2 : Int) (x3 : Int) (s0 : Mem) : Res :=
  bd (f_X11_within (s0 a 8) 0 9 s0) fun r1 s2 => if r1 = 0 then (some ((-1), s2)) else (gd ((0 : Int) ≤ s0 a 8 ∧ s0 a 8 < 10) (lm (mup s2 (a + 1) (s0 a 8) x1) fun s5 => gd ((0 : Int) ≤ s0 a 8 ∧ s0 a 8 < 10) (lm (mup s5 (a + 2) (s0 a 8) x2) fun s7 => gd ((0 : Int) ≤ s0 a 8 ∧ s0 a 8 < 10) (lm (mup s7 (a + 3) (s0 a 8) x3) fun s9 => gd ((0 : Int) ≤ s0 a 8 ∧ s0 a 8 < 10) (lm (mup s9 (a + 4) (s0 a 8) 0) fun s11 => gd ((0 : Int) ≤ s0 a 8 ∧ s0 a 8 < 10) (lm (mup s11 (a + 5) (s0 a 8) 0) fun s13 => gd ((0 : Int) ≤ s0 a 8 ∧ s0 a 8 < 10) (lm (mup s13 (a + 6) (s0 a 8) 0) fun s15 => gd ((0 : Int) ≤ s0 a 8 ∧ s0 a 8 < 10) (lm (mup s15 (a + 7) (s0 a 8) 0) fun s17 => lm (mup s17 a 8 (wr ((s17 a 8) + 1))) fun s18 => some (s0 a 8, s18)))))))))
set_option maxHeartbeats 4000000 in
set_option maxRecDepth 10000 in
theorem c_X4_launch (κ : Kp) (a : Nat) (hA : At4 κ a) (x1 : Int) (h_x1 : InR x1) (x2 : Int) (h_x2 : InR x2) (x3 : Int) (h_x3 : InR x3) (s0 : Mem) : ∀ r σ', f_X4_launch a x1 x2 x3 s0 = some (r, σ') → Ct κ M_X4_launch R_X4_launch [vr κ a, vi x1, vi x2, vi x3] s0 r σ' := by
  intro r σ' ho
  refine Ct.of (by decide) (Nat.le_of_ble_eq_true rfl) (cat_ok rfl) (fun w_s0 => ?_) ⟨rfl, rfl⟩
  refine q_ent (ls' := [some (vr κ a), some (vi x1), some (vi x2), some (vi x3), none]) (o := f_X4_launch a x1 x2 x3 s0) ⟨rfl, rfl, rfl, rfl, trivial⟩ ?_ ho
  unfold f_X4_launch
  refine q_aload_n d_X4_launch_0 rfl ?_
  refine q_getI (k := 8) (j := 8) d_X4_launch_1 hA.1 fi_4_47 rfl rfl ?_
  refine q_istore d_X4_launch_4 rfl ?_
  refine q_iload (x := s0 a 8) d_X4_launch_6 rfl ?_
  refine q_iconst d_X4_launch_8 ?_
  refine q_bipush d_X4_launch_9 rfl ?_
  refine q_callZ (R' := R_X11_within) (runN (As := [vi (s0 a 8), vi 0, vi 9]) (rest := []) d_X4_launch_11.1 cv_4_68 rfl ⟨rfl, rfl, by decide, by decide⟩ (Nat.le_of_ble_eq_true rfl) w_s0 rfl) d_X4_launch_11.2 (c_X11_within κ (s0 a 8) (w_s0 _ _) 0 (inr_b (Or.inl rfl)) 9 (inr_d rfl) s0) rfl (fun r1 s2 h_r1 w_s2 => ?_)
  refine q_if_ne d_X4_launch_14 (inr_b h_r1) (fun c3 => ?_) (fun c3 => ?_)
  · refine q_iconst d_X4_launch_17 ?_
    exact q_ireti d_X4_launch_18 rfl (inr_d rfl) w_s2
  · refine q_aload_n d_X4_launch_19 rfl ?_
    refine q_getR (n := 1) d_X4_launch_20 hA.1 fi_4_9 rfl (Nat.le_of_ble_eq_true rfl) ?_
    refine q_iload (x := s0 a 8) d_X4_launch_23 rfl ?_
    refine q_iload_n (x := x1) d_X4_launch_25 rfl ?_
    refine q_iastore (m := 10) d_X4_launch_26 hA.2.1 (by decide) rfl h_x1 w_s2 (fun g4 s5 w_s5 => ?_)
    refine q_aload_n d_X4_launch_27 rfl ?_
    refine q_getR (n := 2) d_X4_launch_28 hA.1 fi_4_15 rfl (Nat.le_of_ble_eq_true rfl) ?_
    refine q_iload (x := s0 a 8) d_X4_launch_31 rfl ?_
    refine q_iload_n (x := x2) d_X4_launch_33 rfl ?_
    refine q_iastore (m := 10) d_X4_launch_34 hA.2.2.1 (by decide) rfl h_x2 w_s5 (fun g6 s7 w_s7 => ?_)
    refine q_aload_n d_X4_launch_35 rfl ?_
    refine q_getR (n := 3) d_X4_launch_36 hA.1 fi_4_18 rfl (Nat.le_of_ble_eq_true rfl) ?_
    refine q_iload (x := s0 a 8) d_X4_launch_39 rfl ?_
    refine q_iload_n (x := x3) d_X4_launch_41 rfl ?_
    refine q_iastore (m := 10) d_X4_launch_42 hA.2.2.2.1 (by decide) rfl h_x3 w_s7 (fun g8 s9 w_s9 => ?_)
    refine q_aload_n d_X4_launch_43 rfl ?_
    refine q_getR (n := 4) d_X4_launch_44 hA.1 fi_4_21 rfl (Nat.le_of_ble_eq_true rfl) ?_
    refine q_iload (x := s0 a 8) d_X4_launch_47 rfl ?_
    refine q_iconst d_X4_launch_49 ?_
    refine q_iastore (m := 10) d_X4_launch_50 hA.2.2.2.2.1 (by decide) rfl (inr_b (Or.inl rfl)) w_s9 (fun g10 s11 w_s11 => ?_)
    refine q_aload_n d_X4_launch_51 rfl ?_
    refine q_getR (n := 5) d_X4_launch_52 hA.1 fi_4_24 rfl (Nat.le_of_ble_eq_true rfl) ?_
    refine q_iload (x := s0 a 8) d_X4_launch_55 rfl ?_
    refine q_iconst d_X4_launch_57 ?_
    refine q_iastore (m := 10) d_X4_launch_58 hA.2.2.2.2.2.1 (by decide) rfl (inr_b (Or.inl rfl)) w_s11 (fun g12 s13 w_s13 => ?_)
    refine q_aload_n d_X4_launch_59 rfl ?_
    refine q_getR (n := 6) d_X4_launch_60 hA.1 fi_4_27 rfl (Nat.le_of_ble_eq_true rfl) ?_
    refine q_iload (x := s0 a 8) d_X4_launch_63 rfl ?_
    refine q_iconst d_X4_launch_65 ?_
    refine q_iastore (m := 10) d_X4_launch_66 hA.2.2.2.2.2.2.1 (by decide) rfl (inr_b (Or.inl rfl)) w_s13 (fun g14 s15 w_s15 => ?_)
    refine q_aload_n d_X4_launch_67 rfl ?_
    refine q_getR (n := 7) d_X4_launch_68 hA.1 fi_4_30 rfl (Nat.le_of_ble_eq_true rfl) ?_
    refine q_iload (x := s0 a 8) d_X4_launch_71 rfl ?_
    refine q_iconst d_X4_launch_73 ?_
    refine q_iastore (m := 10) d_X4_launch_74 hA.2.2.2.2.2.2.2.1 (by decide) rfl (inr_b (Or.inl rfl)) w_s15 (fun g16 s17 w_s17 => ?_)
    refine q_aload_n d_X4_launch_75 rfl ?_
    refine q_dup d_X4_launch_76 rfl ?_
    refine q_getI (k := 8) (j := 8) d_X4_launch_77 hA.1 fi_4_47 rfl rfl ?_
    refine q_iconst d_X4_launch_80 ?_
    refine q_iadd d_X4_launch_81 ?_
    refine q_putI (k := 8) (j := 8) d_X4_launch_82 hA.1 fp_4_47 rfl rfl (inr_wr _) w_s17 (fun s18 w_s18 => ?_)
    refine q_iload (x := s0 a 8) d_X4_launch_85 rfl ?_
    exact q_ireti d_X4_launch_87 rfl (w_s0 _ _) w_s18
abbrev R_X4_most : Room := { frames := 1, cells := 0, slots := 0, locals := 22 }
noncomputable def f_X4_most (a : Nat) (x1 : Int) (x2 : Int) (s0 : Mem) : Res :=
  if x1 = 0 then (some (9, s0)) else (if x1 = 1 then (some (9, s0)) else (if x1 = 2 then (some (99, s0)) else (if x1 = 3 then (some (1000, s0)) else (if x1 = 4 then (bd (f_X11_within x2 0 15 s0) fun r6 s7 => if r6 = 0 then (some ((-1), s7)) else (some (99, s7))) else (if x1 = 5 then (bd (f_X4_has a x2 s0) fun r10 s11 => if r10 = 0 then (some ((-1), s11)) else (some (999, s11))) else (if x1 = 6 then (bd (f_X4_has a x2 s0) fun r14 s15 => if r14 = 0 then (some ((-1), s15)) else (some (999, s15))) else (some ((-1), s0))))))))
set_option maxHeartbeats 4000000 in
set_option maxRecDepth 10000 in
theorem c_X4_most (κ : Kp) (a : Nat) (hA : At4 κ a) (x1 : Int) (h_x1 : InR x1) (x2 : Int) (h_x2 : InR x2) (s0 : Mem) : ∀ r σ', f_X4_most a x1 x2 s0 = some (r, σ') → Ct κ M_X4_most R_X4_most [vr κ a, vi x1, vi x2] s0 r σ' := by
  intro r σ' ho
  refine Ct.of (by decide) (Nat.le_of_ble_eq_true rfl) (cat_ok rfl) (fun w_s0 => ?_) ⟨rfl, rfl⟩
  refine q_ent (ls' := [some (vr κ a), some (vi x1), some (vi x2)]) (o := f_X4_most a x1 x2 s0) ⟨rfl, rfl, rfl, trivial⟩ ?_ ho
  unfold f_X4_most
  refine q_iload_n (x := x1) d_X4_most_0 rfl ?_
  refine q_ite (fun c1 => ?_) (fun c1 => ?_)
  · refine q_tswC (tgt := 44) d_X4_most_1 h_x1 c1 (by decide) (by decide) rfl (by decide) ?_
    refine q_bipush d_X4_most_44 rfl ?_
    exact q_ireti d_X4_most_46 rfl (inr_d rfl) w_s0
  refine q_ite (fun c2 => ?_) (fun c2 => ?_)
  · refine q_tswC (tgt := 47) d_X4_most_1 h_x1 c2 (by decide) (by decide) rfl (by decide) ?_
    refine q_bipush d_X4_most_47 rfl ?_
    exact q_ireti d_X4_most_49 rfl (inr_d rfl) w_s0
  refine q_ite (fun c3 => ?_) (fun c3 => ?_)
  · refine q_tswC (tgt := 50) d_X4_most_1 h_x1 c3 (by decide) (by decide) rfl (by decide) ?_
    refine q_bipush d_X4_most_50 rfl ?_
    exact q_ireti d_X4_most_52 rfl (inr_d rfl) w_s0
  refine q_ite (fun c4 => ?_) (fun c4 => ?_)
  · refine q_tswC (tgt := 53) d_X4_most_1 h_x1 c4 (by decide) (by decide) rfl (by decide) ?_
    refine q_sipush d_X4_most_53 rfl ?_
    exact q_ireti d_X4_most_56 rfl (inr_d rfl) w_s0
  refine q_ite (fun c5 => ?_) (fun c5 => ?_)
  · refine q_tswC (tgt := 57) d_X4_most_1 h_x1 c5 (by decide) (by decide) rfl (by decide) ?_
    refine q_iload_n (x := x2) d_X4_most_57 rfl ?_
    refine q_iconst d_X4_most_58 ?_
    refine q_bipush d_X4_most_59 rfl ?_
    refine q_callZ (R' := R_X11_within) (runN (As := [vi x2, vi 0, vi 15]) (rest := []) d_X4_most_61.1 cv_4_68 rfl ⟨rfl, rfl, by decide, by decide⟩ (Nat.le_of_ble_eq_true rfl) w_s0 rfl) d_X4_most_61.2 (c_X11_within κ x2 h_x2 0 (inr_b (Or.inl rfl)) 15 (inr_d rfl) s0) rfl (fun r6 s7 h_r6 w_s7 => ?_)
    refine q_if_eq d_X4_most_64 (inr_b h_r6) (fun c8 => ?_) (fun c8 => ?_)
    · refine q_iconst d_X4_most_72 ?_
      exact q_ireti d_X4_most_73 rfl (inr_d rfl) w_s7
    · refine q_bipush d_X4_most_67 rfl ?_
      refine q_goto d_X4_most_69 ?_
      exact q_ireti d_X4_most_73 rfl (inr_d rfl) w_s7
  refine q_ite (fun c9 => ?_) (fun c9 => ?_)
  · refine q_tswC (tgt := 74) d_X4_most_1 h_x1 c9 (by decide) (by decide) rfl (by decide) ?_
    refine q_aload_n d_X4_most_74 rfl ?_
    refine q_iload_n (x := x2) d_X4_most_75 rfl ?_
    refine q_callZ (R' := R_X4_has) (runV (As := [vi x2]) (rest := []) d_X4_most_76.1 cv_4_76 rfl hA.1 rfl rfl ⟨rfl, rfl, by decide, by decide⟩ (Nat.le_of_ble_eq_true rfl) w_s0 rfl) d_X4_most_76.2 (c_X4_has κ a hA x2 h_x2 s0) rfl (fun r10 s11 h_r10 w_s11 => ?_)
    refine q_if_eq d_X4_most_79 (inr_b h_r10) (fun c12 => ?_) (fun c12 => ?_)
    · refine q_iconst d_X4_most_88 ?_
      exact q_ireti d_X4_most_89 rfl (inr_d rfl) w_s11
    · refine q_sipush d_X4_most_82 rfl ?_
      refine q_goto d_X4_most_85 ?_
      exact q_ireti d_X4_most_89 rfl (inr_d rfl) w_s11
  refine q_ite (fun c13 => ?_) (fun c13 => ?_)
  · refine q_tswC (tgt := 74) d_X4_most_1 h_x1 c13 (by decide) (by decide) rfl (by decide) ?_
    refine q_aload_n d_X4_most_74 rfl ?_
    refine q_iload_n (x := x2) d_X4_most_75 rfl ?_
    refine q_callZ (R' := R_X4_has) (runV (As := [vi x2]) (rest := []) d_X4_most_76.1 cv_4_76 rfl hA.1 rfl rfl ⟨rfl, rfl, by decide, by decide⟩ (Nat.le_of_ble_eq_true rfl) w_s0 rfl) d_X4_most_76.2 (c_X4_has κ a hA x2 h_x2 s0) rfl (fun r14 s15 h_r14 w_s15 => ?_)
    refine q_if_eq d_X4_most_79 (inr_b h_r14) (fun c16 => ?_) (fun c16 => ?_)
    · refine q_iconst d_X4_most_88 ?_
      exact q_ireti d_X4_most_89 rfl (inr_d rfl) w_s15
    · refine q_sipush d_X4_most_82 rfl ?_
      refine q_goto d_X4_most_85 ?_
      exact q_ireti d_X4_most_89 rfl (inr_d rfl) w_s15
  refine q_tswD (tgt := 90) d_X4_most_1 h_x1 (by omega) (by decide) ?_
  refine q_iconst d_X4_most_90 ?_
  exact q_ireti d_X4_most_91 rfl (inr_d rfl) w_s0
abbrev R_X4_tell : Room := { frames := 2, cells := 0, slots := 0, locals := 44 }
noncomputable def f_X4_tell (a : Nat) (x1 : Int) (x2 : Int) (x3 : Int) (s0 : Mem) : Res :=
  if x3 < 0 then (some (0, s0)) else (bd (f_X4_most a x1 x2 s0) fun r2 s3 => if r2 < x3 then (some (0, s3)) else (if x1 = 0 then (lm (mup s3 a 11 x3) fun s6 => some (1, s6)) else (if x1 = 1 then (lm (mup s3 a 12 x3) fun s8 => some (1, s8)) else (if x1 = 2 then (lm (mup s3 a 10 x3) fun s10 => some (1, s10)) else (if x1 = 3 then (lm (mup s3 a 13 x3) fun s12 => some (1, s12)) else (if x1 = 4 then (gd ((0 : Int) ≤ x2 ∧ x2 < 16) (lm (mup s3 (a + 8) x2 x3) fun s15 => some (1, s15))) else (if x1 = 5 then (gd ((0 : Int) ≤ x2 ∧ x2 < 10) (lm (mup s3 (a + 4) x2 x3) fun s18 => some (1, s18))) else (gd ((0 : Int) ≤ x2 ∧ x2 < 10) (lm (mup s3 (a + 5) x2 x3) fun s20 => some (1, s20))))))))))
set_option maxHeartbeats 4000000 in
set_option maxRecDepth 10000 in
theorem c_X4_tell (κ : Kp) (a : Nat) (hA : At4 κ a) (x1 : Int) (h_x1 : InR x1) (x2 : Int) (h_x2 : InR x2) (x3 : Int) (h_x3 : InR x3) (s0 : Mem) : ∀ r σ', f_X4_tell a x1 x2 x3 s0 = some (r, σ') → Ct κ M_X4_tell R_X4_tell [vr κ a, vi x1, vi x2, vi x3] s0 r σ' := by
  intro r σ' ho
  refine Ct.of (by decide) (Nat.le_of_ble_eq_true rfl) (cat_ok rfl) (fun w_s0 => ?_) ⟨rfl, rfl⟩
  refine q_ent (ls' := [some (vr κ a), some (vi x1), some (vi x2), some (vi x3)]) (o := f_X4_tell a x1 x2 x3 s0) ⟨rfl, rfl, rfl, rfl, trivial⟩ ?_ ho
  unfold f_X4_tell
  refine q_iload_n (x := x3) d_X4_tell_0 rfl ?_
  refine q_if_lt d_X4_tell_1 h_x3 (fun c1 => ?_) (fun c1 => ?_)
  · refine q_iconst d_X4_tell_14 ?_
    exact q_iretz d_X4_tell_15 rfl (Or.inl rfl) w_s0
  · refine q_iload_n (x := x3) d_X4_tell_4 rfl ?_
    refine q_aload_n d_X4_tell_5 rfl ?_
    refine q_iload_n (x := x1) d_X4_tell_6 rfl ?_
    refine q_iload_n (x := x2) d_X4_tell_7 rfl ?_
    refine q_callI (R' := R_X4_most) (runV (As := [vi x1, vi x2]) (rest := [vi x3]) d_X4_tell_8.1 cv_4_72 rfl hA.1 rfl rfl ⟨rfl, rfl, by decide, by decide⟩ (Nat.le_of_ble_eq_true rfl) w_s0 rfl) d_X4_tell_8.2 (c_X4_most κ a hA x1 h_x1 x2 h_x2 s0) rfl (fun r2 s3 h_r2 w_s3 => ?_)
    refine q_icmp_le d_X4_tell_11 h_x3 h_r2 (fun c4 => ?_) (fun c4 => ?_)
    · refine q_iconst d_X4_tell_14 ?_
      exact q_iretz d_X4_tell_15 rfl (Or.inl rfl) w_s3
    · refine q_iload_n (x := x1) d_X4_tell_16 rfl ?_
      refine q_ite (fun c5 => ?_) (fun c5 => ?_)
      · refine q_tswC (tgt := 56) d_X4_tell_17 h_x1 c5 (by decide) (by decide) rfl (by decide) ?_
        refine q_aload_n d_X4_tell_56 rfl ?_
        refine q_iload_n (x := x3) d_X4_tell_57 rfl ?_
        refine q_putI (k := 11) (j := 11) d_X4_tell_58 hA.1 fp_4_36 rfl rfl h_x3 w_s3 (fun s6 w_s6 => ?_)
        refine q_goto d_X4_tell_61 ?_
        refine q_iconst d_X4_tell_115 ?_
        exact q_iretz d_X4_tell_116 rfl (Or.inr rfl) w_s6
      refine q_ite (fun c7 => ?_) (fun c7 => ?_)
      · refine q_tswC (tgt := 64) d_X4_tell_17 h_x1 c7 (by decide) (by decide) rfl (by decide) ?_
        refine q_aload_n d_X4_tell_64 rfl ?_
        refine q_iload_n (x := x3) d_X4_tell_65 rfl ?_
        refine q_putI (k := 12) (j := 12) d_X4_tell_66 hA.1 fp_4_40 rfl rfl h_x3 w_s3 (fun s8 w_s8 => ?_)
        refine q_goto d_X4_tell_69 ?_
        refine q_iconst d_X4_tell_115 ?_
        exact q_iretz d_X4_tell_116 rfl (Or.inr rfl) w_s8
      refine q_ite (fun c9 => ?_) (fun c9 => ?_)
      · refine q_tswC (tgt := 72) d_X4_tell_17 h_x1 c9 (by decide) (by decide) rfl (by decide) ?_
        refine q_aload_n d_X4_tell_72 rfl ?_
        refine q_iload_n (x := x3) d_X4_tell_73 rfl ?_
        refine q_putI (k := 10) (j := 10) d_X4_tell_74 hA.1 fp_4_53 rfl rfl h_x3 w_s3 (fun s10 w_s10 => ?_)
        refine q_goto d_X4_tell_77 ?_
        refine q_iconst d_X4_tell_115 ?_
        exact q_iretz d_X4_tell_116 rfl (Or.inr rfl) w_s10
      refine q_ite (fun c11 => ?_) (fun c11 => ?_)
      · refine q_tswC (tgt := 80) d_X4_tell_17 h_x1 c11 (by decide) (by decide) rfl (by decide) ?_
        refine q_aload_n d_X4_tell_80 rfl ?_
        refine q_iload_n (x := x3) d_X4_tell_81 rfl ?_
        refine q_putI (k := 13) (j := 13) d_X4_tell_82 hA.1 fp_4_56 rfl rfl h_x3 w_s3 (fun s12 w_s12 => ?_)
        refine q_goto d_X4_tell_85 ?_
        refine q_iconst d_X4_tell_115 ?_
        exact q_iretz d_X4_tell_116 rfl (Or.inr rfl) w_s12
      refine q_ite (fun c13 => ?_) (fun c13 => ?_)
      · refine q_tswC (tgt := 88) d_X4_tell_17 h_x1 c13 (by decide) (by decide) rfl (by decide) ?_
        refine q_aload_n d_X4_tell_88 rfl ?_
        refine q_getR (n := 8) d_X4_tell_89 hA.1 fi_4_33 rfl (Nat.le_of_ble_eq_true rfl) ?_
        refine q_iload_n (x := x2) d_X4_tell_92 rfl ?_
        refine q_iload_n (x := x3) d_X4_tell_93 rfl ?_
        refine q_iastore (m := 16) d_X4_tell_94 hA.2.2.2.2.2.2.2.2 (by decide) rfl h_x3 w_s3 (fun g14 s15 w_s15 => ?_)
        refine q_goto d_X4_tell_95 ?_
        refine q_iconst d_X4_tell_115 ?_
        exact q_iretz d_X4_tell_116 rfl (Or.inr rfl) w_s15
      refine q_ite (fun c16 => ?_) (fun c16 => ?_)
      · refine q_tswC (tgt := 98) d_X4_tell_17 h_x1 c16 (by decide) (by decide) rfl (by decide) ?_
        refine q_aload_n d_X4_tell_98 rfl ?_
        refine q_getR (n := 4) d_X4_tell_99 hA.1 fi_4_21 rfl (Nat.le_of_ble_eq_true rfl) ?_
        refine q_iload_n (x := x2) d_X4_tell_102 rfl ?_
        refine q_iload_n (x := x3) d_X4_tell_103 rfl ?_
        refine q_iastore (m := 10) d_X4_tell_104 hA.2.2.2.2.1 (by decide) rfl h_x3 w_s3 (fun g17 s18 w_s18 => ?_)
        refine q_goto d_X4_tell_105 ?_
        refine q_iconst d_X4_tell_115 ?_
        exact q_iretz d_X4_tell_116 rfl (Or.inr rfl) w_s18
      refine q_tswD (tgt := 108) d_X4_tell_17 h_x1 (by omega) (by decide) ?_
      refine q_aload_n d_X4_tell_108 rfl ?_
      refine q_getR (n := 5) d_X4_tell_109 hA.1 fi_4_24 rfl (Nat.le_of_ble_eq_true rfl) ?_
      refine q_iload_n (x := x2) d_X4_tell_112 rfl ?_
      refine q_iload_n (x := x3) d_X4_tell_113 rfl ?_
      refine q_iastore (m := 10) d_X4_tell_114 hA.2.2.2.2.2.1 (by decide) rfl h_x3 w_s3 (fun g19 s20 w_s20 => ?_)
      refine q_iconst d_X4_tell_115 ?_
      exact q_iretz d_X4_tell_116 rfl (Or.inr rfl) w_s20
abbrev R_X4_afloat : Room := { frames := 1, cells := 0, slots := 0, locals := 21 }
noncomputable def f_X4_afloat (a : Nat) (x1 : Int) (s0 : Mem) : Res :=
  bd (f_X4_has a x1 s0) fun r1 s2 => if r1 = 0 then (some (0, s2)) else (gd ((0 : Int) ≤ x1 ∧ x1 < 10) (if s2 (a + 7) x1 = 0 then (some (1, s2)) else (some (0, s2))))
set_option maxHeartbeats 4000000 in
set_option maxRecDepth 10000 in
theorem c_X4_afloat (κ : Kp) (a : Nat) (hA : At4 κ a) (x1 : Int) (h_x1 : InR x1) (s0 : Mem) : ∀ r σ', f_X4_afloat a x1 s0 = some (r, σ') → Ct κ M_X4_afloat R_X4_afloat [vr κ a, vi x1] s0 r σ' := by
  intro r σ' ho
  refine Ct.of (by decide) (Nat.le_of_ble_eq_true rfl) (cat_ok rfl) (fun w_s0 => ?_) ⟨rfl, rfl⟩
  refine q_ent (ls' := [some (vr κ a), some (vi x1)]) (o := f_X4_afloat a x1 s0) ⟨rfl, rfl, trivial⟩ ?_ ho
  unfold f_X4_afloat
  refine q_aload_n d_X4_afloat_0 rfl ?_
  refine q_iload_n (x := x1) d_X4_afloat_1 rfl ?_
  refine q_callZ (R' := R_X4_has) (runV (As := [vi x1]) (rest := []) d_X4_afloat_2.1 cv_4_76 rfl hA.1 rfl rfl ⟨rfl, rfl, by decide, by decide⟩ (Nat.le_of_ble_eq_true rfl) w_s0 rfl) d_X4_afloat_2.2 (c_X4_has κ a hA x1 h_x1 s0) rfl (fun r1 s2 h_r1 w_s2 => ?_)
  refine q_if_eq d_X4_afloat_5 (inr_b h_r1) (fun c3 => ?_) (fun c3 => ?_)
  · refine q_iconst d_X4_afloat_21 ?_
    exact q_iretz d_X4_afloat_22 rfl (Or.inl rfl) w_s2
  · refine q_aload_n d_X4_afloat_8 rfl ?_
    refine q_getR (n := 7) d_X4_afloat_9 hA.1 fi_4_30 rfl (Nat.le_of_ble_eq_true rfl) ?_
    refine q_iload_n (x := x1) d_X4_afloat_12 rfl ?_
    refine q_iaload (m := 10) d_X4_afloat_13 hA.2.2.2.2.2.2.2.1 (by decide) rfl (fun g4 => ?_)
    refine q_if_ne d_X4_afloat_14 (w_s2 _ _) (fun c5 => ?_) (fun c5 => ?_)
    · refine q_iconst d_X4_afloat_17 ?_
      refine q_goto d_X4_afloat_18 ?_
      exact q_iretz d_X4_afloat_22 rfl (Or.inr rfl) w_s2
    · refine q_iconst d_X4_afloat_21 ?_
      exact q_iretz d_X4_afloat_22 rfl (Or.inl rfl) w_s2
abbrev R_X4_stickIn : Room := { frames := 1, cells := 0, slots := 0, locals := 30 }
noncomputable def f_X4_stickIn (a : Nat) (x1 : Int) (x2 : Int) (s0 : Mem) : Res :=
  gd ((0 : Int) ≤ x1 ∧ x1 < 10) (jn (fun (y2 : Int) => gd ((0 : Int) ≤ x1 ∧ x1 < 10) (if s0 (a + 6) x1 = 0 then (gd ((0 : Int) ≤ x1 ∧ x1 < 10) (lm (mup s0 (a + 5) x1 (wr (y2 + (mmn x2 (wr (999 - y2)))))) fun s6 => some (mmn x2 (wr (999 - y2)), s6))) else (gd ((0 : Int) ≤ x1 ∧ x1 < 10) (lm (mup s0 (a + 4) x1 (wr (y2 + (mmn x2 (wr (999 - y2)))))) fun s8 => some (mmn x2 (wr (999 - y2)), s8))))) fun j24 => if s0 (a + 6) x1 = 0 then (gd ((0 : Int) ≤ x1 ∧ x1 < 10) (j24 (s0 (a + 5) x1))) else (gd ((0 : Int) ≤ x1 ∧ x1 < 10) (j24 (s0 (a + 4) x1))))
set_option maxHeartbeats 4000000 in
set_option maxRecDepth 10000 in
theorem c_X4_stickIn (κ : Kp) (a : Nat) (hA : At4 κ a) (x1 : Int) (h_x1 : InR x1) (x2 : Int) (h_x2 : InR x2) (s0 : Mem) : ∀ r σ', f_X4_stickIn a x1 x2 s0 = some (r, σ') → Ct κ M_X4_stickIn R_X4_stickIn [vr κ a, vi x1, vi x2] s0 r σ' := by
  intro r σ' ho
  refine Ct.of (by decide) (Nat.le_of_ble_eq_true rfl) (cat_ok rfl) (fun w_s0 => ?_) ⟨rfl, rfl⟩
  refine q_ent (ls' := [some (vr κ a), some (vi x1), some (vi x2), none, none]) (o := f_X4_stickIn a x1 x2 s0) ⟨rfl, rfl, rfl, trivial⟩ ?_ ho
  unfold f_X4_stickIn
  refine q_aload_n d_X4_stickIn_0 rfl ?_
  refine q_getR (n := 6) d_X4_stickIn_1 hA.1 fi_4_27 rfl (Nat.le_of_ble_eq_true rfl) ?_
  refine q_iload_n (x := x1) d_X4_stickIn_4 rfl ?_
  refine q_iaload (m := 10) d_X4_stickIn_5 hA.2.2.2.2.2.2.1 (by decide) rfl (fun g1 => ?_)
  refine q_jn (α := Int → Res) (fun j24 => ∀ (y2 : Int) (h_y2 : InR y2), EO κ M_X4_stickIn R_X4_stickIn 24 [some (vr κ a), some (vi x1), some (vi x2), none, none] [vi y2] s0 (j24 y2)) ?_ (fun j24 hj24 => ?_)
  · intro y2 h_y2
    refine q_istore_n d_X4_stickIn_24 rfl ?_
    refine q_iload_n (x := x2) d_X4_stickIn_25 rfl ?_
    refine q_sipush d_X4_stickIn_26 rfl ?_
    refine q_iload_n (x := y2) d_X4_stickIn_29 rfl ?_
    refine q_isub d_X4_stickIn_30 ?_
    refine q_mmin d_X4_stickIn_31 cv_4_80 mw_min ⟨by decide, Nat.le_of_ble_eq_true rfl⟩ h_x2 (inr_wr _) ?_
    refine q_istore d_X4_stickIn_34 rfl ?_
    refine q_aload_n d_X4_stickIn_36 rfl ?_
    refine q_getR (n := 6) d_X4_stickIn_37 hA.1 fi_4_27 rfl (Nat.le_of_ble_eq_true rfl) ?_
    refine q_iload_n (x := x1) d_X4_stickIn_40 rfl ?_
    refine q_iaload (m := 10) d_X4_stickIn_41 hA.2.2.2.2.2.2.1 (by decide) rfl (fun g3 => ?_)
    refine q_if_ne d_X4_stickIn_42 (w_s0 _ _) (fun c4 => ?_) (fun c4 => ?_)
    · refine q_aload_n d_X4_stickIn_45 rfl ?_
      refine q_getR (n := 5) d_X4_stickIn_46 hA.1 fi_4_24 rfl (Nat.le_of_ble_eq_true rfl) ?_
      refine q_iload_n (x := x1) d_X4_stickIn_49 rfl ?_
      refine q_iload_n (x := y2) d_X4_stickIn_50 rfl ?_
      refine q_iload (x := mmn x2 (wr (999 - y2))) d_X4_stickIn_51 rfl ?_
      refine q_iadd d_X4_stickIn_53 ?_
      refine q_iastore (m := 10) d_X4_stickIn_54 hA.2.2.2.2.2.1 (by decide) rfl (inr_wr _) w_s0 (fun g5 s6 w_s6 => ?_)
      refine q_goto d_X4_stickIn_55 ?_
      refine q_iload (x := mmn x2 (wr (999 - y2))) d_X4_stickIn_68 rfl ?_
      exact q_ireti d_X4_stickIn_70 rfl (inr_mmn h_x2 (inr_wr _)) w_s6
    · refine q_aload_n d_X4_stickIn_58 rfl ?_
      refine q_getR (n := 4) d_X4_stickIn_59 hA.1 fi_4_21 rfl (Nat.le_of_ble_eq_true rfl) ?_
      refine q_iload_n (x := x1) d_X4_stickIn_62 rfl ?_
      refine q_iload_n (x := y2) d_X4_stickIn_63 rfl ?_
      refine q_iload (x := mmn x2 (wr (999 - y2))) d_X4_stickIn_64 rfl ?_
      refine q_iadd d_X4_stickIn_66 ?_
      refine q_iastore (m := 10) d_X4_stickIn_67 hA.2.2.2.2.1 (by decide) rfl (inr_wr _) w_s0 (fun g7 s8 w_s8 => ?_)
      refine q_iload (x := mmn x2 (wr (999 - y2))) d_X4_stickIn_68 rfl ?_
      exact q_ireti d_X4_stickIn_70 rfl (inr_mmn h_x2 (inr_wr _)) w_s8
  refine q_if_ne d_X4_stickIn_6 (w_s0 _ _) (fun c9 => ?_) (fun c9 => ?_)
  · refine q_aload_n d_X4_stickIn_9 rfl ?_
    refine q_getR (n := 5) d_X4_stickIn_10 hA.1 fi_4_24 rfl (Nat.le_of_ble_eq_true rfl) ?_
    refine q_iload_n (x := x1) d_X4_stickIn_13 rfl ?_
    refine q_iaload (m := 10) d_X4_stickIn_14 hA.2.2.2.2.2.1 (by decide) rfl (fun g10 => ?_)
    refine q_goto d_X4_stickIn_15 ?_
    refine q_sub (ls' := [some (vr κ a), some (vi x1), some (vi x2), none, none]) ⟨rfl, rfl, rfl, trivial⟩ ?_
    exact hj24 (s0 (a + 5) x1) (w_s0 _ _)
  · refine q_aload_n d_X4_stickIn_18 rfl ?_
    refine q_getR (n := 4) d_X4_stickIn_19 hA.1 fi_4_21 rfl (Nat.le_of_ble_eq_true rfl) ?_
    refine q_iload_n (x := x1) d_X4_stickIn_22 rfl ?_
    refine q_iaload (m := 10) d_X4_stickIn_23 hA.2.2.2.2.1 (by decide) rfl (fun g11 => ?_)
    refine q_sub (ls' := [some (vr κ a), some (vi x1), some (vi x2), none, none]) ⟨rfl, rfl, rfl, trivial⟩ ?_
    exact hj24 (s0 (a + 4) x1) (w_s0 _ _)
abbrev R_X4_takeOff : Room := { frames := 1, cells := 0, slots := 0, locals := 21 }
noncomputable def f_X4_takeOff (a : Nat) (x1 : Int) (s0 : Mem) : Res :=
  bd (f_X4_stuckIn a x1 s0) fun r1 s2 => gd ((0 : Int) ≤ x1 ∧ x1 < 10) (lm (mup s2 (a + 4) x1 0) fun s4 => gd ((0 : Int) ≤ x1 ∧ x1 < 10) (lm (mup s4 (a + 5) x1 0) fun s6 => some (r1, s6)))
set_option maxHeartbeats 4000000 in
set_option maxRecDepth 10000 in
theorem c_X4_takeOff (κ : Kp) (a : Nat) (hA : At4 κ a) (x1 : Int) (h_x1 : InR x1) (s0 : Mem) : ∀ r σ', f_X4_takeOff a x1 s0 = some (r, σ') → Ct κ M_X4_takeOff R_X4_takeOff [vr κ a, vi x1] s0 r σ' := by
  intro r σ' ho
  refine Ct.of (by decide) (Nat.le_of_ble_eq_true rfl) (cat_ok rfl) (fun w_s0 => ?_) ⟨rfl, rfl⟩
  refine q_ent (ls' := [some (vr κ a), some (vi x1), none]) (o := f_X4_takeOff a x1 s0) ⟨rfl, rfl, trivial⟩ ?_ ho
  unfold f_X4_takeOff
  refine q_aload_n d_X4_takeOff_0 rfl ?_
  refine q_iload_n (x := x1) d_X4_takeOff_1 rfl ?_
  refine q_callI (R' := R_X4_stuckIn) (runV (As := [vi x1]) (rest := []) d_X4_takeOff_2.1 cv_4_85 rfl hA.1 rfl rfl ⟨rfl, rfl, by decide, by decide⟩ (Nat.le_of_ble_eq_true rfl) w_s0 rfl) d_X4_takeOff_2.2 (c_X4_stuckIn κ a hA x1 h_x1 s0) rfl (fun r1 s2 h_r1 w_s2 => ?_)
  refine q_istore_n d_X4_takeOff_5 rfl ?_
  refine q_aload_n d_X4_takeOff_6 rfl ?_
  refine q_getR (n := 4) d_X4_takeOff_7 hA.1 fi_4_21 rfl (Nat.le_of_ble_eq_true rfl) ?_
  refine q_iload_n (x := x1) d_X4_takeOff_10 rfl ?_
  refine q_iconst d_X4_takeOff_11 ?_
  refine q_iastore (m := 10) d_X4_takeOff_12 hA.2.2.2.2.1 (by decide) rfl (inr_b (Or.inl rfl)) w_s2 (fun g3 s4 w_s4 => ?_)
  refine q_aload_n d_X4_takeOff_13 rfl ?_
  refine q_getR (n := 5) d_X4_takeOff_14 hA.1 fi_4_24 rfl (Nat.le_of_ble_eq_true rfl) ?_
  refine q_iload_n (x := x1) d_X4_takeOff_17 rfl ?_
  refine q_iconst d_X4_takeOff_18 ?_
  refine q_iastore (m := 10) d_X4_takeOff_19 hA.2.2.2.2.2.1 (by decide) rfl (inr_b (Or.inl rfl)) w_s4 (fun g5 s6 w_s6 => ?_)
  refine q_iload_n (x := r1) d_X4_takeOff_20 rfl ?_
  exact q_ireti d_X4_takeOff_21 rfl h_r1 w_s6
abbrev R_X4_drift : Room := { frames := 2, cells := 0, slots := 0, locals := 42 }
noncomputable def f_X4_drift_2 (a : Nat) (p1 : Int) (k47 : Mem → Res) : Nat → Int → Mem → Res
  | 0, _, _ => none
  | n + 1, x2, s0 =>
    if x2 < s0 a 8 then (bd (f_X4_afloat a x2 s0) fun r3 s4 => jn (fun (s5 : Mem) => f_X4_drift_2 a p1 k47 n (wr (x2 + 1)) s5) fun j41 => if r3 = 0 then (j41 s4) else (gd ((0 : Int) ≤ x2 ∧ x2 < 10) (gd ((0 : Int) ≤ x2 ∧ x2 < 10) (lm (mup s4 (a + 3) x2 (mmx 0 (mmn 15 (wr ((s4 (a + 3) x2) + p1))))) fun s9 => j41 s9)))) else (k47 s0)
noncomputable def f_X4_drift (a : Nat) (x1 : Int) (s0 : Mem) : Res :=
  jn (fun (s1 : Mem) => some (0, s1)) fun j47 => f_X4_drift_2 a x1 j47 FU 0 s0
set_option maxHeartbeats 4000000 in
set_option maxRecDepth 10000 in
theorem l_X4_drift_2 (κ : Kp) (a : Nat) (hA : At4 κ a) (p1 : Int) (h_p1 : InR p1) (k47 : Mem → Res) (hk47 : ∀ (sz : Mem) (w_sz : WF sz), EO κ M_X4_drift R_X4_drift 47 [none, none, none] [] sz (k47 sz)) : ∀ (n : Nat) (x2 : Int) (h_x2 : InR x2) (s0 : Mem) (w_s0 : WF s0), EO κ M_X4_drift R_X4_drift 2 [some (vr κ a), some (vi p1), some (vi x2)] [] s0 (f_X4_drift_2 a p1 k47 n x2 s0) := by
  intro n
  induction n with
  | zero => exact fun _ _ _ _ => q_none
  | succ n ih =>
    intro x2 h_x2 s0 w_s0
    rw [f_X4_drift_2]
    refine q_iload_n (x := x2) d_X4_drift_2 rfl ?_
    refine q_aload_n d_X4_drift_3 rfl ?_
    refine q_getI (k := 8) (j := 8) d_X4_drift_4 hA.1 fi_4_47 rfl rfl ?_
    refine q_icmp_ge d_X4_drift_7 h_x2 (w_s0 _ _) (fun c2 => ?_) (fun c2 => ?_)
    · refine q_aload_n d_X4_drift_10 rfl ?_
      refine q_iload_n (x := x2) d_X4_drift_11 rfl ?_
      refine q_callZ (R' := R_X4_afloat) (runV (As := [vi x2]) (rest := []) d_X4_drift_12.1 cv_4_89 rfl hA.1 rfl rfl ⟨rfl, rfl, by decide, by decide⟩ (Nat.le_of_ble_eq_true rfl) w_s0 rfl) d_X4_drift_12.2 (c_X4_afloat κ a hA x2 h_x2 s0) rfl (fun r3 s4 h_r3 w_s4 => ?_)
      refine q_jn (α := Mem → Res) (fun j41 => ∀ (s5 : Mem) (w_s5 : WF s5), EO κ M_X4_drift R_X4_drift 41 [some (vr κ a), some (vi p1), some (vi x2)] [] s5 (j41 s5)) ?_ (fun j41 hj41 => ?_)
      · intro s5 w_s5
        refine q_iinc (x := x2) d_X4_drift_41 rfl rfl ?_
        refine q_goto d_X4_drift_44 ?_
        refine q_sub (ls' := [some (vr κ a), some (vi p1), some (vi (wr (x2 + 1)))]) ⟨rfl, rfl, rfl, trivial⟩ ?_
        exact ih (wr (x2 + 1)) (inr_wr _) s5 w_s5
      refine q_if_eq d_X4_drift_15 (inr_b h_r3) (fun c6 => ?_) (fun c6 => ?_)
      · refine q_sub (ls' := [some (vr κ a), some (vi p1), some (vi x2)]) ⟨rfl, rfl, rfl, trivial⟩ ?_
        exact hj41 s4 w_s4
      · refine q_aload_n d_X4_drift_18 rfl ?_
        refine q_getR (n := 3) d_X4_drift_19 hA.1 fi_4_18 rfl (Nat.le_of_ble_eq_true rfl) ?_
        refine q_iload_n (x := x2) d_X4_drift_22 rfl ?_
        refine q_iconst d_X4_drift_23 ?_
        refine q_bipush d_X4_drift_24 rfl ?_
        refine q_aload_n d_X4_drift_26 rfl ?_
        refine q_getR (n := 3) d_X4_drift_27 hA.1 fi_4_18 rfl (Nat.le_of_ble_eq_true rfl) ?_
        refine q_iload_n (x := x2) d_X4_drift_30 rfl ?_
        refine q_iaload (m := 10) d_X4_drift_31 hA.2.2.2.1 (by decide) rfl (fun g7 => ?_)
        refine q_iload_n (x := p1) d_X4_drift_32 rfl ?_
        refine q_iadd d_X4_drift_33 ?_
        refine q_mmin d_X4_drift_34 cv_4_80 mw_min ⟨by decide, Nat.le_of_ble_eq_true rfl⟩ (inr_d rfl) (inr_wr _) ?_
        refine q_mmax d_X4_drift_37 cv_4_92 mw_max ⟨by decide, Nat.le_of_ble_eq_true rfl⟩ (inr_b (Or.inl rfl)) (inr_mmn (inr_d rfl) (inr_wr _)) ?_
        refine q_iastore (m := 10) d_X4_drift_40 hA.2.2.2.1 (by decide) rfl (inr_mmx (inr_b (Or.inl rfl)) (inr_mmn (inr_d rfl) (inr_wr _))) w_s4 (fun g8 s9 w_s9 => ?_)
        refine q_sub (ls' := [some (vr κ a), some (vi p1), some (vi x2)]) ⟨rfl, rfl, rfl, trivial⟩ ?_
        exact hj41 s9 w_s9
    · refine q_sub (ls' := [none, none, none]) trivial ?_
      exact hk47 s0 w_s0
set_option maxHeartbeats 4000000 in
set_option maxRecDepth 10000 in
theorem c_X4_drift (κ : Kp) (a : Nat) (hA : At4 κ a) (x1 : Int) (h_x1 : InR x1) (s0 : Mem) : ∀ r σ', f_X4_drift a x1 s0 = some (r, σ') → Ct κ M_X4_drift R_X4_drift [vr κ a, vi x1] s0 r σ' := by
  intro r σ' ho
  refine Ct.of (by decide) (Nat.le_of_ble_eq_true rfl) (cat_ok rfl) (fun w_s0 => ?_) ⟨rfl, rfl⟩
  refine q_ent (ls' := [some (vr κ a), some (vi x1), none]) (o := f_X4_drift a x1 s0) ⟨rfl, rfl, trivial⟩ ?_ ho
  unfold f_X4_drift
  refine q_iconst d_X4_drift_0 ?_
  refine q_istore_n d_X4_drift_1 rfl ?_
  refine q_jn (α := Mem → Res) (fun j47 => ∀ (s1 : Mem) (w_s1 : WF s1), EO κ M_X4_drift R_X4_drift 47 [none, none, none] [] s1 (j47 s1)) ?_ (fun j47 hj47 => ?_)
  · intro s1 w_s1
    exact q_vret d_X4_drift_47 rfl w_s1
  refine q_sub (ls' := [some (vr κ a), some (vi x1), some (vi 0)]) ⟨rfl, rfl, rfl, trivial⟩ ?_
  exact l_X4_drift_2 κ a hA x1 h_x1 j47 hj47 FU 0 (inr_b (Or.inl rfl)) s0 w_s0
abbrev R_X4_draw : Room := { frames := 0, cells := 0, slots := 0, locals := 0 }
noncomputable def f_X4_draw (a : Nat) (x1 : Int) (s0 : Mem) : Res :=
  lm (mup s0 a 9 (wr ((wr ((s0 a 9) * 1664525)) + 1013904223))) fun s1 => if x1 < 1 then (some (0, s1)) else (gd (x1 ≠ 0) (some (Int.tmod (iushr (s1 a 9) 8) x1, s1)))
set_option maxHeartbeats 4000000 in
set_option maxRecDepth 10000 in
theorem c_X4_draw (κ : Kp) (a : Nat) (hA : At4 κ a) (x1 : Int) (h_x1 : InR x1) (s0 : Mem) : ∀ r σ', f_X4_draw a x1 s0 = some (r, σ') → Ct κ M_X4_draw R_X4_draw [vr κ a, vi x1] s0 r σ' := by
  intro r σ' ho
  refine Ct.of (by decide) (Nat.le_of_ble_eq_true rfl) (cat_ok rfl) (fun w_s0 => ?_) ⟨rfl, rfl⟩
  refine q_ent (ls' := [some (vr κ a), some (vi x1)]) (o := f_X4_draw a x1 s0) ⟨rfl, rfl, trivial⟩ ?_ ho
  unfold f_X4_draw
  refine q_aload_n d_X4_draw_0 rfl ?_
  refine q_aload_n d_X4_draw_1 rfl ?_
  refine q_getI (k := 9) (j := 9) d_X4_draw_2 hA.1 fi_4_50 rfl rfl ?_
  refine q_ldc (n := 1664525) d_X4_draw_5 ck_4_95 rfl ?_
  refine q_imul d_X4_draw_7 ?_
  refine q_ldc (n := 1013904223) d_X4_draw_8 ck_4_96 rfl ?_
  refine q_iadd d_X4_draw_10 ?_
  refine q_putI (k := 9) (j := 9) d_X4_draw_11 hA.1 fp_4_50 rfl rfl (inr_wr _) w_s0 (fun s1 w_s1 => ?_)
  refine q_iload_n (x := x1) d_X4_draw_14 rfl ?_
  refine q_iconst d_X4_draw_15 ?_
  refine q_icmp_ge d_X4_draw_16 h_x1 (inr_b (Or.inr rfl)) (fun c2 => ?_) (fun c2 => ?_)
  · refine q_iconst d_X4_draw_19 ?_
    refine q_goto d_X4_draw_20 ?_
    exact q_ireti d_X4_draw_32 rfl (inr_b (Or.inl rfl)) w_s1
  · refine q_aload_n d_X4_draw_23 rfl ?_
    refine q_getI (k := 9) (j := 9) d_X4_draw_24 hA.1 fi_4_50 rfl rfl ?_
    refine q_bipush d_X4_draw_27 rfl ?_
    refine q_iushr d_X4_draw_29 ?_
    refine q_iload_n (x := x1) d_X4_draw_30 rfl ?_
    refine q_irem d_X4_draw_31 (inr_i32 _) h_x1 (fun g3 => ?_)
    exact q_ireti d_X4_draw_32 rfl (inr_tmod (inr_i32 _) h_x1) w_s1
abbrev R_X4_burns : Room := { frames := 1, cells := 0, slots := 0, locals := 21 }
noncomputable def f_X4_burns (a : Nat) (s0 : Mem) : Res :=
  if 0 < s0 a 13 then (if s0 a 10 < 50 then (some (0, s0)) else (bd (f_X4_draw a 1000 s0) fun r3 s4 => if r3 < s4 a 13 then (some (1, s4)) else (some (0, s4)))) else (some (0, s0))
set_option maxHeartbeats 4000000 in
set_option maxRecDepth 10000 in
theorem c_X4_burns (κ : Kp) (a : Nat) (hA : At4 κ a) (s0 : Mem) : ∀ r σ', f_X4_burns a s0 = some (r, σ') → Ct κ M_X4_burns R_X4_burns [vr κ a] s0 r σ' := by
  intro r σ' ho
  refine Ct.of (by decide) (Nat.le_of_ble_eq_true rfl) (cat_ok rfl) (fun w_s0 => ?_) ⟨rfl, rfl⟩
  refine q_ent (ls' := [some (vr κ a)]) (o := f_X4_burns a s0) ⟨rfl, trivial⟩ ?_ ho
  unfold f_X4_burns
  refine q_aload_n d_X4_burns_0 rfl ?_
  refine q_getI (k := 13) (j := 13) d_X4_burns_1 hA.1 fi_4_56 rfl rfl ?_
  refine q_if_le d_X4_burns_4 (w_s0 _ _) (fun c1 => ?_) (fun c1 => ?_)
  · refine q_aload_n d_X4_burns_7 rfl ?_
    refine q_getI (k := 10) (j := 10) d_X4_burns_8 hA.1 fi_4_53 rfl rfl ?_
    refine q_bipush d_X4_burns_11 rfl ?_
    refine q_icmp_lt d_X4_burns_13 (w_s0 _ _) (inr_d rfl) (fun c2 => ?_) (fun c2 => ?_)
    · refine q_iconst d_X4_burns_34 ?_
      exact q_iretz d_X4_burns_35 rfl (Or.inl rfl) w_s0
    · refine q_aload_n d_X4_burns_16 rfl ?_
      refine q_sipush d_X4_burns_17 rfl ?_
      refine q_callI (R' := R_X4_draw) (runV (As := [vi 1000]) (rest := []) d_X4_burns_20.1 cv_4_97 rfl hA.1 rfl rfl ⟨rfl, rfl, by decide, by decide⟩ (Nat.le_of_ble_eq_true rfl) w_s0 rfl) d_X4_burns_20.2 (c_X4_draw κ a hA 1000 (inr_d rfl) s0) rfl (fun r3 s4 h_r3 w_s4 => ?_)
      refine q_aload_n d_X4_burns_23 rfl ?_
      refine q_getI (k := 13) (j := 13) d_X4_burns_24 hA.1 fi_4_56 rfl rfl ?_
      refine q_icmp_ge d_X4_burns_27 h_r3 (w_s4 _ _) (fun c5 => ?_) (fun c5 => ?_)
      · refine q_iconst d_X4_burns_30 ?_
        refine q_goto d_X4_burns_31 ?_
        exact q_iretz d_X4_burns_35 rfl (Or.inr rfl) w_s4
      · refine q_iconst d_X4_burns_34 ?_
        exact q_iretz d_X4_burns_35 rfl (Or.inl rfl) w_s4
  · refine q_iconst d_X4_burns_34 ?_
    exact q_iretz d_X4_burns_35 rfl (Or.inl rfl) w_s0
abbrev R_X4_fogMoves : Room := { frames := 1, cells := 0, slots := 0, locals := 30 }
noncomputable def f_X4_fogMoves (a : Nat) (s0 : Mem) : Res :=
  bd (f_X4_draw a 4 s0) fun r1 s2 => if r1 = 0 then (lm (mup s2 a 11 (mmx 0 (wr ((s2 a 11) - 1)))) fun s4 => some (0, s4)) else (if r1 = 1 then (lm (mup s2 a 11 (mmn 9 (wr ((s2 a 11) + 1)))) fun s6 => some (0, s6)) else (some (0, s2)))
set_option maxHeartbeats 4000000 in
set_option maxRecDepth 10000 in
theorem c_X4_fogMoves (κ : Kp) (a : Nat) (hA : At4 κ a) (s0 : Mem) : ∀ r σ', f_X4_fogMoves a s0 = some (r, σ') → Ct κ M_X4_fogMoves R_X4_fogMoves [vr κ a] s0 r σ' := by
  intro r σ' ho
  refine Ct.of (by decide) (Nat.le_of_ble_eq_true rfl) (cat_ok rfl) (fun w_s0 => ?_) ⟨rfl, rfl⟩
  refine q_ent (ls' := [some (vr κ a), none]) (o := f_X4_fogMoves a s0) ⟨rfl, trivial⟩ ?_ ho
  unfold f_X4_fogMoves
  refine q_aload_n d_X4_fogMoves_0 rfl ?_
  refine q_iconst d_X4_fogMoves_1 ?_
  refine q_callI (R' := R_X4_draw) (runV (As := [vi 4]) (rest := []) d_X4_fogMoves_2.1 cv_4_97 rfl hA.1 rfl rfl ⟨rfl, rfl, by decide, by decide⟩ (Nat.le_of_ble_eq_true rfl) w_s0 rfl) d_X4_fogMoves_2.2 (c_X4_draw κ a hA 4 (inr_d rfl) s0) rfl (fun r1 s2 h_r1 w_s2 => ?_)
  refine q_istore_n d_X4_fogMoves_5 rfl ?_
  refine q_iload_n (x := r1) d_X4_fogMoves_6 rfl ?_
  refine q_if_ne d_X4_fogMoves_7 h_r1 (fun c3 => ?_) (fun c3 => ?_)
  · refine q_aload_n d_X4_fogMoves_10 rfl ?_
    refine q_iconst d_X4_fogMoves_11 ?_
    refine q_aload_n d_X4_fogMoves_12 rfl ?_
    refine q_getI (k := 11) (j := 11) d_X4_fogMoves_13 hA.1 fi_4_36 rfl rfl ?_
    refine q_iconst d_X4_fogMoves_16 ?_
    refine q_isub d_X4_fogMoves_17 ?_
    refine q_mmax d_X4_fogMoves_18 cv_4_92 mw_max ⟨by decide, Nat.le_of_ble_eq_true rfl⟩ (inr_b (Or.inl rfl)) (inr_wr _) ?_
    refine q_putI (k := 11) (j := 11) d_X4_fogMoves_21 hA.1 fp_4_36 rfl rfl (inr_mmx (inr_b (Or.inl rfl)) (inr_wr _)) w_s2 (fun s4 w_s4 => ?_)
    refine q_goto d_X4_fogMoves_24 ?_
    exact q_vret d_X4_fogMoves_47 rfl w_s4
  · refine q_iload_n (x := r1) d_X4_fogMoves_27 rfl ?_
    refine q_iconst d_X4_fogMoves_28 ?_
    refine q_icmp_ne d_X4_fogMoves_29 h_r1 (inr_b (Or.inr rfl)) (fun c5 => ?_) (fun c5 => ?_)
    · refine q_aload_n d_X4_fogMoves_32 rfl ?_
      refine q_bipush d_X4_fogMoves_33 rfl ?_
      refine q_aload_n d_X4_fogMoves_35 rfl ?_
      refine q_getI (k := 11) (j := 11) d_X4_fogMoves_36 hA.1 fi_4_36 rfl rfl ?_
      refine q_iconst d_X4_fogMoves_39 ?_
      refine q_iadd d_X4_fogMoves_40 ?_
      refine q_mmin d_X4_fogMoves_41 cv_4_80 mw_min ⟨by decide, Nat.le_of_ble_eq_true rfl⟩ (inr_d rfl) (inr_wr _) ?_
      refine q_putI (k := 11) (j := 11) d_X4_fogMoves_44 hA.1 fp_4_36 rfl rfl (inr_mmn (inr_d rfl) (inr_wr _)) w_s2 (fun s6 w_s6 => ?_)
      exact q_vret d_X4_fogMoves_47 rfl w_s6
    · exact q_vret d_X4_fogMoves_47 rfl w_s2
abbrev R_X4_allLost : Room := { frames := 2, cells := 0, slots := 0, locals := 42 }
noncomputable def f_X4_allLost_4 (a : Nat) (k32 : Int → Mem → Res) : Nat → Int → Int → Mem → Res
  | 0, _, _, _ => none
  | n + 1, x1, x2, s0 =>
    if x2 < s0 a 8 then (bd (f_X4_afloat a x2 s0) fun r4 s5 => jn (fun (v6 : Int) => f_X4_allLost_4 a k32 n v6 (wr (x2 + 1)) s5) fun j26 => if r4 = 0 then (j26 (ior x1 (ishl 1 x2))) else (j26 x1)) else (k32 x1 s0)
noncomputable def f_X4_allLost (a : Nat) (s0 : Mem) : Res :=
  jn (fun (v1 : Int) (s2 : Mem) => some (v1, s2)) fun j32 => f_X4_allLost_4 a j32 FU 0 0 s0
set_option maxHeartbeats 4000000 in
set_option maxRecDepth 10000 in
theorem l_X4_allLost_4 (κ : Kp) (a : Nat) (hA : At4 κ a) (k32 : Int → Mem → Res) (hk32 : ∀ (z1 : Int) (h_z1 : InR z1) (sz : Mem) (w_sz : WF sz), EO κ M_X4_allLost R_X4_allLost 32 [none, some (vi z1), none] [] sz (k32 z1 sz)) : ∀ (n : Nat) (x1 : Int) (h_x1 : InR x1) (x2 : Int) (h_x2 : InR x2) (s0 : Mem) (w_s0 : WF s0), EO κ M_X4_allLost R_X4_allLost 4 [some (vr κ a), some (vi x1), some (vi x2)] [] s0 (f_X4_allLost_4 a k32 n x1 x2 s0) := by
  intro n
  induction n with
  | zero => exact fun _ _ _ _ _ _ => q_none
  | succ n ih =>
    intro x1 h_x1 x2 h_x2 s0 w_s0
    rw [f_X4_allLost_4]
    refine q_iload_n (x := x2) d_X4_allLost_4 rfl ?_
    refine q_aload_n d_X4_allLost_5 rfl ?_
    refine q_getI (k := 8) (j := 8) d_X4_allLost_6 hA.1 fi_4_47 rfl rfl ?_
    refine q_icmp_ge d_X4_allLost_9 h_x2 (w_s0 _ _) (fun c3 => ?_) (fun c3 => ?_)
    · refine q_aload_n d_X4_allLost_12 rfl ?_
      refine q_iload_n (x := x2) d_X4_allLost_13 rfl ?_
      refine q_callZ (R' := R_X4_afloat) (runV (As := [vi x2]) (rest := []) d_X4_allLost_14.1 cv_4_89 rfl hA.1 rfl rfl ⟨rfl, rfl, by decide, by decide⟩ (Nat.le_of_ble_eq_true rfl) w_s0 rfl) d_X4_allLost_14.2 (c_X4_afloat κ a hA x2 h_x2 s0) rfl (fun r4 s5 h_r4 w_s5 => ?_)
      refine q_jn (α := Int → Res) (fun j26 => ∀ (v6 : Int) (h_v6 : InR v6), EO κ M_X4_allLost R_X4_allLost 26 [some (vr κ a), some (vi v6), some (vi x2)] [] s5 (j26 v6)) ?_ (fun j26 hj26 => ?_)
      · intro v6 h_v6
        refine q_iinc (x := x2) d_X4_allLost_26 rfl rfl ?_
        refine q_goto d_X4_allLost_29 ?_
        refine q_sub (ls' := [some (vr κ a), some (vi v6), some (vi (wr (x2 + 1)))]) ⟨rfl, rfl, rfl, trivial⟩ ?_
        exact ih v6 h_v6 (wr (x2 + 1)) (inr_wr _) s5 w_s5
      refine q_if_ne d_X4_allLost_17 (inr_b h_r4) (fun c7 => ?_) (fun c7 => ?_)
      · refine q_iload_n (x := x1) d_X4_allLost_20 rfl ?_
        refine q_iconst d_X4_allLost_21 ?_
        refine q_iload_n (x := x2) d_X4_allLost_22 rfl ?_
        refine q_ishl d_X4_allLost_23 ?_
        refine q_ior d_X4_allLost_24 ?_
        refine q_istore_n d_X4_allLost_25 rfl ?_
        refine q_sub (ls' := [some (vr κ a), some (vi (ior x1 (ishl 1 x2))), some (vi x2)]) ⟨rfl, rfl, rfl, trivial⟩ ?_
        exact hj26 (ior x1 (ishl 1 x2)) (inr_i32 _)
      · refine q_sub (ls' := [some (vr κ a), some (vi x1), some (vi x2)]) ⟨rfl, rfl, rfl, trivial⟩ ?_
        exact hj26 x1 h_x1
    · refine q_sub (ls' := [none, some (vi x1), none]) ⟨rfl, trivial⟩ ?_
      exact hk32 x1 h_x1 s0 w_s0
set_option maxHeartbeats 4000000 in
set_option maxRecDepth 10000 in
theorem c_X4_allLost (κ : Kp) (a : Nat) (hA : At4 κ a) (s0 : Mem) : ∀ r σ', f_X4_allLost a s0 = some (r, σ') → Ct κ M_X4_allLost R_X4_allLost [vr κ a] s0 r σ' := by
  intro r σ' ho
  refine Ct.of (by decide) (Nat.le_of_ble_eq_true rfl) (cat_ok rfl) (fun w_s0 => ?_) ⟨rfl, rfl⟩
  refine q_ent (ls' := [some (vr κ a), none, none]) (o := f_X4_allLost a s0) ⟨rfl, trivial⟩ ?_ ho
  unfold f_X4_allLost
  refine q_iconst d_X4_allLost_0 ?_
  refine q_istore_n d_X4_allLost_1 rfl ?_
  refine q_iconst d_X4_allLost_2 ?_
  refine q_istore_n d_X4_allLost_3 rfl ?_
  refine q_jn (α := Int → Mem → Res) (fun j32 => ∀ (v1 : Int) (h_v1 : InR v1) (s2 : Mem) (w_s2 : WF s2), EO κ M_X4_allLost R_X4_allLost 32 [none, some (vi v1), none] [] s2 (j32 v1 s2)) ?_ (fun j32 hj32 => ?_)
  · intro v1 h_v1 s2 w_s2
    refine q_iload_n (x := v1) d_X4_allLost_32 rfl ?_
    exact q_ireti d_X4_allLost_33 rfl h_v1 w_s2
  refine q_sub (ls' := [some (vr κ a), some (vi 0), some (vi 0)]) ⟨rfl, rfl, rfl, trivial⟩ ?_
  exact l_X4_allLost_4 κ a hA j32 hj32 FU 0 (inr_b (Or.inl rfl)) 0 (inr_b (Or.inl rfl)) s0 w_s0
abbrev R_J6_bitCount_0f7a4 : Room := { frames := 0, cells := 0, slots := 0, locals := 0 }
noncomputable def f_J6_bitCount_0f7a4 (x0 : Int) (s0 : Mem) : Res :=
  lt (wr ((iand (wr (x0 - (iand (iushr x0 1) 1431655765))) 858993459) + (iand (iushr (wr (x0 - (iand (iushr x0 1) 1431655765))) 2) 858993459))) fun v1 => lt (wr ((iand (wr (v1 + (iushr v1 4))) 252645135) + (iushr (iand (wr (v1 + (iushr v1 4))) 252645135) 8))) fun v2 => some (iand (wr (v2 + (iushr v2 16))) 63, s0)
set_option maxHeartbeats 4000000 in
set_option maxRecDepth 10000 in
theorem c_J6_bitCount_0f7a4 (κ : Kp) (x0 : Int) (h_x0 : InR x0) (s0 : Mem) : ∀ r σ', f_J6_bitCount_0f7a4 x0 s0 = some (r, σ') → Ct κ M_J6_bitCount_0f7a4 R_J6_bitCount_0f7a4 [vi x0] s0 r σ' := by
  intro r σ' ho
  refine Ct.of (by decide) (Nat.le_of_ble_eq_true rfl) (cat_ok rfl) (fun w_s0 => ?_) ⟨rfl, rfl⟩
  refine q_ent (ls' := [some (vi x0)]) (o := f_J6_bitCount_0f7a4 x0 s0) ⟨rfl, trivial⟩ ?_ ho
  unfold f_J6_bitCount_0f7a4
  refine q_iload_n (x := x0) d_J6_bitCount_0f7a4_0 rfl ?_
  refine q_iload_n (x := x0) d_J6_bitCount_0f7a4_1 rfl ?_
  refine q_iconst d_J6_bitCount_0f7a4_2 ?_
  refine q_iushr d_J6_bitCount_0f7a4_3 ?_
  refine q_ldcw (n := 1431655765) d_J6_bitCount_0f7a4_4 ck_J6_265 rfl ?_
  refine q_iand d_J6_bitCount_0f7a4_7 ?_
  refine q_isub d_J6_bitCount_0f7a4_8 ?_
  refine q_istore_n d_J6_bitCount_0f7a4_9 rfl ?_
  refine q_iload_n (x := wr (x0 - (iand (iushr x0 1) 1431655765))) d_J6_bitCount_0f7a4_10 rfl ?_
  refine q_ldcw (n := 858993459) d_J6_bitCount_0f7a4_11 ck_J6_266 rfl ?_
  refine q_iand d_J6_bitCount_0f7a4_14 ?_
  refine q_iload_n (x := wr (x0 - (iand (iushr x0 1) 1431655765))) d_J6_bitCount_0f7a4_15 rfl ?_
  refine q_iconst d_J6_bitCount_0f7a4_16 ?_
  refine q_iushr d_J6_bitCount_0f7a4_17 ?_
  refine q_ldcw (n := 858993459) d_J6_bitCount_0f7a4_18 ck_J6_266 rfl ?_
  refine q_iand d_J6_bitCount_0f7a4_21 ?_
  refine q_iadd d_J6_bitCount_0f7a4_22 ?_
  refine q_lt (inr_wr _) (fun v1 h_v1 => ?_)
  refine q_istore_n d_J6_bitCount_0f7a4_23 rfl ?_
  refine q_iload_n (x := v1) d_J6_bitCount_0f7a4_24 rfl ?_
  refine q_iload_n (x := v1) d_J6_bitCount_0f7a4_25 rfl ?_
  refine q_iconst d_J6_bitCount_0f7a4_26 ?_
  refine q_iushr d_J6_bitCount_0f7a4_27 ?_
  refine q_iadd d_J6_bitCount_0f7a4_28 ?_
  refine q_ldcw (n := 252645135) d_J6_bitCount_0f7a4_29 ck_J6_267 rfl ?_
  refine q_iand d_J6_bitCount_0f7a4_32 ?_
  refine q_istore_n d_J6_bitCount_0f7a4_33 rfl ?_
  refine q_iload_n (x := iand (wr (v1 + (iushr v1 4))) 252645135) d_J6_bitCount_0f7a4_34 rfl ?_
  refine q_iload_n (x := iand (wr (v1 + (iushr v1 4))) 252645135) d_J6_bitCount_0f7a4_35 rfl ?_
  refine q_bipush d_J6_bitCount_0f7a4_36 rfl ?_
  refine q_iushr d_J6_bitCount_0f7a4_38 ?_
  refine q_iadd d_J6_bitCount_0f7a4_39 ?_
  refine q_lt (inr_wr _) (fun v2 h_v2 => ?_)
  refine q_istore_n d_J6_bitCount_0f7a4_40 rfl ?_
  refine q_iload_n (x := v2) d_J6_bitCount_0f7a4_41 rfl ?_
  refine q_iload_n (x := v2) d_J6_bitCount_0f7a4_42 rfl ?_
  refine q_bipush d_J6_bitCount_0f7a4_43 rfl ?_
  refine q_iushr d_J6_bitCount_0f7a4_45 ?_
  refine q_iadd d_J6_bitCount_0f7a4_46 ?_
  refine q_istore_n d_J6_bitCount_0f7a4_47 rfl ?_
  refine q_iload_n (x := wr (v2 + (iushr v2 16))) d_J6_bitCount_0f7a4_48 rfl ?_
  refine q_bipush d_J6_bitCount_0f7a4_49 rfl ?_
  refine q_iand d_J6_bitCount_0f7a4_51 ?_
  exact q_ireti d_J6_bitCount_0f7a4_52 rfl (inr_i32 _) w_s0

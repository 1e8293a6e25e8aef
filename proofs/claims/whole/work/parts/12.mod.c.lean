abbrev R_X12_hours : Room := { frames := 7, cells := 0, slots := 0, locals := 164 }
noncomputable def f_X12_hours_30 (a : Nat) (p1 : Int) (k52 : Int → Mem → Res) : Nat → Int → Int → Mem → Res
  | 0, _, _, _ => none
  | n + 1, x2, x3, s0 =>
    if x3 < p1 then (bd (f_X12_keeps0 a s0) fun r9 s10 => bd (f_X12_anHour a s10) fun r11 s12 => f_X12_hours_30 a p1 k52 n (wr (x2 + r11)) (wr (x3 + 1)) s12) else (k52 x2 s0)
noncomputable def f_X12_hours (a : Nat) (x1 : Int) (s0 : Mem) : Res :=
  bd (f_X12_isIn x1 1 60 s0) fun r1 s2 => if r1 = 0 then (some ((-1), s2)) else (gd ((0 : Int) ≤ 0 ∧ (0 : Int) < 1732) (if 9999 < wr ((s2 (a + 1) 0) + x1) then (some ((-1), s2)) else (jn (fun (v6 : Int) (s7 : Mem) => some (v6, s7)) fun j52 => f_X12_hours_30 a x1 j52 FU 0 0 s2)))
set_option maxHeartbeats 4000000 in
set_option maxRecDepth 10000 in
theorem l_X12_hours_30 (κ : Kp) (a : Nat) (hA : At12 κ a) (p1 : Int) (h_p1 : InR p1) (k52 : Int → Mem → Res) (hk52 : ∀ (z2 : Int) (h_z2 : InR z2) (sz : Mem) (w_sz : WF sz), EO κ M_X12_hours R_X12_hours 52 [none, none, some (vi z2), none] [] sz (k52 z2 sz)) : ∀ (n : Nat) (x2 : Int) (h_x2 : InR x2) (x3 : Int) (h_x3 : InR x3) (s0 : Mem) (w_s0 : WF s0), EO κ M_X12_hours R_X12_hours 30 [some (vr κ a), some (vi p1), some (vi x2), some (vi x3)] [] s0 (f_X12_hours_30 a p1 k52 n x2 x3 s0) := by
  intro n
  induction n with
  | zero => exact fun _ _ _ _ _ _ => q_none
  | succ n ih =>
    intro x2 h_x2 x3 h_x3 s0 w_s0
    rw [f_X12_hours_30]
    refine q_iload_n (x := x3) d_X12_hours_30 rfl ?_
    refine q_iload_n (x := p1) d_X12_hours_31 rfl ?_
    refine q_icmp_ge d_X12_hours_32 h_x3 h_p1 (fun c8 => ?_) (fun c8 => ?_)
    · refine q_aload_n d_X12_hours_35 rfl ?_
      refine q_callV (R' := R_X12_keeps0) (runV (As := []) (rest := []) d_X12_hours_36.1 cv_12_338 rfl hA.1 rfl rfl ⟨rfl, rfl, by decide, by decide⟩ (Nat.le_of_ble_eq_true rfl) w_s0 rfl) d_X12_hours_36.2 (c_X12_keeps0 κ a hA s0) rfl (fun r9 s10 w_s10 => ?_)
      refine q_iload_n (x := x2) d_X12_hours_39 rfl ?_
      refine q_aload_n d_X12_hours_40 rfl ?_
      refine q_callI (R' := R_X12_anHour) (runV (As := []) (rest := [vi x2]) d_X12_hours_41.1 cv_12_377 rfl hA.1 rfl rfl ⟨rfl, rfl, by decide, by decide⟩ (Nat.le_of_ble_eq_true rfl) w_s10 rfl) d_X12_hours_41.2 (c_X12_anHour κ a hA s10) rfl (fun r11 s12 h_r11 w_s12 => ?_)
      refine q_iadd d_X12_hours_44 ?_
      refine q_istore_n d_X12_hours_45 rfl ?_
      refine q_iinc (x := x3) d_X12_hours_46 rfl rfl ?_
      refine q_goto d_X12_hours_49 ?_
      refine q_sub (ls' := [some (vr κ a), some (vi p1), some (vi (wr (x2 + r11))), some (vi (wr (x3 + 1)))]) ⟨rfl, rfl, rfl, rfl, trivial⟩ ?_
      exact ih (wr (x2 + r11)) (inr_wr _) (wr (x3 + 1)) (inr_wr _) s12 w_s12
    · refine q_sub (ls' := [none, none, some (vi x2), none]) ⟨rfl, trivial⟩ ?_
      exact hk52 x2 h_x2 s0 w_s0
set_option maxHeartbeats 4000000 in
set_option maxRecDepth 10000 in
theorem c_X12_hours (κ : Kp) (a : Nat) (hA : At12 κ a) (x1 : Int) (h_x1 : InR x1) (s0 : Mem) : ∀ r σ', f_X12_hours a x1 s0 = some (r, σ') → Ct κ M_X12_hours R_X12_hours [vr κ a, vi x1] s0 r σ' := by
  intro r σ' ho
  refine Ct.of (by decide) (Nat.le_of_ble_eq_true rfl) (cat_ok rfl) (fun w_s0 => ?_) ⟨rfl, rfl⟩
  refine q_ent (ls' := [some (vr κ a), some (vi x1), none, none]) (o := f_X12_hours a x1 s0) ⟨rfl, rfl, trivial⟩ ?_ ho
  unfold f_X12_hours
  refine q_iload_n (x := x1) d_X12_hours_0 rfl ?_
  refine q_iconst d_X12_hours_1 ?_
  refine q_bipush d_X12_hours_2 rfl ?_
  refine q_callZ (R' := R_X12_isIn) (runS (As := [vi x1, vi 1, vi 60]) (rest := []) d_X12_hours_4.1 cv_12_60 rfl ⟨rfl, rfl, by decide, by decide⟩ (Nat.le_of_ble_eq_true rfl) w_s0 rfl) d_X12_hours_4.2 (c_X12_isIn κ x1 h_x1 1 (inr_b (Or.inr rfl)) 60 (inr_d rfl) s0) rfl (fun r1 s2 h_r1 w_s2 => ?_)
  refine q_if_eq d_X12_hours_7 (inr_b h_r1) (fun c3 => ?_) (fun c3 => ?_)
  · refine q_iconst d_X12_hours_24 ?_
    exact q_ireti d_X12_hours_25 rfl (inr_d rfl) w_s2
  · refine q_aload_n d_X12_hours_10 rfl ?_
    refine q_getR (n := 1) d_X12_hours_11 hA.1 fi_12_7 rfl (Nat.le_of_ble_eq_true rfl) ?_
    refine q_iconst d_X12_hours_14 ?_
    refine q_iaload (m := 1732) d_X12_hours_15 hA.2.1 (by decide) rfl (fun g4 => ?_)
    refine q_iload_n (x := x1) d_X12_hours_16 rfl ?_
    refine q_iadd d_X12_hours_17 ?_
    refine q_sipush d_X12_hours_18 rfl ?_
    refine q_icmp_le d_X12_hours_21 (inr_wr _) (inr_d rfl) (fun c5 => ?_) (fun c5 => ?_)
    · refine q_iconst d_X12_hours_24 ?_
      exact q_ireti d_X12_hours_25 rfl (inr_d rfl) w_s2
    · refine q_iconst d_X12_hours_26 ?_
      refine q_istore_n d_X12_hours_27 rfl ?_
      refine q_iconst d_X12_hours_28 ?_
      refine q_istore_n d_X12_hours_29 rfl ?_
      refine q_jn (α := Int → Mem → Res) (fun j52 => ∀ (v6 : Int) (h_v6 : InR v6) (s7 : Mem) (w_s7 : WF s7), EO κ M_X12_hours R_X12_hours 52 [none, none, some (vi v6), none] [] s7 (j52 v6 s7)) ?_ (fun j52 hj52 => ?_)
      · intro v6 h_v6 s7 w_s7
        refine q_iload_n (x := v6) d_X12_hours_52 rfl ?_
        exact q_ireti d_X12_hours_53 rfl h_v6 w_s7
      refine q_sub (ls' := [some (vr κ a), some (vi x1), some (vi 0), some (vi 0)]) ⟨rfl, rfl, rfl, rfl, trivial⟩ ?_
      exact l_X12_hours_30 κ a hA x1 h_x1 j52 hj52 FU 0 (inr_b (Or.inl rfl)) 0 (inr_b (Or.inl rfl)) s2 w_s2
abbrev R_X12_of : Room := { frames := 5, cells := 0, slots := 0, locals := 116 }
noncomputable def f_X12_of (a : Nat) (x1 : Int) (x2 : Int) (s0 : Mem) : Res :=
  bd (f_X12_isBoat a x1 s0) fun r1 s2 => if r1 = 0 then (some ((-1), s2)) else (if x2 = 0 then (gd ((0 : Int) ≤ wr (65 + x1) ∧ wr (65 + x1) < 1732) (some (s2 (a + 1) (wr (65 + x1)), s2))) else (if x2 = 1 then (gd ((0 : Int) ≤ wr (75 + x1) ∧ wr (75 + x1) < 1732) (some (s2 (a + 1) (wr (75 + x1)), s2))) else (if x2 = 2 then (gd ((0 : Int) ≤ wr (7 + x1) ∧ wr (7 + x1) < 1732) (some (s2 (a + 1) (wr (7 + x1)), s2))) else (if x2 = 3 then (gd ((0 : Int) ≤ wr (17 + x1) ∧ wr (17 + x1) < 1732) (some (s2 (a + 1) (wr (17 + x1)), s2))) else (if x2 = 4 then (gd ((0 : Int) ≤ wr (27 + x1) ∧ wr (27 + x1) < 1732) (some (s2 (a + 1) (wr (27 + x1)), s2))) else (if x2 = 5 then (gd ((0 : Int) ≤ wr (37 + x1) ∧ wr (37 + x1) < 1732) (some (s2 (a + 1) (wr (37 + x1)), s2))) else (if x2 = 6 then (gd ((0 : Int) ≤ wr (47 + x1) ∧ wr (47 + x1) < 1732) (some (s2 (a + 1) (wr (47 + x1)), s2))) else (if x2 = 7 then (bd (f_X12_shotAt a x1 s2) fun r19 s20 => some (r19, s20)) else (if x2 = 8 then (bd (f_X12_stickIn a x1 s2) fun r22 s23 => some (r22, s23)) else (if x2 = 9 then (bd (f_X12_listOf a x1 s2) fun r25 s26 => some (r25, s26)) else (some ((-1), s2))))))))))))
set_option maxHeartbeats 4000000 in
set_option maxRecDepth 10000 in
theorem c_X12_of (κ : Kp) (a : Nat) (hA : At12 κ a) (x1 : Int) (h_x1 : InR x1) (x2 : Int) (h_x2 : InR x2) (s0 : Mem) : ∀ r σ', f_X12_of a x1 x2 s0 = some (r, σ') → Ct κ M_X12_of R_X12_of [vr κ a, vi x1, vi x2] s0 r σ' := by
  intro r σ' ho
  refine Ct.of (by decide) (Nat.le_of_ble_eq_true rfl) (cat_ok rfl) (fun w_s0 => ?_) ⟨rfl, rfl⟩
  refine q_ent (ls' := [some (vr κ a), some (vi x1), some (vi x2)]) (o := f_X12_of a x1 x2 s0) ⟨rfl, rfl, rfl, trivial⟩ ?_ ho
  unfold f_X12_of
  refine q_aload_n d_X12_of_0 rfl ?_
  refine q_iload_n (x := x1) d_X12_of_1 rfl ?_
  refine q_callZ (R' := R_X12_isBoat) (runV (As := [vi x1]) (rest := []) d_X12_of_2.1 cv_12_64 rfl hA.1 rfl rfl ⟨rfl, rfl, by decide, by decide⟩ (Nat.le_of_ble_eq_true rfl) w_s0 rfl) d_X12_of_2.2 (c_X12_isBoat κ a hA x1 h_x1 s0) rfl (fun r1 s2 h_r1 w_s2 => ?_)
  refine q_if_ne d_X12_of_5 (inr_b h_r1) (fun c3 => ?_) (fun c3 => ?_)
  · refine q_iconst d_X12_of_8 ?_
    exact q_ireti d_X12_of_9 rfl (inr_d rfl) w_s2
  · refine q_iload_n (x := x2) d_X12_of_10 rfl ?_
    refine q_ite (fun c4 => ?_) (fun c4 => ?_)
    · refine q_tswC (tgt := 64) d_X12_of_11 h_x2 c4 (by decide) (by decide) rfl (by decide) ?_
      refine q_aload_n d_X12_of_64 rfl ?_
      refine q_getR (n := 1) d_X12_of_65 hA.1 fi_12_7 rfl (Nat.le_of_ble_eq_true rfl) ?_
      refine q_bipush d_X12_of_68 rfl ?_
      refine q_iload_n (x := x1) d_X12_of_70 rfl ?_
      refine q_iadd d_X12_of_71 ?_
      refine q_iaload (m := 1732) d_X12_of_72 hA.2.1 (by decide) rfl (fun g5 => ?_)
      exact q_ireti d_X12_of_73 rfl (w_s2 _ _) w_s2
    refine q_ite (fun c6 => ?_) (fun c6 => ?_)
    · refine q_tswC (tgt := 74) d_X12_of_11 h_x2 c6 (by decide) (by decide) rfl (by decide) ?_
      refine q_aload_n d_X12_of_74 rfl ?_
      refine q_getR (n := 1) d_X12_of_75 hA.1 fi_12_7 rfl (Nat.le_of_ble_eq_true rfl) ?_
      refine q_bipush d_X12_of_78 rfl ?_
      refine q_iload_n (x := x1) d_X12_of_80 rfl ?_
      refine q_iadd d_X12_of_81 ?_
      refine q_iaload (m := 1732) d_X12_of_82 hA.2.1 (by decide) rfl (fun g7 => ?_)
      exact q_ireti d_X12_of_83 rfl (w_s2 _ _) w_s2
    refine q_ite (fun c8 => ?_) (fun c8 => ?_)
    · refine q_tswC (tgt := 84) d_X12_of_11 h_x2 c8 (by decide) (by decide) rfl (by decide) ?_
      refine q_aload_n d_X12_of_84 rfl ?_
      refine q_getR (n := 1) d_X12_of_85 hA.1 fi_12_7 rfl (Nat.le_of_ble_eq_true rfl) ?_
      refine q_bipush d_X12_of_88 rfl ?_
      refine q_iload_n (x := x1) d_X12_of_90 rfl ?_
      refine q_iadd d_X12_of_91 ?_
      refine q_iaload (m := 1732) d_X12_of_92 hA.2.1 (by decide) rfl (fun g9 => ?_)
      exact q_ireti d_X12_of_93 rfl (w_s2 _ _) w_s2
    refine q_ite (fun c10 => ?_) (fun c10 => ?_)
    · refine q_tswC (tgt := 94) d_X12_of_11 h_x2 c10 (by decide) (by decide) rfl (by decide) ?_
      refine q_aload_n d_X12_of_94 rfl ?_
      refine q_getR (n := 1) d_X12_of_95 hA.1 fi_12_7 rfl (Nat.le_of_ble_eq_true rfl) ?_
      refine q_bipush d_X12_of_98 rfl ?_
      refine q_iload_n (x := x1) d_X12_of_100 rfl ?_
      refine q_iadd d_X12_of_101 ?_
      refine q_iaload (m := 1732) d_X12_of_102 hA.2.1 (by decide) rfl (fun g11 => ?_)
      exact q_ireti d_X12_of_103 rfl (w_s2 _ _) w_s2
    refine q_ite (fun c12 => ?_) (fun c12 => ?_)
    · refine q_tswC (tgt := 104) d_X12_of_11 h_x2 c12 (by decide) (by decide) rfl (by decide) ?_
      refine q_aload_n d_X12_of_104 rfl ?_
      refine q_getR (n := 1) d_X12_of_105 hA.1 fi_12_7 rfl (Nat.le_of_ble_eq_true rfl) ?_
      refine q_bipush d_X12_of_108 rfl ?_
      refine q_iload_n (x := x1) d_X12_of_110 rfl ?_
      refine q_iadd d_X12_of_111 ?_
      refine q_iaload (m := 1732) d_X12_of_112 hA.2.1 (by decide) rfl (fun g13 => ?_)
      exact q_ireti d_X12_of_113 rfl (w_s2 _ _) w_s2
    refine q_ite (fun c14 => ?_) (fun c14 => ?_)
    · refine q_tswC (tgt := 114) d_X12_of_11 h_x2 c14 (by decide) (by decide) rfl (by decide) ?_
      refine q_aload_n d_X12_of_114 rfl ?_
      refine q_getR (n := 1) d_X12_of_115 hA.1 fi_12_7 rfl (Nat.le_of_ble_eq_true rfl) ?_
      refine q_bipush d_X12_of_118 rfl ?_
      refine q_iload_n (x := x1) d_X12_of_120 rfl ?_
      refine q_iadd d_X12_of_121 ?_
      refine q_iaload (m := 1732) d_X12_of_122 hA.2.1 (by decide) rfl (fun g15 => ?_)
      exact q_ireti d_X12_of_123 rfl (w_s2 _ _) w_s2
    refine q_ite (fun c16 => ?_) (fun c16 => ?_)
    · refine q_tswC (tgt := 124) d_X12_of_11 h_x2 c16 (by decide) (by decide) rfl (by decide) ?_
      refine q_aload_n d_X12_of_124 rfl ?_
      refine q_getR (n := 1) d_X12_of_125 hA.1 fi_12_7 rfl (Nat.le_of_ble_eq_true rfl) ?_
      refine q_bipush d_X12_of_128 rfl ?_
      refine q_iload_n (x := x1) d_X12_of_130 rfl ?_
      refine q_iadd d_X12_of_131 ?_
      refine q_iaload (m := 1732) d_X12_of_132 hA.2.1 (by decide) rfl (fun g17 => ?_)
      exact q_ireti d_X12_of_133 rfl (w_s2 _ _) w_s2
    refine q_ite (fun c18 => ?_) (fun c18 => ?_)
    · refine q_tswC (tgt := 134) d_X12_of_11 h_x2 c18 (by decide) (by decide) rfl (by decide) ?_
      refine q_aload_n d_X12_of_134 rfl ?_
      refine q_iload_n (x := x1) d_X12_of_135 rfl ?_
      refine q_callI (R' := R_X12_shotAt) (runV (As := [vi x1]) (rest := []) d_X12_of_136.1 cv_12_350 rfl hA.1 rfl rfl ⟨rfl, rfl, by decide, by decide⟩ (Nat.le_of_ble_eq_true rfl) w_s2 rfl) d_X12_of_136.2 (c_X12_shotAt κ a hA x1 h_x1 s2) rfl (fun r19 s20 h_r19 w_s20 => ?_)
      exact q_ireti d_X12_of_139 rfl h_r19 w_s20
    refine q_ite (fun c21 => ?_) (fun c21 => ?_)
    · refine q_tswC (tgt := 140) d_X12_of_11 h_x2 c21 (by decide) (by decide) rfl (by decide) ?_
      refine q_aload_n d_X12_of_140 rfl ?_
      refine q_iload_n (x := x1) d_X12_of_141 rfl ?_
      refine q_callI (R' := R_X12_stickIn) (runV (As := [vi x1]) (rest := []) d_X12_of_142.1 cv_12_353 rfl hA.1 rfl rfl ⟨rfl, rfl, by decide, by decide⟩ (Nat.le_of_ble_eq_true rfl) w_s2 rfl) d_X12_of_142.2 (c_X12_stickIn κ a hA x1 h_x1 s2) rfl (fun r22 s23 h_r22 w_s23 => ?_)
      exact q_ireti d_X12_of_145 rfl h_r22 w_s23
    refine q_ite (fun c24 => ?_) (fun c24 => ?_)
    · refine q_tswC (tgt := 146) d_X12_of_11 h_x2 c24 (by decide) (by decide) rfl (by decide) ?_
      refine q_aload_n d_X12_of_146 rfl ?_
      refine q_iload_n (x := x1) d_X12_of_147 rfl ?_
      refine q_callI (R' := R_X12_listOf) (runV (As := [vi x1]) (rest := []) d_X12_of_148.1 cv_12_356 rfl hA.1 rfl rfl ⟨rfl, rfl, by decide, by decide⟩ (Nat.le_of_ble_eq_true rfl) w_s2 rfl) d_X12_of_148.2 (c_X12_listOf κ a hA x1 h_x1 s2) rfl (fun r25 s26 h_r25 w_s26 => ?_)
      exact q_ireti d_X12_of_151 rfl h_r25 w_s26
    refine q_tswD (tgt := 152) d_X12_of_11 h_x2 (by omega) (by decide) ?_
    refine q_iconst d_X12_of_152 ?_
    exact q_ireti d_X12_of_153 rfl (inr_d rfl) w_s2
abbrev R_X12_river : Room := { frames := 2, cells := 0, slots := 0, locals := 42 }
noncomputable def f_X12_river (a : Nat) (x1 : Int) (x2 : Int) (s0 : Mem) : Res :=
  jn (fun (s1 : Mem) => if x2 = 1 then (bd (f_X12_isIn x1 0 23 s1) fun r3 s4 => if r3 = 0 then (some ((-100), s4)) else (bd (f_X12_currentAt a x1 s4) fun r6 s7 => some (r6, s7))) else (some ((-100), s1))) fun j21 => if x2 = 0 then (bd (f_X12_isReach x1 s0) fun r9 s10 => if r9 = 0 then (j21 s10) else (gd ((0 : Int) ≤ wr (85 + x1) ∧ wr (85 + x1) < 1732) (some (s10 (a + 1) (wr (85 + x1)), s10)))) else (j21 s0)
set_option maxHeartbeats 4000000 in
set_option maxRecDepth 10000 in
theorem c_X12_river (κ : Kp) (a : Nat) (hA : At12 κ a) (x1 : Int) (h_x1 : InR x1) (x2 : Int) (h_x2 : InR x2) (s0 : Mem) : ∀ r σ', f_X12_river a x1 x2 s0 = some (r, σ') → Ct κ M_X12_river R_X12_river [vr κ a, vi x1, vi x2] s0 r σ' := by
  intro r σ' ho
  refine Ct.of (by decide) (Nat.le_of_ble_eq_true rfl) (cat_ok rfl) (fun w_s0 => ?_) ⟨rfl, rfl⟩
  refine q_ent (ls' := [some (vr κ a), some (vi x1), some (vi x2)]) (o := f_X12_river a x1 x2 s0) ⟨rfl, rfl, rfl, trivial⟩ ?_ ho
  unfold f_X12_river
  refine q_iload_n (x := x2) d_X12_river_0 rfl ?_
  refine q_jn (α := Mem → Res) (fun j21 => ∀ (s1 : Mem) (w_s1 : WF s1), EO κ M_X12_river R_X12_river 21 [some (vr κ a), some (vi x1), some (vi x2)] [] s1 (j21 s1)) ?_ (fun j21 hj21 => ?_)
  · intro s1 w_s1
    refine q_iload_n (x := x2) d_X12_river_21 rfl ?_
    refine q_iconst d_X12_river_22 ?_
    refine q_icmp_ne d_X12_river_23 h_x2 (inr_b (Or.inr rfl)) (fun c2 => ?_) (fun c2 => ?_)
    · refine q_iload_n (x := x1) d_X12_river_26 rfl ?_
      refine q_iconst d_X12_river_27 ?_
      refine q_bipush d_X12_river_28 rfl ?_
      refine q_callZ (R' := R_X12_isIn) (runS (As := [vi x1, vi 0, vi 23]) (rest := []) d_X12_river_30.1 cv_12_60 rfl ⟨rfl, rfl, by decide, by decide⟩ (Nat.le_of_ble_eq_true rfl) w_s1 rfl) d_X12_river_30.2 (c_X12_isIn κ x1 h_x1 0 (inr_b (Or.inl rfl)) 23 (inr_d rfl) s1) rfl (fun r3 s4 h_r3 w_s4 => ?_)
      refine q_if_eq d_X12_river_33 (inr_b h_r3) (fun c5 => ?_) (fun c5 => ?_)
      · refine q_bipush d_X12_river_44 rfl ?_
        exact q_ireti d_X12_river_46 rfl (inr_d rfl) w_s4
      · refine q_aload_n d_X12_river_36 rfl ?_
        refine q_iload_n (x := x1) d_X12_river_37 rfl ?_
        refine q_callI (R' := R_X12_currentAt) (runV (As := [vi x1]) (rest := []) d_X12_river_38.1 cv_12_368 rfl hA.1 rfl rfl ⟨rfl, rfl, by decide, by decide⟩ (Nat.le_of_ble_eq_true rfl) w_s4 rfl) d_X12_river_38.2 (c_X12_currentAt κ a hA x1 h_x1 s4) rfl (fun r6 s7 h_r6 w_s7 => ?_)
        refine q_goto d_X12_river_41 ?_
        exact q_ireti d_X12_river_46 rfl h_r6 w_s7
    · refine q_bipush d_X12_river_44 rfl ?_
      exact q_ireti d_X12_river_46 rfl (inr_d rfl) w_s1
  refine q_if_ne d_X12_river_1 h_x2 (fun c8 => ?_) (fun c8 => ?_)
  · refine q_iload_n (x := x1) d_X12_river_4 rfl ?_
    refine q_callZ (R' := R_X12_isReach) (runS (As := [vi x1]) (rest := []) d_X12_river_5.1 cv_12_76 rfl ⟨rfl, rfl, by decide, by decide⟩ (Nat.le_of_ble_eq_true rfl) w_s0 rfl) d_X12_river_5.2 (c_X12_isReach κ x1 h_x1 s0) rfl (fun r9 s10 h_r9 w_s10 => ?_)
    refine q_if_eq d_X12_river_8 (inr_b h_r9) (fun c11 => ?_) (fun c11 => ?_)
    · refine q_sub (ls' := [some (vr κ a), some (vi x1), some (vi x2)]) ⟨rfl, rfl, rfl, trivial⟩ ?_
      exact hj21 s10 w_s10
    · refine q_aload_n d_X12_river_11 rfl ?_
      refine q_getR (n := 1) d_X12_river_12 hA.1 fi_12_7 rfl (Nat.le_of_ble_eq_true rfl) ?_
      refine q_bipush d_X12_river_15 rfl ?_
      refine q_iload_n (x := x1) d_X12_river_17 rfl ?_
      refine q_iadd d_X12_river_18 ?_
      refine q_iaload (m := 1732) d_X12_river_19 hA.2.1 (by decide) rfl (fun g12 => ?_)
      exact q_ireti d_X12_river_20 rfl (w_s10 _ _) w_s10
  · refine q_sub (ls' := [some (vr κ a), some (vi x1), some (vi x2)]) ⟨rfl, rfl, rfl, trivial⟩ ?_
    exact hj21 s0 w_s0
abbrev R_X12_village : Room := { frames := 2, cells := 0, slots := 0, locals := 43 }
noncomputable def f_X12_village (a : Nat) (x1 : Int) (x2 : Int) (s0 : Mem) : Res :=
  bd (f_X12_isTold a x1 s0) fun r1 s2 => if r1 = 0 then (some ((-1), s2)) else (if x2 = 0 then (gd ((0 : Int) ≤ wr (198 + x1) ∧ wr (198 + x1) < 1732) (some (s2 (a + 1) (wr (198 + x1)), s2))) else (if x2 = 1 then (gd ((0 : Int) ≤ wr (210 + x1) ∧ wr (210 + x1) < 1732) (some (s2 (a + 1) (wr (210 + x1)), s2))) else (some ((-1), s2))))
set_option maxHeartbeats 4000000 in
set_option maxRecDepth 10000 in
theorem c_X12_village (κ : Kp) (a : Nat) (hA : At12 κ a) (x1 : Int) (h_x1 : InR x1) (x2 : Int) (h_x2 : InR x2) (s0 : Mem) : ∀ r σ', f_X12_village a x1 x2 s0 = some (r, σ') → Ct κ M_X12_village R_X12_village [vr κ a, vi x1, vi x2] s0 r σ' := by
  intro r σ' ho
  refine Ct.of (by decide) (Nat.le_of_ble_eq_true rfl) (cat_ok rfl) (fun w_s0 => ?_) ⟨rfl, rfl⟩
  refine q_ent (ls' := [some (vr κ a), some (vi x1), some (vi x2)]) (o := f_X12_village a x1 x2 s0) ⟨rfl, rfl, rfl, trivial⟩ ?_ ho
  unfold f_X12_village
  refine q_aload_n d_X12_village_0 rfl ?_
  refine q_iload_n (x := x1) d_X12_village_1 rfl ?_
  refine q_callZ (R' := R_X12_isTold) (runV (As := [vi x1]) (rest := []) d_X12_village_2.1 cv_12_273 rfl hA.1 rfl rfl ⟨rfl, rfl, by decide, by decide⟩ (Nat.le_of_ble_eq_true rfl) w_s0 rfl) d_X12_village_2.2 (c_X12_isTold κ a hA x1 h_x1 s0) rfl (fun r1 s2 h_r1 w_s2 => ?_)
  refine q_if_ne d_X12_village_5 (inr_b h_r1) (fun c3 => ?_) (fun c3 => ?_)
  · refine q_iconst d_X12_village_8 ?_
    refine q_goto d_X12_village_9 ?_
    exact q_ireti d_X12_village_48 rfl (inr_d rfl) w_s2
  · refine q_iload_n (x := x2) d_X12_village_12 rfl ?_
    refine q_if_ne d_X12_village_13 h_x2 (fun c4 => ?_) (fun c4 => ?_)
    · refine q_aload_n d_X12_village_16 rfl ?_
      refine q_getR (n := 1) d_X12_village_17 hA.1 fi_12_7 rfl (Nat.le_of_ble_eq_true rfl) ?_
      refine q_sipush d_X12_village_20 rfl ?_
      refine q_iload_n (x := x1) d_X12_village_23 rfl ?_
      refine q_iadd d_X12_village_24 ?_
      refine q_iaload (m := 1732) d_X12_village_25 hA.2.1 (by decide) rfl (fun g5 => ?_)
      refine q_goto d_X12_village_26 ?_
      exact q_ireti d_X12_village_48 rfl (w_s2 _ _) w_s2
    · refine q_iload_n (x := x2) d_X12_village_29 rfl ?_
      refine q_iconst d_X12_village_30 ?_
      refine q_icmp_ne d_X12_village_31 h_x2 (inr_b (Or.inr rfl)) (fun c6 => ?_) (fun c6 => ?_)
      · refine q_aload_n d_X12_village_34 rfl ?_
        refine q_getR (n := 1) d_X12_village_35 hA.1 fi_12_7 rfl (Nat.le_of_ble_eq_true rfl) ?_
        refine q_sipush d_X12_village_38 rfl ?_
        refine q_iload_n (x := x1) d_X12_village_41 rfl ?_
        refine q_iadd d_X12_village_42 ?_
        refine q_iaload (m := 1732) d_X12_village_43 hA.2.1 (by decide) rfl (fun g7 => ?_)
        refine q_goto d_X12_village_44 ?_
        exact q_ireti d_X12_village_48 rfl (w_s2 _ _) w_s2
      · refine q_iconst d_X12_village_47 ?_
        exact q_ireti d_X12_village_48 rfl (inr_d rfl) w_s2
abbrev R_X12_book : Room := { frames := 1, cells := 0, slots := 0, locals := 22 }
noncomputable def f_X12_book (a : Nat) (x1 : Int) (x2 : Int) (s0 : Mem) : Res :=
  gd ((0 : Int) ≤ 6 ∧ (6 : Int) < 1732) (bd (f_X12_isIn x1 0 (wr ((s0 (a + 1) 6) - 1)) s0) fun r2 s3 => if r2 = 0 then (some ((-1), s3)) else (bd (f_X12_isIn x2 0 3 s3) fun r5 s6 => if r5 = 0 then (some ((-1), s6)) else (gd ((0 : Int) ≤ wr ((wr (248 + (wr (4 * x1)))) + x2) ∧ wr ((wr (248 + (wr (4 * x1)))) + x2) < 1732) (some (s6 (a + 1) (wr ((wr (248 + (wr (4 * x1)))) + x2)), s6)))))
set_option maxHeartbeats 4000000 in
set_option maxRecDepth 10000 in
theorem c_X12_book (κ : Kp) (a : Nat) (hA : At12 κ a) (x1 : Int) (h_x1 : InR x1) (x2 : Int) (h_x2 : InR x2) (s0 : Mem) : ∀ r σ', f_X12_book a x1 x2 s0 = some (r, σ') → Ct κ M_X12_book R_X12_book [vr κ a, vi x1, vi x2] s0 r σ' := by
  intro r σ' ho
  refine Ct.of (by decide) (Nat.le_of_ble_eq_true rfl) (cat_ok rfl) (fun w_s0 => ?_) ⟨rfl, rfl⟩
  refine q_ent (ls' := [some (vr κ a), some (vi x1), some (vi x2)]) (o := f_X12_book a x1 x2 s0) ⟨rfl, rfl, rfl, trivial⟩ ?_ ho
  unfold f_X12_book
  refine q_iload_n (x := x1) d_X12_book_0 rfl ?_
  refine q_iconst d_X12_book_1 ?_
  refine q_aload_n d_X12_book_2 rfl ?_
  refine q_getR (n := 1) d_X12_book_3 hA.1 fi_12_7 rfl (Nat.le_of_ble_eq_true rfl) ?_
  refine q_bipush d_X12_book_6 rfl ?_
  refine q_iaload (m := 1732) d_X12_book_8 hA.2.1 (by decide) rfl (fun g1 => ?_)
  refine q_iconst d_X12_book_9 ?_
  refine q_isub d_X12_book_10 ?_
  refine q_callZ (R' := R_X12_isIn) (runS (As := [vi x1, vi 0, vi (wr ((s0 (a + 1) 6) - 1))]) (rest := []) d_X12_book_11.1 cv_12_60 rfl ⟨rfl, rfl, by decide, by decide⟩ (Nat.le_of_ble_eq_true rfl) w_s0 rfl) d_X12_book_11.2 (c_X12_isIn κ x1 h_x1 0 (inr_b (Or.inl rfl)) (wr ((s0 (a + 1) 6) - 1)) (inr_wr _) s0) rfl (fun r2 s3 h_r2 w_s3 => ?_)
  refine q_if_eq d_X12_book_14 (inr_b h_r2) (fun c4 => ?_) (fun c4 => ?_)
  · refine q_iconst d_X12_book_43 ?_
    exact q_ireti d_X12_book_44 rfl (inr_d rfl) w_s3
  · refine q_iload_n (x := x2) d_X12_book_17 rfl ?_
    refine q_iconst d_X12_book_18 ?_
    refine q_iconst d_X12_book_19 ?_
    refine q_callZ (R' := R_X12_isIn) (runS (As := [vi x2, vi 0, vi 3]) (rest := []) d_X12_book_20.1 cv_12_60 rfl ⟨rfl, rfl, by decide, by decide⟩ (Nat.le_of_ble_eq_true rfl) w_s3 rfl) d_X12_book_20.2 (c_X12_isIn κ x2 h_x2 0 (inr_b (Or.inl rfl)) 3 (inr_d rfl) s3) rfl (fun r5 s6 h_r5 w_s6 => ?_)
    refine q_if_eq d_X12_book_23 (inr_b h_r5) (fun c7 => ?_) (fun c7 => ?_)
    · refine q_iconst d_X12_book_43 ?_
      exact q_ireti d_X12_book_44 rfl (inr_d rfl) w_s6
    · refine q_aload_n d_X12_book_26 rfl ?_
      refine q_getR (n := 1) d_X12_book_27 hA.1 fi_12_7 rfl (Nat.le_of_ble_eq_true rfl) ?_
      refine q_sipush d_X12_book_30 rfl ?_
      refine q_iconst d_X12_book_33 ?_
      refine q_iload_n (x := x1) d_X12_book_34 rfl ?_
      refine q_imul d_X12_book_35 ?_
      refine q_iadd d_X12_book_36 ?_
      refine q_iload_n (x := x2) d_X12_book_37 rfl ?_
      refine q_iadd d_X12_book_38 ?_
      refine q_iaload (m := 1732) d_X12_book_39 hA.2.1 (by decide) rfl (fun g8 => ?_)
      refine q_goto d_X12_book_40 ?_
      exact q_ireti d_X12_book_44 rfl (w_s6 _ _) w_s6
abbrev R_X12_lays : Room := { frames := 0, cells := 0, slots := 0, locals := 0 }
noncomputable def f_X12_lays_2 (a : Nat) (k26 : Mem → Res) : Nat → Int → Mem → Res
  | 0, _, _ => none
  | n + 1, x1, s0 =>
    if x1 < 57 then (gd ((0 : Int) ≤ x1 ∧ x1 < 1732) (gd ((0 : Int) ≤ x1 ∧ x1 < 57) (lm (mup s0 (a + 4) x1 (s0 (a + 1) x1)) fun s6 => f_X12_lays_2 a k26 n (wr (x1 + 1)) s6))) else (k26 s0)
noncomputable def f_X12_lays (a : Nat) (s0 : Mem) : Res :=
  jn (fun (s1 : Mem) => lm (mup s1 a 26 0) fun s2 => some (0, s2)) fun j26 => f_X12_lays_2 a j26 FU 0 s0
set_option maxHeartbeats 4000000 in
set_option maxRecDepth 10000 in
theorem l_X12_lays_2 (κ : Kp) (a : Nat) (hA : At12 κ a) (k26 : Mem → Res) (hk26 : ∀ (sz : Mem) (w_sz : WF sz), EO κ M_X12_lays R_X12_lays 26 [some (vr κ a), none] [] sz (k26 sz)) : ∀ (n : Nat) (x1 : Int) (h_x1 : InR x1) (s0 : Mem) (w_s0 : WF s0), EO κ M_X12_lays R_X12_lays 2 [some (vr κ a), some (vi x1)] [] s0 (f_X12_lays_2 a k26 n x1 s0) := by
  intro n
  induction n with
  | zero => exact fun _ _ _ _ => q_none
  | succ n ih =>
    intro x1 h_x1 s0 w_s0
    rw [f_X12_lays_2]
    refine q_iload_n (x := x1) d_X12_lays_2 rfl ?_
    refine q_bipush d_X12_lays_3 rfl ?_
    refine q_icmp_ge d_X12_lays_5 h_x1 (inr_d rfl) (fun c3 => ?_) (fun c3 => ?_)
    · refine q_aload_n d_X12_lays_8 rfl ?_
      refine q_getR (n := 4) d_X12_lays_9 hA.1 fi_12_19 rfl (Nat.le_of_ble_eq_true rfl) ?_
      refine q_iload_n (x := x1) d_X12_lays_12 rfl ?_
      refine q_aload_n d_X12_lays_13 rfl ?_
      refine q_getR (n := 1) d_X12_lays_14 hA.1 fi_12_7 rfl (Nat.le_of_ble_eq_true rfl) ?_
      refine q_iload_n (x := x1) d_X12_lays_17 rfl ?_
      refine q_iaload (m := 1732) d_X12_lays_18 hA.2.1 (by decide) rfl (fun g4 => ?_)
      refine q_iastore (m := 57) d_X12_lays_19 hA.2.2.2.2.1 (by decide) rfl (w_s0 _ _) w_s0 (fun g5 s6 w_s6 => ?_)
      refine q_iinc (x := x1) d_X12_lays_20 rfl rfl ?_
      refine q_goto d_X12_lays_23 ?_
      refine q_sub (ls' := [some (vr κ a), some (vi (wr (x1 + 1)))]) ⟨rfl, rfl, trivial⟩ ?_
      exact ih (wr (x1 + 1)) (inr_wr _) s6 w_s6
    · refine q_sub (ls' := [some (vr κ a), none]) ⟨rfl, trivial⟩ ?_
      exact hk26 s0 w_s0
set_option maxHeartbeats 4000000 in
set_option maxRecDepth 10000 in
theorem c_X12_lays (κ : Kp) (a : Nat) (hA : At12 κ a) (s0 : Mem) : ∀ r σ', f_X12_lays a s0 = some (r, σ') → Ct κ M_X12_lays R_X12_lays [vr κ a] s0 r σ' := by
  intro r σ' ho
  refine Ct.of (by decide) (Nat.le_of_ble_eq_true rfl) (cat_ok rfl) (fun w_s0 => ?_) ⟨rfl, rfl⟩
  refine q_ent (ls' := [some (vr κ a), none]) (o := f_X12_lays a s0) ⟨rfl, trivial⟩ ?_ ho
  unfold f_X12_lays
  refine q_iconst d_X12_lays_0 ?_
  refine q_istore_n d_X12_lays_1 rfl ?_
  refine q_jn (α := Mem → Res) (fun j26 => ∀ (s1 : Mem) (w_s1 : WF s1), EO κ M_X12_lays R_X12_lays 26 [some (vr κ a), none] [] s1 (j26 s1)) ?_ (fun j26 hj26 => ?_)
  · intro s1 w_s1
    refine q_aload_n d_X12_lays_26 rfl ?_
    refine q_iconst d_X12_lays_27 ?_
    refine q_putZ (k := 26) (j := 26) d_X12_lays_28 hA.1 fp_12_327 rfl rfl (Or.inl rfl) w_s1 (fun s2 w_s2 => ?_)
    exact q_vret d_X12_lays_31 rfl w_s2
  refine q_sub (ls' := [some (vr κ a), some (vi 0)]) ⟨rfl, rfl, trivial⟩ ?_
  exact l_X12_lays_2 κ a hA j26 hj26 FU 0 (inr_b (Or.inl rfl)) s0 w_s0
abbrev R_X12_putsBack : Room := { frames := 0, cells := 0, slots := 0, locals := 0 }
noncomputable def f_X12_putsBack_2 (a : Nat) (k26 : Mem → Res) : Nat → Int → Mem → Res
  | 0, _, _ => none
  | n + 1, x1, s0 =>
    if x1 < 57 then (gd ((0 : Int) ≤ x1 ∧ x1 < 57) (gd ((0 : Int) ≤ x1 ∧ x1 < 1732) (lm (mup s0 (a + 1) x1 (s0 (a + 4) x1)) fun s5 => f_X12_putsBack_2 a k26 n (wr (x1 + 1)) s5))) else (k26 s0)
noncomputable def f_X12_putsBack (a : Nat) (s0 : Mem) : Res :=
  jn (fun (s1 : Mem) => some (0, s1)) fun j26 => f_X12_putsBack_2 a j26 FU 0 s0
set_option maxHeartbeats 4000000 in
set_option maxRecDepth 10000 in
theorem l_X12_putsBack_2 (κ : Kp) (a : Nat) (hA : At12 κ a) (k26 : Mem → Res) (hk26 : ∀ (sz : Mem) (w_sz : WF sz), EO κ M_X12_putsBack R_X12_putsBack 26 [none, none] [] sz (k26 sz)) : ∀ (n : Nat) (x1 : Int) (h_x1 : InR x1) (s0 : Mem) (w_s0 : WF s0), EO κ M_X12_putsBack R_X12_putsBack 2 [some (vr κ a), some (vi x1)] [] s0 (f_X12_putsBack_2 a k26 n x1 s0) := by
  intro n
  induction n with
  | zero => exact fun _ _ _ _ => q_none
  | succ n ih =>
    intro x1 h_x1 s0 w_s0
    rw [f_X12_putsBack_2]
    refine q_iload_n (x := x1) d_X12_putsBack_2 rfl ?_
    refine q_bipush d_X12_putsBack_3 rfl ?_
    refine q_icmp_ge d_X12_putsBack_5 h_x1 (inr_d rfl) (fun c2 => ?_) (fun c2 => ?_)
    · refine q_aload_n d_X12_putsBack_8 rfl ?_
      refine q_getR (n := 1) d_X12_putsBack_9 hA.1 fi_12_7 rfl (Nat.le_of_ble_eq_true rfl) ?_
      refine q_iload_n (x := x1) d_X12_putsBack_12 rfl ?_
      refine q_aload_n d_X12_putsBack_13 rfl ?_
      refine q_getR (n := 4) d_X12_putsBack_14 hA.1 fi_12_19 rfl (Nat.le_of_ble_eq_true rfl) ?_
      refine q_iload_n (x := x1) d_X12_putsBack_17 rfl ?_
      refine q_iaload (m := 57) d_X12_putsBack_18 hA.2.2.2.2.1 (by decide) rfl (fun g3 => ?_)
      refine q_iastore (m := 1732) d_X12_putsBack_19 hA.2.1 (by decide) rfl (w_s0 _ _) w_s0 (fun g4 s5 w_s5 => ?_)
      refine q_iinc (x := x1) d_X12_putsBack_20 rfl rfl ?_
      refine q_goto d_X12_putsBack_23 ?_
      refine q_sub (ls' := [some (vr κ a), some (vi (wr (x1 + 1)))]) ⟨rfl, rfl, trivial⟩ ?_
      exact ih (wr (x1 + 1)) (inr_wr _) s5 w_s5
    · refine q_sub (ls' := [none, none]) trivial ?_
      exact hk26 s0 w_s0
set_option maxHeartbeats 4000000 in
set_option maxRecDepth 10000 in
theorem c_X12_putsBack (κ : Kp) (a : Nat) (hA : At12 κ a) (s0 : Mem) : ∀ r σ', f_X12_putsBack a s0 = some (r, σ') → Ct κ M_X12_putsBack R_X12_putsBack [vr κ a] s0 r σ' := by
  intro r σ' ho
  refine Ct.of (by decide) (Nat.le_of_ble_eq_true rfl) (cat_ok rfl) (fun w_s0 => ?_) ⟨rfl, rfl⟩
  refine q_ent (ls' := [some (vr κ a), none]) (o := f_X12_putsBack a s0) ⟨rfl, trivial⟩ ?_ ho
  unfold f_X12_putsBack
  refine q_iconst d_X12_putsBack_0 ?_
  refine q_istore_n d_X12_putsBack_1 rfl ?_
  refine q_jn (α := Mem → Res) (fun j26 => ∀ (s1 : Mem) (w_s1 : WF s1), EO κ M_X12_putsBack R_X12_putsBack 26 [none, none] [] s1 (j26 s1)) ?_ (fun j26 hj26 => ?_)
  · intro s1 w_s1
    exact q_vret d_X12_putsBack_26 rfl w_s1
  refine q_sub (ls' := [some (vr κ a), some (vi 0)]) ⟨rfl, rfl, trivial⟩ ?_
  exact l_X12_putsBack_2 κ a hA j26 hj26 FU 0 (inr_b (Or.inl rfl)) s0 w_s0
abbrev R_X12_allArrows : Room := { frames := 3, cells := 0, slots := 0, locals := 64 }
noncomputable def f_X12_allArrows_9 (a : Nat) (k46 : Int → Mem → Res) : Nat → Int → Int → Mem → Res
  | 0, _, _, _ => none
  | n + 1, x1, x2, s0 =>
    gd ((0 : Int) ≤ 58 ∧ (58 : Int) < 1732) (if x2 < s0 (a + 1) 58 then (bd (f_X12_isAfloat a x2 s0) fun r6 s7 => jn (fun (y8 : Int) (s9 : Mem) => f_X12_allArrows_9 a k46 n (wr (x1 + y8)) (wr (x2 + 1)) s9) fun j38 => if r6 = 0 then (j38 0 s7) else (bd (f_X12_stuckIn a x2 s7) fun r11 s12 => j38 r11 s12)) else (k46 x1 s0))
noncomputable def f_X12_allArrows (a : Nat) (s0 : Mem) : Res :=
  gd ((0 : Int) ≤ 4 ∧ (4 : Int) < 1732) (jn (fun (v2 : Int) (s3 : Mem) => some (v2, s3)) fun j46 => f_X12_allArrows_9 a j46 FU (s0 (a + 1) 4) 0 s0)
set_option maxHeartbeats 4000000 in
set_option maxRecDepth 10000 in
theorem l_X12_allArrows_9 (κ : Kp) (a : Nat) (hA : At12 κ a) (k46 : Int → Mem → Res) (hk46 : ∀ (z1 : Int) (h_z1 : InR z1) (sz : Mem) (w_sz : WF sz), EO κ M_X12_allArrows R_X12_allArrows 46 [none, some (vi z1), none] [] sz (k46 z1 sz)) : ∀ (n : Nat) (x1 : Int) (h_x1 : InR x1) (x2 : Int) (h_x2 : InR x2) (s0 : Mem) (w_s0 : WF s0), EO κ M_X12_allArrows R_X12_allArrows 9 [some (vr κ a), some (vi x1), some (vi x2)] [] s0 (f_X12_allArrows_9 a k46 n x1 x2 s0) := by
  intro n
  induction n with
  | zero => exact fun _ _ _ _ _ _ => q_none
  | succ n ih =>
    intro x1 h_x1 x2 h_x2 s0 w_s0
    rw [f_X12_allArrows_9]
    refine q_iload_n (x := x2) d_X12_allArrows_9 rfl ?_
    refine q_aload_n d_X12_allArrows_10 rfl ?_
    refine q_getR (n := 1) d_X12_allArrows_11 hA.1 fi_12_7 rfl (Nat.le_of_ble_eq_true rfl) ?_
    refine q_bipush d_X12_allArrows_14 rfl ?_
    refine q_iaload (m := 1732) d_X12_allArrows_16 hA.2.1 (by decide) rfl (fun g4 => ?_)
    refine q_icmp_ge d_X12_allArrows_17 h_x2 (w_s0 _ _) (fun c5 => ?_) (fun c5 => ?_)
    · refine q_iload_n (x := x1) d_X12_allArrows_20 rfl ?_
      refine q_aload_n d_X12_allArrows_21 rfl ?_
      refine q_iload_n (x := x2) d_X12_allArrows_22 rfl ?_
      refine q_callZ (R' := R_X12_isAfloat) (runV (As := [vi x2]) (rest := [vi x1]) d_X12_allArrows_23.1 cv_12_335 rfl hA.1 rfl rfl ⟨rfl, rfl, by decide, by decide⟩ (Nat.le_of_ble_eq_true rfl) w_s0 rfl) d_X12_allArrows_23.2 (c_X12_isAfloat κ a hA x2 h_x2 s0) rfl (fun r6 s7 h_r6 w_s7 => ?_)
      refine q_jn (α := Int → Mem → Res) (fun j38 => ∀ (y8 : Int) (h_y8 : InR y8) (s9 : Mem) (w_s9 : WF s9), EO κ M_X12_allArrows R_X12_allArrows 38 [some (vr κ a), none, some (vi x2)] [vi y8, vi x1] s9 (j38 y8 s9)) ?_ (fun j38 hj38 => ?_)
      · intro y8 h_y8 s9 w_s9
        refine q_iadd d_X12_allArrows_38 ?_
        refine q_istore_n d_X12_allArrows_39 rfl ?_
        refine q_iinc (x := x2) d_X12_allArrows_40 rfl rfl ?_
        refine q_goto d_X12_allArrows_43 ?_
        refine q_sub (ls' := [some (vr κ a), some (vi (wr (x1 + y8))), some (vi (wr (x2 + 1)))]) ⟨rfl, rfl, rfl, trivial⟩ ?_
        exact ih (wr (x1 + y8)) (inr_wr _) (wr (x2 + 1)) (inr_wr _) s9 w_s9
      refine q_if_eq d_X12_allArrows_26 (inr_b h_r6) (fun c10 => ?_) (fun c10 => ?_)
      · refine q_iconst d_X12_allArrows_37 ?_
        refine q_sub (ls' := [some (vr κ a), none, some (vi x2)]) ⟨rfl, rfl, trivial⟩ ?_
        exact hj38 0 (inr_b (Or.inl rfl)) s7 w_s7
      · refine q_aload_n d_X12_allArrows_29 rfl ?_
        refine q_iload_n (x := x2) d_X12_allArrows_30 rfl ?_
        refine q_callI (R' := R_X12_stuckIn) (runV (As := [vi x2]) (rest := [vi x1]) d_X12_allArrows_31.1 cv_12_313 rfl hA.1 rfl rfl ⟨rfl, rfl, by decide, by decide⟩ (Nat.le_of_ble_eq_true rfl) w_s7 rfl) d_X12_allArrows_31.2 (c_X12_stuckIn κ a hA x2 h_x2 s7) rfl (fun r11 s12 h_r11 w_s12 => ?_)
        refine q_goto d_X12_allArrows_34 ?_
        refine q_sub (ls' := [some (vr κ a), none, some (vi x2)]) ⟨rfl, rfl, trivial⟩ ?_
        exact hj38 r11 h_r11 s12 w_s12
    · refine q_sub (ls' := [none, some (vi x1), none]) ⟨rfl, trivial⟩ ?_
      exact hk46 x1 h_x1 s0 w_s0
set_option maxHeartbeats 4000000 in
set_option maxRecDepth 10000 in
theorem c_X12_allArrows (κ : Kp) (a : Nat) (hA : At12 κ a) (s0 : Mem) : ∀ r σ', f_X12_allArrows a s0 = some (r, σ') → Ct κ M_X12_allArrows R_X12_allArrows [vr κ a] s0 r σ' := by
  intro r σ' ho
  refine Ct.of (by decide) (Nat.le_of_ble_eq_true rfl) (cat_ok rfl) (fun w_s0 => ?_) ⟨rfl, rfl⟩
  refine q_ent (ls' := [some (vr κ a), none, none]) (o := f_X12_allArrows a s0) ⟨rfl, trivial⟩ ?_ ho
  unfold f_X12_allArrows
  refine q_aload_n d_X12_allArrows_0 rfl ?_
  refine q_getR (n := 1) d_X12_allArrows_1 hA.1 fi_12_7 rfl (Nat.le_of_ble_eq_true rfl) ?_
  refine q_iconst d_X12_allArrows_4 ?_
  refine q_iaload (m := 1732) d_X12_allArrows_5 hA.2.1 (by decide) rfl (fun g1 => ?_)
  refine q_istore_n d_X12_allArrows_6 rfl ?_
  refine q_iconst d_X12_allArrows_7 ?_
  refine q_istore_n d_X12_allArrows_8 rfl ?_
  refine q_jn (α := Int → Mem → Res) (fun j46 => ∀ (v2 : Int) (h_v2 : InR v2) (s3 : Mem) (w_s3 : WF s3), EO κ M_X12_allArrows R_X12_allArrows 46 [none, some (vi v2), none] [] s3 (j46 v2 s3)) ?_ (fun j46 hj46 => ?_)
  · intro v2 h_v2 s3 w_s3
    refine q_iload_n (x := v2) d_X12_allArrows_46 rfl ?_
    exact q_ireti d_X12_allArrows_47 rfl h_v2 w_s3
  refine q_sub (ls' := [some (vr κ a), some (vi (s0 (a + 1) 4)), some (vi 0)]) ⟨rfl, rfl, rfl, trivial⟩ ?_
  exact l_X12_allArrows_9 κ a hA j46 hj46 FU (s0 (a + 1) 4) (w_s0 _ _) 0 (inr_b (Or.inl rfl)) s0 w_s0
abbrev R_X12_lostMany : Room := { frames := 3, cells := 0, slots := 0, locals := 64 }
noncomputable def f_X12_lostMany_4 (a : Nat) (k37 : Int → Mem → Res) : Nat → Int → Int → Mem → Res
  | 0, _, _, _ => none
  | n + 1, x1, x2, s0 =>
    gd ((0 : Int) ≤ 58 ∧ (58 : Int) < 1732) (if x2 < s0 (a + 1) 58 then (bd (f_X12_isAfloat a x2 s0) fun r5 s6 => jn (fun (y7 : Int) => f_X12_lostMany_4 a k37 n (wr (x1 + y7)) (wr (x2 + 1)) s6) fun j29 => if r5 = 0 then (j29 1) else (j29 0)) else (k37 x1 s0))
noncomputable def f_X12_lostMany (a : Nat) (s0 : Mem) : Res :=
  jn (fun (v1 : Int) (s2 : Mem) => some (v1, s2)) fun j37 => f_X12_lostMany_4 a j37 FU 0 0 s0
set_option maxHeartbeats 4000000 in
set_option maxRecDepth 10000 in
theorem l_X12_lostMany_4 (κ : Kp) (a : Nat) (hA : At12 κ a) (k37 : Int → Mem → Res) (hk37 : ∀ (z1 : Int) (h_z1 : InR z1) (sz : Mem) (w_sz : WF sz), EO κ M_X12_lostMany R_X12_lostMany 37 [none, some (vi z1), none] [] sz (k37 z1 sz)) : ∀ (n : Nat) (x1 : Int) (h_x1 : InR x1) (x2 : Int) (h_x2 : InR x2) (s0 : Mem) (w_s0 : WF s0), EO κ M_X12_lostMany R_X12_lostMany 4 [some (vr κ a), some (vi x1), some (vi x2)] [] s0 (f_X12_lostMany_4 a k37 n x1 x2 s0) := by
  intro n
  induction n with
  | zero => exact fun _ _ _ _ _ _ => q_none
  | succ n ih =>
    intro x1 h_x1 x2 h_x2 s0 w_s0
    rw [f_X12_lostMany_4]
    refine q_iload_n (x := x2) d_X12_lostMany_4 rfl ?_
    refine q_aload_n d_X12_lostMany_5 rfl ?_
    refine q_getR (n := 1) d_X12_lostMany_6 hA.1 fi_12_7 rfl (Nat.le_of_ble_eq_true rfl) ?_
    refine q_bipush d_X12_lostMany_9 rfl ?_
    refine q_iaload (m := 1732) d_X12_lostMany_11 hA.2.1 (by decide) rfl (fun g3 => ?_)
    refine q_icmp_ge d_X12_lostMany_12 h_x2 (w_s0 _ _) (fun c4 => ?_) (fun c4 => ?_)
    · refine q_iload_n (x := x1) d_X12_lostMany_15 rfl ?_
      refine q_aload_n d_X12_lostMany_16 rfl ?_
      refine q_iload_n (x := x2) d_X12_lostMany_17 rfl ?_
      refine q_callZ (R' := R_X12_isAfloat) (runV (As := [vi x2]) (rest := [vi x1]) d_X12_lostMany_18.1 cv_12_335 rfl hA.1 rfl rfl ⟨rfl, rfl, by decide, by decide⟩ (Nat.le_of_ble_eq_true rfl) w_s0 rfl) d_X12_lostMany_18.2 (c_X12_isAfloat κ a hA x2 h_x2 s0) rfl (fun r5 s6 h_r5 w_s6 => ?_)
      refine q_jn (α := Int → Res) (fun j29 => ∀ (y7 : Int) (h_y7 : y7 = 0 ∨ y7 = 1), EO κ M_X12_lostMany R_X12_lostMany 29 [some (vr κ a), none, some (vi x2)] [vi y7, vi x1] s6 (j29 y7)) ?_ (fun j29 hj29 => ?_)
      · intro y7 h_y7
        refine q_iadd d_X12_lostMany_29 ?_
        refine q_istore_n d_X12_lostMany_30 rfl ?_
        refine q_iinc (x := x2) d_X12_lostMany_31 rfl rfl ?_
        refine q_goto d_X12_lostMany_34 ?_
        refine q_sub (ls' := [some (vr κ a), some (vi (wr (x1 + y7))), some (vi (wr (x2 + 1)))]) ⟨rfl, rfl, rfl, trivial⟩ ?_
        exact ih (wr (x1 + y7)) (inr_wr _) (wr (x2 + 1)) (inr_wr _) s6 w_s6
      refine q_if_eq d_X12_lostMany_21 (inr_b h_r5) (fun c8 => ?_) (fun c8 => ?_)
      · refine q_iconst d_X12_lostMany_28 ?_
        refine q_sub (ls' := [some (vr κ a), none, some (vi x2)]) ⟨rfl, rfl, trivial⟩ ?_
        exact hj29 1 (Or.inr rfl)
      · refine q_iconst d_X12_lostMany_24 ?_
        refine q_goto d_X12_lostMany_25 ?_
        refine q_sub (ls' := [some (vr κ a), none, some (vi x2)]) ⟨rfl, rfl, trivial⟩ ?_
        exact hj29 0 (Or.inl rfl)
    · refine q_sub (ls' := [none, some (vi x1), none]) ⟨rfl, trivial⟩ ?_
      exact hk37 x1 h_x1 s0 w_s0
set_option maxHeartbeats 4000000 in
set_option maxRecDepth 10000 in
theorem c_X12_lostMany (κ : Kp) (a : Nat) (hA : At12 κ a) (s0 : Mem) : ∀ r σ', f_X12_lostMany a s0 = some (r, σ') → Ct κ M_X12_lostMany R_X12_lostMany [vr κ a] s0 r σ' := by
  intro r σ' ho
  refine Ct.of (by decide) (Nat.le_of_ble_eq_true rfl) (cat_ok rfl) (fun w_s0 => ?_) ⟨rfl, rfl⟩
  refine q_ent (ls' := [some (vr κ a), none, none]) (o := f_X12_lostMany a s0) ⟨rfl, trivial⟩ ?_ ho
  unfold f_X12_lostMany
  refine q_iconst d_X12_lostMany_0 ?_
  refine q_istore_n d_X12_lostMany_1 rfl ?_
  refine q_iconst d_X12_lostMany_2 ?_
  refine q_istore_n d_X12_lostMany_3 rfl ?_
  refine q_jn (α := Int → Mem → Res) (fun j37 => ∀ (v1 : Int) (h_v1 : InR v1) (s2 : Mem) (w_s2 : WF s2), EO κ M_X12_lostMany R_X12_lostMany 37 [none, some (vi v1), none] [] s2 (j37 v1 s2)) ?_ (fun j37 hj37 => ?_)
  · intro v1 h_v1 s2 w_s2
    refine q_iload_n (x := v1) d_X12_lostMany_37 rfl ?_
    exact q_ireti d_X12_lostMany_38 rfl h_v1 w_s2
  refine q_sub (ls' := [some (vr κ a), some (vi 0), some (vi 0)]) ⟨rfl, rfl, rfl, trivial⟩ ?_
  exact l_X12_lostMany_4 κ a hA j37 hj37 FU 0 (inr_b (Or.inl rfl)) 0 (inr_b (Or.inl rfl)) s0 w_s0
abbrev R_X12_goes : Room := { frames := 7, cells := 0, slots := 0, locals := 164 }
noncomputable def f_X12_goes_27 (a : Nat) (p1 : Int) (k43 : Mem → Res) : Nat → Int → Mem → Res
  | 0, _, _ => none
  | n + 1, x3, s0 =>
    if x3 < p1 then (bd (f_X12_anHour a s0) fun r22 s23 => f_X12_goes_27 a p1 k43 n (wr (x3 + 1)) s23) else (k43 s0)
noncomputable def f_X12_goes (a : Nat) (x1 : Int) (x2 : Int) (s0 : Mem) : Res :=
  bd (f_X12_isIn x1 1 99 s0) fun r1 s2 => if r1 = 0 then (some ((-1), s2)) else (bd (f_X12_isIn x2 0 2 s2) fun r4 s5 => if r4 = 0 then (some ((-1), s5)) else (bd (f_X12_lays a s5) fun r7 s8 => jn (fun (s9 : Mem) => jn (fun (y10 : Int) (s11 : Mem) => bd (f_X12_putsBack a s11) fun r12 s13 => some (y10, s13)) fun j72 => if x2 = 0 then (bd (f_X12_allArrows a s9) fun r15 s16 => j72 r15 s16) else (if x2 = 1 then (bd (f_X12_lostMany a s9) fun r18 s19 => j72 r18 s19) else (gd ((0 : Int) ≤ 3 ∧ (3 : Int) < 1732) (j72 (s9 (a + 1) 3) s9)))) fun j43 => f_X12_goes_27 a x1 j43 FU 0 s8))
set_option maxHeartbeats 4000000 in
set_option maxRecDepth 10000 in
theorem l_X12_goes_27 (κ : Kp) (a : Nat) (hA : At12 κ a) (p1 : Int) (h_p1 : InR p1) (p2 : Int) (h_p2 : InR p2) (k43 : Mem → Res) (hk43 : ∀ (sz : Mem) (w_sz : WF sz), EO κ M_X12_goes R_X12_goes 43 [some (vr κ a), none, some (vi p2), none] [] sz (k43 sz)) : ∀ (n : Nat) (x3 : Int) (h_x3 : InR x3) (s0 : Mem) (w_s0 : WF s0), EO κ M_X12_goes R_X12_goes 27 [some (vr κ a), some (vi p1), some (vi p2), some (vi x3)] [] s0 (f_X12_goes_27 a p1 k43 n x3 s0) := by
  intro n
  induction n with
  | zero => exact fun _ _ _ _ => q_none
  | succ n ih =>
    intro x3 h_x3 s0 w_s0
    rw [f_X12_goes_27]
    refine q_iload_n (x := x3) d_X12_goes_27 rfl ?_
    refine q_iload_n (x := p1) d_X12_goes_28 rfl ?_
    refine q_icmp_ge d_X12_goes_29 h_x3 h_p1 (fun c21 => ?_) (fun c21 => ?_)
    · refine q_aload_n d_X12_goes_32 rfl ?_
      refine q_callI (R' := R_X12_anHour) (runV (As := []) (rest := []) d_X12_goes_33.1 cv_12_377 rfl hA.1 rfl rfl ⟨rfl, rfl, by decide, by decide⟩ (Nat.le_of_ble_eq_true rfl) w_s0 rfl) d_X12_goes_33.2 (c_X12_anHour κ a hA s0) rfl (fun r22 s23 h_r22 w_s23 => ?_)
      refine q_pop d_X12_goes_36 rfl ?_
      refine q_iinc (x := x3) d_X12_goes_37 rfl rfl ?_
      refine q_goto d_X12_goes_40 ?_
      refine q_sub (ls' := [some (vr κ a), some (vi p1), some (vi p2), some (vi (wr (x3 + 1)))]) ⟨rfl, rfl, rfl, rfl, trivial⟩ ?_
      exact ih (wr (x3 + 1)) (inr_wr _) s23 w_s23
    · refine q_sub (ls' := [some (vr κ a), none, some (vi p2), none]) ⟨rfl, rfl, trivial⟩ ?_
      exact hk43 s0 w_s0
set_option maxHeartbeats 4000000 in
set_option maxRecDepth 10000 in
theorem c_X12_goes (κ : Kp) (a : Nat) (hA : At12 κ a) (x1 : Int) (h_x1 : InR x1) (x2 : Int) (h_x2 : InR x2) (s0 : Mem) : ∀ r σ', f_X12_goes a x1 x2 s0 = some (r, σ') → Ct κ M_X12_goes R_X12_goes [vr κ a, vi x1, vi x2] s0 r σ' := by
  intro r σ' ho
  refine Ct.of (by decide) (Nat.le_of_ble_eq_true rfl) (cat_ok rfl) (fun w_s0 => ?_) ⟨rfl, rfl⟩
  refine q_ent (ls' := [some (vr κ a), some (vi x1), some (vi x2), none]) (o := f_X12_goes a x1 x2 s0) ⟨rfl, rfl, rfl, trivial⟩ ?_ ho
  unfold f_X12_goes
  refine q_iload_n (x := x1) d_X12_goes_0 rfl ?_
  refine q_iconst d_X12_goes_1 ?_
  refine q_bipush d_X12_goes_2 rfl ?_
  refine q_callZ (R' := R_X12_isIn) (runS (As := [vi x1, vi 1, vi 99]) (rest := []) d_X12_goes_4.1 cv_12_60 rfl ⟨rfl, rfl, by decide, by decide⟩ (Nat.le_of_ble_eq_true rfl) w_s0 rfl) d_X12_goes_4.2 (c_X12_isIn κ x1 h_x1 1 (inr_b (Or.inr rfl)) 99 (inr_d rfl) s0) rfl (fun r1 s2 h_r1 w_s2 => ?_)
  refine q_if_eq d_X12_goes_7 (inr_b h_r1) (fun c3 => ?_) (fun c3 => ?_)
  · refine q_iconst d_X12_goes_19 ?_
    exact q_ireti d_X12_goes_20 rfl (inr_d rfl) w_s2
  · refine q_iload_n (x := x2) d_X12_goes_10 rfl ?_
    refine q_iconst d_X12_goes_11 ?_
    refine q_iconst d_X12_goes_12 ?_
    refine q_callZ (R' := R_X12_isIn) (runS (As := [vi x2, vi 0, vi 2]) (rest := []) d_X12_goes_13.1 cv_12_60 rfl ⟨rfl, rfl, by decide, by decide⟩ (Nat.le_of_ble_eq_true rfl) w_s2 rfl) d_X12_goes_13.2 (c_X12_isIn κ x2 h_x2 0 (inr_b (Or.inl rfl)) 2 (inr_d rfl) s2) rfl (fun r4 s5 h_r4 w_s5 => ?_)
    refine q_if_ne d_X12_goes_16 (inr_b h_r4) (fun c6 => ?_) (fun c6 => ?_)
    · refine q_iconst d_X12_goes_19 ?_
      exact q_ireti d_X12_goes_20 rfl (inr_d rfl) w_s5
    · refine q_aload_n d_X12_goes_21 rfl ?_
      refine q_callV (R' := R_X12_lays) (runV (As := []) (rest := []) d_X12_goes_22.1 cv_12_380 rfl hA.1 rfl rfl ⟨rfl, rfl, by decide, by decide⟩ (Nat.le_of_ble_eq_true rfl) w_s5 rfl) d_X12_goes_22.2 (c_X12_lays κ a hA s5) rfl (fun r7 s8 w_s8 => ?_)
      refine q_iconst d_X12_goes_25 ?_
      refine q_istore_n d_X12_goes_26 rfl ?_
      refine q_jn (α := Mem → Res) (fun j43 => ∀ (s9 : Mem) (w_s9 : WF s9), EO κ M_X12_goes R_X12_goes 43 [some (vr κ a), none, some (vi x2), none] [] s9 (j43 s9)) ?_ (fun j43 hj43 => ?_)
      · intro s9 w_s9
        refine q_iload_n (x := x2) d_X12_goes_43 rfl ?_
        refine q_jn (α := Int → Mem → Res) (fun j72 => ∀ (y10 : Int) (h_y10 : InR y10) (s11 : Mem) (w_s11 : WF s11), EO κ M_X12_goes R_X12_goes 72 [some (vr κ a), none, none, none] [vi y10] s11 (j72 y10 s11)) ?_ (fun j72 hj72 => ?_)
        · intro y10 h_y10 s11 w_s11
          refine q_istore_n d_X12_goes_72 rfl ?_
          refine q_aload_n d_X12_goes_73 rfl ?_
          refine q_callV (R' := R_X12_putsBack) (runV (As := []) (rest := []) d_X12_goes_74.1 cv_12_389 rfl hA.1 rfl rfl ⟨rfl, rfl, by decide, by decide⟩ (Nat.le_of_ble_eq_true rfl) w_s11 rfl) d_X12_goes_74.2 (c_X12_putsBack κ a hA s11) rfl (fun r12 s13 w_s13 => ?_)
          refine q_iload_n (x := y10) d_X12_goes_77 rfl ?_
          exact q_ireti d_X12_goes_78 rfl h_y10 w_s13
        refine q_if_ne d_X12_goes_44 h_x2 (fun c14 => ?_) (fun c14 => ?_)
        · refine q_aload_n d_X12_goes_47 rfl ?_
          refine q_callI (R' := R_X12_allArrows) (runV (As := []) (rest := []) d_X12_goes_48.1 cv_12_383 rfl hA.1 rfl rfl ⟨rfl, rfl, by decide, by decide⟩ (Nat.le_of_ble_eq_true rfl) w_s9 rfl) d_X12_goes_48.2 (c_X12_allArrows κ a hA s9) rfl (fun r15 s16 h_r15 w_s16 => ?_)
          refine q_goto d_X12_goes_51 ?_
          refine q_sub (ls' := [some (vr κ a), none, none, none]) ⟨rfl, trivial⟩ ?_
          exact hj72 r15 h_r15 s16 w_s16
        · refine q_iload_n (x := x2) d_X12_goes_54 rfl ?_
          refine q_iconst d_X12_goes_55 ?_
          refine q_icmp_ne d_X12_goes_56 h_x2 (inr_b (Or.inr rfl)) (fun c17 => ?_) (fun c17 => ?_)
          · refine q_aload_n d_X12_goes_59 rfl ?_
            refine q_callI (R' := R_X12_lostMany) (runV (As := []) (rest := []) d_X12_goes_60.1 cv_12_386 rfl hA.1 rfl rfl ⟨rfl, rfl, by decide, by decide⟩ (Nat.le_of_ble_eq_true rfl) w_s9 rfl) d_X12_goes_60.2 (c_X12_lostMany κ a hA s9) rfl (fun r18 s19 h_r18 w_s19 => ?_)
            refine q_goto d_X12_goes_63 ?_
            refine q_sub (ls' := [some (vr κ a), none, none, none]) ⟨rfl, trivial⟩ ?_
            exact hj72 r18 h_r18 s19 w_s19
          · refine q_aload_n d_X12_goes_66 rfl ?_
            refine q_getR (n := 1) d_X12_goes_67 hA.1 fi_12_7 rfl (Nat.le_of_ble_eq_true rfl) ?_
            refine q_iconst d_X12_goes_70 ?_
            refine q_iaload (m := 1732) d_X12_goes_71 hA.2.1 (by decide) rfl (fun g20 => ?_)
            refine q_sub (ls' := [some (vr κ a), none, none, none]) ⟨rfl, trivial⟩ ?_
            exact hj72 (s9 (a + 1) 3) (w_s9 _ _) s9 w_s9
      refine q_sub (ls' := [some (vr κ a), some (vi x1), some (vi x2), some (vi 0)]) ⟨rfl, rfl, rfl, rfl, trivial⟩ ?_
      exact l_X12_goes_27 κ a hA x1 h_x1 x2 h_x2 j43 hj43 FU 0 (inr_b (Or.inl rfl)) s8 w_s8
abbrev R_X12_stays : Room := { frames := 7, cells := 0, slots := 0, locals := 164 }
noncomputable def f_X12_stays_18 (a : Nat) (p1 : Int) (k54 : Int → Mem → Res) : Nat → Int → Int → Mem → Res
  | 0, _, _, _ => none
  | n + 1, x2, x3, s0 =>
    if 99 < x3 then (k54 x2 s0) else (if x2 = (-1) then (bd (f_X12_anHour a s0) fun r12 s13 => bd (f_X12_isAfloat a p1 s13) fun r14 s15 => jn (fun (y16 : Int) => f_X12_stays_18 a p1 k54 n y16 (wr (x3 + 1)) s15) fun j47 => if r14 = 0 then (j47 x3) else (j47 (-1))) else (k54 x2 s0))
noncomputable def f_X12_stays (a : Nat) (x1 : Int) (s0 : Mem) : Res :=
  bd (f_X12_isAfloat a x1 s0) fun r1 s2 => if r1 = 0 then (some ((-1), s2)) else (bd (f_X12_lays a s2) fun r4 s5 => jn (fun (v6 : Int) (s7 : Mem) => bd (f_X12_putsBack a s7) fun r8 s9 => some (v6, s9)) fun j54 => f_X12_stays_18 a x1 j54 FU (-1) 1 s5)
set_option maxHeartbeats 4000000 in
set_option maxRecDepth 10000 in
theorem l_X12_stays_18 (κ : Kp) (a : Nat) (hA : At12 κ a) (p1 : Int) (h_p1 : InR p1) (k54 : Int → Mem → Res) (hk54 : ∀ (z2 : Int) (h_z2 : InR z2) (sz : Mem) (w_sz : WF sz), EO κ M_X12_stays R_X12_stays 54 [some (vr κ a), none, some (vi z2), none] [] sz (k54 z2 sz)) : ∀ (n : Nat) (x2 : Int) (h_x2 : InR x2) (x3 : Int) (h_x3 : InR x3) (s0 : Mem) (w_s0 : WF s0), EO κ M_X12_stays R_X12_stays 18 [some (vr κ a), some (vi p1), some (vi x2), some (vi x3)] [] s0 (f_X12_stays_18 a p1 k54 n x2 x3 s0) := by
  intro n
  induction n with
  | zero => exact fun _ _ _ _ _ _ => q_none
  | succ n ih =>
    intro x2 h_x2 x3 h_x3 s0 w_s0
    rw [f_X12_stays_18]
    refine q_iload_n (x := x3) d_X12_stays_18 rfl ?_
    refine q_bipush d_X12_stays_19 rfl ?_
    refine q_icmp_gt d_X12_stays_21 h_x3 (inr_d rfl) (fun c10 => ?_) (fun c10 => ?_)
    · refine q_sub (ls' := [some (vr κ a), none, some (vi x2), none]) ⟨rfl, rfl, trivial⟩ ?_
      exact hk54 x2 h_x2 s0 w_s0
    · refine q_iload_n (x := x2) d_X12_stays_24 rfl ?_
      refine q_iconst d_X12_stays_25 ?_
      refine q_icmp_ne d_X12_stays_26 h_x2 (inr_d rfl) (fun c11 => ?_) (fun c11 => ?_)
      · refine q_aload_n d_X12_stays_29 rfl ?_
        refine q_callI (R' := R_X12_anHour) (runV (As := []) (rest := []) d_X12_stays_30.1 cv_12_377 rfl hA.1 rfl rfl ⟨rfl, rfl, by decide, by decide⟩ (Nat.le_of_ble_eq_true rfl) w_s0 rfl) d_X12_stays_30.2 (c_X12_anHour κ a hA s0) rfl (fun r12 s13 h_r12 w_s13 => ?_)
        refine q_pop d_X12_stays_33 rfl ?_
        refine q_aload_n d_X12_stays_34 rfl ?_
        refine q_iload_n (x := p1) d_X12_stays_35 rfl ?_
        refine q_callZ (R' := R_X12_isAfloat) (runV (As := [vi p1]) (rest := []) d_X12_stays_36.1 cv_12_335 rfl hA.1 rfl rfl ⟨rfl, rfl, by decide, by decide⟩ (Nat.le_of_ble_eq_true rfl) w_s13 rfl) d_X12_stays_36.2 (c_X12_isAfloat κ a hA p1 h_p1 s13) rfl (fun r14 s15 h_r14 w_s15 => ?_)
        refine q_jn (α := Int → Res) (fun j47 => ∀ (y16 : Int) (h_y16 : InR y16), EO κ M_X12_stays R_X12_stays 47 [some (vr κ a), some (vi p1), none, some (vi x3)] [vi y16] s15 (j47 y16)) ?_ (fun j47 hj47 => ?_)
        · intro y16 h_y16
          refine q_istore_n d_X12_stays_47 rfl ?_
          refine q_iinc (x := x3) d_X12_stays_48 rfl rfl ?_
          refine q_goto d_X12_stays_51 ?_
          refine q_sub (ls' := [some (vr κ a), some (vi p1), some (vi y16), some (vi (wr (x3 + 1)))]) ⟨rfl, rfl, rfl, rfl, trivial⟩ ?_
          exact ih y16 h_y16 (wr (x3 + 1)) (inr_wr _) s15 w_s15
        refine q_if_eq d_X12_stays_39 (inr_b h_r14) (fun c17 => ?_) (fun c17 => ?_)
        · refine q_iload_n (x := x3) d_X12_stays_46 rfl ?_
          refine q_sub (ls' := [some (vr κ a), some (vi p1), none, some (vi x3)]) ⟨rfl, rfl, rfl, trivial⟩ ?_
          exact hj47 x3 h_x3
        · refine q_iconst d_X12_stays_42 ?_
          refine q_goto d_X12_stays_43 ?_
          refine q_sub (ls' := [some (vr κ a), some (vi p1), none, some (vi x3)]) ⟨rfl, rfl, rfl, trivial⟩ ?_
          exact hj47 (-1) (inr_d rfl)
      · refine q_sub (ls' := [some (vr κ a), none, some (vi x2), none]) ⟨rfl, rfl, trivial⟩ ?_
        exact hk54 x2 h_x2 s0 w_s0
set_option maxHeartbeats 4000000 in
set_option maxRecDepth 10000 in
theorem c_X12_stays (κ : Kp) (a : Nat) (hA : At12 κ a) (x1 : Int) (h_x1 : InR x1) (s0 : Mem) : ∀ r σ', f_X12_stays a x1 s0 = some (r, σ') → Ct κ M_X12_stays R_X12_stays [vr κ a, vi x1] s0 r σ' := by
  intro r σ' ho
  refine Ct.of (by decide) (Nat.le_of_ble_eq_true rfl) (cat_ok rfl) (fun w_s0 => ?_) ⟨rfl, rfl⟩
  refine q_ent (ls' := [some (vr κ a), some (vi x1), none, none]) (o := f_X12_stays a x1 s0) ⟨rfl, rfl, trivial⟩ ?_ ho
  unfold f_X12_stays
  refine q_aload_n d_X12_stays_0 rfl ?_
  refine q_iload_n (x := x1) d_X12_stays_1 rfl ?_
  refine q_callZ (R' := R_X12_isAfloat) (runV (As := [vi x1]) (rest := []) d_X12_stays_2.1 cv_12_335 rfl hA.1 rfl rfl ⟨rfl, rfl, by decide, by decide⟩ (Nat.le_of_ble_eq_true rfl) w_s0 rfl) d_X12_stays_2.2 (c_X12_isAfloat κ a hA x1 h_x1 s0) rfl (fun r1 s2 h_r1 w_s2 => ?_)
  refine q_if_ne d_X12_stays_5 (inr_b h_r1) (fun c3 => ?_) (fun c3 => ?_)
  · refine q_iconst d_X12_stays_8 ?_
    exact q_ireti d_X12_stays_9 rfl (inr_d rfl) w_s2
  · refine q_aload_n d_X12_stays_10 rfl ?_
    refine q_callV (R' := R_X12_lays) (runV (As := []) (rest := []) d_X12_stays_11.1 cv_12_380 rfl hA.1 rfl rfl ⟨rfl, rfl, by decide, by decide⟩ (Nat.le_of_ble_eq_true rfl) w_s2 rfl) d_X12_stays_11.2 (c_X12_lays κ a hA s2) rfl (fun r4 s5 w_s5 => ?_)
    refine q_iconst d_X12_stays_14 ?_
    refine q_istore_n d_X12_stays_15 rfl ?_
    refine q_iconst d_X12_stays_16 ?_
    refine q_istore_n d_X12_stays_17 rfl ?_
    refine q_jn (α := Int → Mem → Res) (fun j54 => ∀ (v6 : Int) (h_v6 : InR v6) (s7 : Mem) (w_s7 : WF s7), EO κ M_X12_stays R_X12_stays 54 [some (vr κ a), none, some (vi v6), none] [] s7 (j54 v6 s7)) ?_ (fun j54 hj54 => ?_)
    · intro v6 h_v6 s7 w_s7
      refine q_aload_n d_X12_stays_54 rfl ?_
      refine q_callV (R' := R_X12_putsBack) (runV (As := []) (rest := []) d_X12_stays_55.1 cv_12_389 rfl hA.1 rfl rfl ⟨rfl, rfl, by decide, by decide⟩ (Nat.le_of_ble_eq_true rfl) w_s7 rfl) d_X12_stays_55.2 (c_X12_putsBack κ a hA s7) rfl (fun r8 s9 w_s9 => ?_)
      refine q_iload_n (x := v6) d_X12_stays_58 rfl ?_
      exact q_ireti d_X12_stays_59 rfl h_v6 w_s9
    refine q_sub (ls' := [some (vr κ a), some (vi x1), some (vi (-1)), some (vi 1)]) ⟨rfl, rfl, rfl, rfl, trivial⟩ ?_
    exact l_X12_stays_18 κ a hA x1 h_x1 j54 hj54 FU (-1) (inr_d rfl) 1 (inr_b (Or.inr rfl)) s5 w_s5
abbrev R_X12_keeps : Room := { frames := 7, cells := 0, slots := 0, locals := 164 }
noncomputable def f_X12_keeps_33 (a : Nat) (p1 : Int) (k69 : Int → Mem → Res) : Nat → Int → Int → Mem → Res
  | 0, _, _, _ => none
  | n + 1, x2, x3, s0 =>
    if 99 < x3 then (k69 x2 s0) else (if x2 = (-1) then (bd (f_X12_anHour a s0) fun r15 s16 => bd (f_X12_allArrows a s16) fun r17 s18 => jn (fun (y19 : Int) => f_X12_keeps_33 a p1 k69 n y19 (wr (x3 + 1)) s18) fun j62 => if r17 < p1 then (j62 (-1)) else (j62 x3)) else (k69 x2 s0))
noncomputable def f_X12_keeps (a : Nat) (x1 : Int) (s0 : Mem) : Res :=
  bd (f_X12_isIn x1 1 9999 s0) fun r1 s2 => if r1 = 0 then (some ((-1), s2)) else (bd (f_X12_lays a s2) fun r4 s5 => bd (f_X12_allArrows a s5) fun r6 s7 => jn (fun (y8 : Int) => jn (fun (v9 : Int) (s10 : Mem) => bd (f_X12_putsBack a s10) fun r11 s12 => some (v9, s12)) fun j69 => f_X12_keeps_33 a x1 j69 FU y8 1 s7) fun j30 => if r6 < x1 then (j30 (-1)) else (j30 0))
set_option maxHeartbeats 4000000 in
set_option maxRecDepth 10000 in
theorem l_X12_keeps_33 (κ : Kp) (a : Nat) (hA : At12 κ a) (p1 : Int) (h_p1 : InR p1) (k69 : Int → Mem → Res) (hk69 : ∀ (z2 : Int) (h_z2 : InR z2) (sz : Mem) (w_sz : WF sz), EO κ M_X12_keeps R_X12_keeps 69 [some (vr κ a), none, some (vi z2), none] [] sz (k69 z2 sz)) : ∀ (n : Nat) (x2 : Int) (h_x2 : InR x2) (x3 : Int) (h_x3 : InR x3) (s0 : Mem) (w_s0 : WF s0), EO κ M_X12_keeps R_X12_keeps 33 [some (vr κ a), some (vi p1), some (vi x2), some (vi x3)] [] s0 (f_X12_keeps_33 a p1 k69 n x2 x3 s0) := by
  intro n
  induction n with
  | zero => exact fun _ _ _ _ _ _ => q_none
  | succ n ih =>
    intro x2 h_x2 x3 h_x3 s0 w_s0
    rw [f_X12_keeps_33]
    refine q_iload_n (x := x3) d_X12_keeps_33 rfl ?_
    refine q_bipush d_X12_keeps_34 rfl ?_
    refine q_icmp_gt d_X12_keeps_36 h_x3 (inr_d rfl) (fun c13 => ?_) (fun c13 => ?_)
    · refine q_sub (ls' := [some (vr κ a), none, some (vi x2), none]) ⟨rfl, rfl, trivial⟩ ?_
      exact hk69 x2 h_x2 s0 w_s0
    · refine q_iload_n (x := x2) d_X12_keeps_39 rfl ?_
      refine q_iconst d_X12_keeps_40 ?_
      refine q_icmp_ne d_X12_keeps_41 h_x2 (inr_d rfl) (fun c14 => ?_) (fun c14 => ?_)
      · refine q_aload_n d_X12_keeps_44 rfl ?_
        refine q_callI (R' := R_X12_anHour) (runV (As := []) (rest := []) d_X12_keeps_45.1 cv_12_377 rfl hA.1 rfl rfl ⟨rfl, rfl, by decide, by decide⟩ (Nat.le_of_ble_eq_true rfl) w_s0 rfl) d_X12_keeps_45.2 (c_X12_anHour κ a hA s0) rfl (fun r15 s16 h_r15 w_s16 => ?_)
        refine q_pop d_X12_keeps_48 rfl ?_
        refine q_aload_n d_X12_keeps_49 rfl ?_
        refine q_callI (R' := R_X12_allArrows) (runV (As := []) (rest := []) d_X12_keeps_50.1 cv_12_383 rfl hA.1 rfl rfl ⟨rfl, rfl, by decide, by decide⟩ (Nat.le_of_ble_eq_true rfl) w_s16 rfl) d_X12_keeps_50.2 (c_X12_allArrows κ a hA s16) rfl (fun r17 s18 h_r17 w_s18 => ?_)
        refine q_iload_n (x := p1) d_X12_keeps_53 rfl ?_
        refine q_jn (α := Int → Res) (fun j62 => ∀ (y19 : Int) (h_y19 : InR y19), EO κ M_X12_keeps R_X12_keeps 62 [some (vr κ a), some (vi p1), none, some (vi x3)] [vi y19] s18 (j62 y19)) ?_ (fun j62 hj62 => ?_)
        · intro y19 h_y19
          refine q_istore_n d_X12_keeps_62 rfl ?_
          refine q_iinc (x := x3) d_X12_keeps_63 rfl rfl ?_
          refine q_goto d_X12_keeps_66 ?_
          refine q_sub (ls' := [some (vr κ a), some (vi p1), some (vi y19), some (vi (wr (x3 + 1)))]) ⟨rfl, rfl, rfl, rfl, trivial⟩ ?_
          exact ih y19 h_y19 (wr (x3 + 1)) (inr_wr _) s18 w_s18
        refine q_icmp_lt d_X12_keeps_54 h_r17 h_p1 (fun c20 => ?_) (fun c20 => ?_)
        · refine q_iconst d_X12_keeps_61 ?_
          refine q_sub (ls' := [some (vr κ a), some (vi p1), none, some (vi x3)]) ⟨rfl, rfl, rfl, trivial⟩ ?_
          exact hj62 (-1) (inr_d rfl)
        · refine q_iload_n (x := x3) d_X12_keeps_57 rfl ?_
          refine q_goto d_X12_keeps_58 ?_
          refine q_sub (ls' := [some (vr κ a), some (vi p1), none, some (vi x3)]) ⟨rfl, rfl, rfl, trivial⟩ ?_
          exact hj62 x3 h_x3
      · refine q_sub (ls' := [some (vr κ a), none, some (vi x2), none]) ⟨rfl, rfl, trivial⟩ ?_
        exact hk69 x2 h_x2 s0 w_s0
set_option maxHeartbeats 4000000 in
set_option maxRecDepth 10000 in
theorem c_X12_keeps (κ : Kp) (a : Nat) (hA : At12 κ a) (x1 : Int) (h_x1 : InR x1) (s0 : Mem) : ∀ r σ', f_X12_keeps a x1 s0 = some (r, σ') → Ct κ M_X12_keeps R_X12_keeps [vr κ a, vi x1] s0 r σ' := by
  intro r σ' ho
  refine Ct.of (by decide) (Nat.le_of_ble_eq_true rfl) (cat_ok rfl) (fun w_s0 => ?_) ⟨rfl, rfl⟩
  refine q_ent (ls' := [some (vr κ a), some (vi x1), none, none]) (o := f_X12_keeps a x1 s0) ⟨rfl, rfl, trivial⟩ ?_ ho
  unfold f_X12_keeps
  refine q_iload_n (x := x1) d_X12_keeps_0 rfl ?_
  refine q_iconst d_X12_keeps_1 ?_
  refine q_sipush d_X12_keeps_2 rfl ?_
  refine q_callZ (R' := R_X12_isIn) (runS (As := [vi x1, vi 1, vi 9999]) (rest := []) d_X12_keeps_5.1 cv_12_60 rfl ⟨rfl, rfl, by decide, by decide⟩ (Nat.le_of_ble_eq_true rfl) w_s0 rfl) d_X12_keeps_5.2 (c_X12_isIn κ x1 h_x1 1 (inr_b (Or.inr rfl)) 9999 (inr_d rfl) s0) rfl (fun r1 s2 h_r1 w_s2 => ?_)
  refine q_if_ne d_X12_keeps_8 (inr_b h_r1) (fun c3 => ?_) (fun c3 => ?_)
  · refine q_iconst d_X12_keeps_11 ?_
    exact q_ireti d_X12_keeps_12 rfl (inr_d rfl) w_s2
  · refine q_aload_n d_X12_keeps_13 rfl ?_
    refine q_callV (R' := R_X12_lays) (runV (As := []) (rest := []) d_X12_keeps_14.1 cv_12_380 rfl hA.1 rfl rfl ⟨rfl, rfl, by decide, by decide⟩ (Nat.le_of_ble_eq_true rfl) w_s2 rfl) d_X12_keeps_14.2 (c_X12_lays κ a hA s2) rfl (fun r4 s5 w_s5 => ?_)
    refine q_aload_n d_X12_keeps_17 rfl ?_
    refine q_callI (R' := R_X12_allArrows) (runV (As := []) (rest := []) d_X12_keeps_18.1 cv_12_383 rfl hA.1 rfl rfl ⟨rfl, rfl, by decide, by decide⟩ (Nat.le_of_ble_eq_true rfl) w_s5 rfl) d_X12_keeps_18.2 (c_X12_allArrows κ a hA s5) rfl (fun r6 s7 h_r6 w_s7 => ?_)
    refine q_iload_n (x := x1) d_X12_keeps_21 rfl ?_
    refine q_jn (α := Int → Res) (fun j30 => ∀ (y8 : Int) (h_y8 : InR y8), EO κ M_X12_keeps R_X12_keeps 30 [some (vr κ a), some (vi x1), none, none] [vi y8] s7 (j30 y8)) ?_ (fun j30 hj30 => ?_)
    · intro y8 h_y8
      refine q_istore_n d_X12_keeps_30 rfl ?_
      refine q_iconst d_X12_keeps_31 ?_
      refine q_istore_n d_X12_keeps_32 rfl ?_
      refine q_jn (α := Int → Mem → Res) (fun j69 => ∀ (v9 : Int) (h_v9 : InR v9) (s10 : Mem) (w_s10 : WF s10), EO κ M_X12_keeps R_X12_keeps 69 [some (vr κ a), none, some (vi v9), none] [] s10 (j69 v9 s10)) ?_ (fun j69 hj69 => ?_)
      · intro v9 h_v9 s10 w_s10
        refine q_aload_n d_X12_keeps_69 rfl ?_
        refine q_callV (R' := R_X12_putsBack) (runV (As := []) (rest := []) d_X12_keeps_70.1 cv_12_389 rfl hA.1 rfl rfl ⟨rfl, rfl, by decide, by decide⟩ (Nat.le_of_ble_eq_true rfl) w_s10 rfl) d_X12_keeps_70.2 (c_X12_putsBack κ a hA s10) rfl (fun r11 s12 w_s12 => ?_)
        refine q_iload_n (x := v9) d_X12_keeps_73 rfl ?_
        exact q_ireti d_X12_keeps_74 rfl h_v9 w_s12
      refine q_sub (ls' := [some (vr κ a), some (vi x1), some (vi y8), some (vi 1)]) ⟨rfl, rfl, rfl, rfl, trivial⟩ ?_
      exact l_X12_keeps_33 κ a hA x1 h_x1 j69 hj69 FU y8 h_y8 1 (inr_b (Or.inr rfl)) s7 w_s7
    refine q_icmp_lt d_X12_keeps_22 h_r6 h_x1 (fun c21 => ?_) (fun c21 => ?_)
    · refine q_iconst d_X12_keeps_29 ?_
      refine q_sub (ls' := [some (vr κ a), some (vi x1), none, none]) ⟨rfl, rfl, trivial⟩ ?_
      exact hj30 (-1) (inr_d rfl)
    · refine q_iconst d_X12_keeps_25 ?_
      refine q_goto d_X12_keeps_26 ?_
      refine q_sub (ls' := [some (vr κ a), some (vi x1), none, none]) ⟨rfl, rfl, trivial⟩ ?_
      exact hj30 0 (inr_b (Or.inl rfl))
abbrev R_X12_turnedBy : Room := { frames := 7, cells := 0, slots := 0, locals := 164 }
noncomputable def f_X12_turnedBy_7 (a : Nat) (p1 : Int) (p2 : Int) (p3 : Int) (k47 : Mem → Res) : Nat → Int → Mem → Res
  | 0, _, _ => none
  | n + 1, x4, s0 =>
    if x4 < p2 then (jn (fun (s14 : Mem) => bd (f_X12_anHour a s14) fun r15 s16 => f_X12_turnedBy_7 a p1 p2 p3 k47 n (wr (x4 + 1)) s16) fun j36 => if iand (ishr p3 x4) 1 = 1 then (bd (f_X12_isAfloat a p1 s0) fun r18 s19 => if r18 = 0 then (j36 s19) else (bd (f_X12_turns0 a p1 s19) fun r21 s22 => j36 s22)) else (j36 s0)) else (k47 s0)
noncomputable def f_X12_turnedBy (a : Nat) (x1 : Int) (x2 : Int) (x3 : Int) (s0 : Mem) : Res :=
  bd (f_X12_lays a s0) fun r1 s2 => jn (fun (s3 : Mem) => bd (f_X12_isAfloat a x1 s3) fun r4 s5 => jn (fun (y6 : Int) (s7 : Mem) => bd (f_X12_putsBack a s7) fun r8 s9 => some (y6, s9)) fun j64 => if r4 = 0 then (j64 (-1) s5) else (bd (f_X12_stuckIn a x1 s5) fun r11 s12 => j64 r11 s12)) fun j47 => f_X12_turnedBy_7 a x1 x2 x3 j47 FU 0 s2
set_option maxHeartbeats 4000000 in
set_option maxRecDepth 10000 in
theorem l_X12_turnedBy_7 (κ : Kp) (a : Nat) (hA : At12 κ a) (p1 : Int) (h_p1 : InR p1) (p2 : Int) (h_p2 : InR p2) (p3 : Int) (h_p3 : InR p3) (k47 : Mem → Res) (hk47 : ∀ (sz : Mem) (w_sz : WF sz), EO κ M_X12_turnedBy R_X12_turnedBy 47 [some (vr κ a), some (vi p1), none, none, none] [] sz (k47 sz)) : ∀ (n : Nat) (x4 : Int) (h_x4 : InR x4) (s0 : Mem) (w_s0 : WF s0), EO κ M_X12_turnedBy R_X12_turnedBy 7 [some (vr κ a), some (vi p1), some (vi p2), some (vi p3), some (vi x4)] [] s0 (f_X12_turnedBy_7 a p1 p2 p3 k47 n x4 s0) := by
  intro n
  induction n with
  | zero => exact fun _ _ _ _ => q_none
  | succ n ih =>
    intro x4 h_x4 s0 w_s0
    rw [f_X12_turnedBy_7]
    refine q_iload (x := x4) d_X12_turnedBy_7 rfl ?_
    refine q_iload_n (x := p2) d_X12_turnedBy_9 rfl ?_
    refine q_icmp_ge d_X12_turnedBy_10 h_x4 h_p2 (fun c13 => ?_) (fun c13 => ?_)
    · refine q_iload_n (x := p3) d_X12_turnedBy_13 rfl ?_
      refine q_iload (x := x4) d_X12_turnedBy_14 rfl ?_
      refine q_ishr d_X12_turnedBy_16 ?_
      refine q_iconst d_X12_turnedBy_17 ?_
      refine q_iand d_X12_turnedBy_18 ?_
      refine q_iconst d_X12_turnedBy_19 ?_
      refine q_jn (α := Mem → Res) (fun j36 => ∀ (s14 : Mem) (w_s14 : WF s14), EO κ M_X12_turnedBy R_X12_turnedBy 36 [some (vr κ a), some (vi p1), some (vi p2), some (vi p3), some (vi x4)] [] s14 (j36 s14)) ?_ (fun j36 hj36 => ?_)
      · intro s14 w_s14
        refine q_aload_n d_X12_turnedBy_36 rfl ?_
        refine q_callI (R' := R_X12_anHour) (runV (As := []) (rest := []) d_X12_turnedBy_37.1 cv_12_377 rfl hA.1 rfl rfl ⟨rfl, rfl, by decide, by decide⟩ (Nat.le_of_ble_eq_true rfl) w_s14 rfl) d_X12_turnedBy_37.2 (c_X12_anHour κ a hA s14) rfl (fun r15 s16 h_r15 w_s16 => ?_)
        refine q_pop d_X12_turnedBy_40 rfl ?_
        refine q_iinc (x := x4) d_X12_turnedBy_41 rfl rfl ?_
        refine q_goto d_X12_turnedBy_44 ?_
        refine q_sub (ls' := [some (vr κ a), some (vi p1), some (vi p2), some (vi p3), some (vi (wr (x4 + 1)))]) ⟨rfl, rfl, rfl, rfl, rfl, trivial⟩ ?_
        exact ih (wr (x4 + 1)) (inr_wr _) s16 w_s16
      refine q_icmp_ne d_X12_turnedBy_20 (inr_i32 _) (inr_b (Or.inr rfl)) (fun c17 => ?_) (fun c17 => ?_)
      · refine q_aload_n d_X12_turnedBy_23 rfl ?_
        refine q_iload_n (x := p1) d_X12_turnedBy_24 rfl ?_
        refine q_callZ (R' := R_X12_isAfloat) (runV (As := [vi p1]) (rest := []) d_X12_turnedBy_25.1 cv_12_335 rfl hA.1 rfl rfl ⟨rfl, rfl, by decide, by decide⟩ (Nat.le_of_ble_eq_true rfl) w_s0 rfl) d_X12_turnedBy_25.2 (c_X12_isAfloat κ a hA p1 h_p1 s0) rfl (fun r18 s19 h_r18 w_s19 => ?_)
        refine q_if_eq d_X12_turnedBy_28 (inr_b h_r18) (fun c20 => ?_) (fun c20 => ?_)
        · refine q_sub (ls' := [some (vr κ a), some (vi p1), some (vi p2), some (vi p3), some (vi x4)]) ⟨rfl, rfl, rfl, rfl, rfl, trivial⟩ ?_
          exact hj36 s19 w_s19
        · refine q_aload_n d_X12_turnedBy_31 rfl ?_
          refine q_iload_n (x := p1) d_X12_turnedBy_32 rfl ?_
          refine q_callV (R' := R_X12_turns0) (runV (As := [vi p1]) (rest := []) d_X12_turnedBy_33.1 cv_12_341 rfl hA.1 rfl rfl ⟨rfl, rfl, by decide, by decide⟩ (Nat.le_of_ble_eq_true rfl) w_s19 rfl) d_X12_turnedBy_33.2 (c_X12_turns0 κ a hA p1 h_p1 s19) rfl (fun r21 s22 w_s22 => ?_)
          refine q_sub (ls' := [some (vr κ a), some (vi p1), some (vi p2), some (vi p3), some (vi x4)]) ⟨rfl, rfl, rfl, rfl, rfl, trivial⟩ ?_
          exact hj36 s22 w_s22
      · refine q_sub (ls' := [some (vr κ a), some (vi p1), some (vi p2), some (vi p3), some (vi x4)]) ⟨rfl, rfl, rfl, rfl, rfl, trivial⟩ ?_
        exact hj36 s0 w_s0
    · refine q_sub (ls' := [some (vr κ a), some (vi p1), none, none, none]) ⟨rfl, rfl, trivial⟩ ?_
      exact hk47 s0 w_s0
set_option maxHeartbeats 4000000 in
set_option maxRecDepth 10000 in
theorem c_X12_turnedBy (κ : Kp) (a : Nat) (hA : At12 κ a) (x1 : Int) (h_x1 : InR x1) (x2 : Int) (h_x2 : InR x2) (x3 : Int) (h_x3 : InR x3) (s0 : Mem) : ∀ r σ', f_X12_turnedBy a x1 x2 x3 s0 = some (r, σ') → Ct κ M_X12_turnedBy R_X12_turnedBy [vr κ a, vi x1, vi x2, vi x3] s0 r σ' := by
  intro r σ' ho
  refine Ct.of (by decide) (Nat.le_of_ble_eq_true rfl) (cat_ok rfl) (fun w_s0 => ?_) ⟨rfl, rfl⟩
  refine q_ent (ls' := [some (vr κ a), some (vi x1), some (vi x2), some (vi x3), none]) (o := f_X12_turnedBy a x1 x2 x3 s0) ⟨rfl, rfl, rfl, rfl, trivial⟩ ?_ ho
  unfold f_X12_turnedBy
  refine q_aload_n d_X12_turnedBy_0 rfl ?_
  refine q_callV (R' := R_X12_lays) (runV (As := []) (rest := []) d_X12_turnedBy_1.1 cv_12_380 rfl hA.1 rfl rfl ⟨rfl, rfl, by decide, by decide⟩ (Nat.le_of_ble_eq_true rfl) w_s0 rfl) d_X12_turnedBy_1.2 (c_X12_lays κ a hA s0) rfl (fun r1 s2 w_s2 => ?_)
  refine q_iconst d_X12_turnedBy_4 ?_
  refine q_istore d_X12_turnedBy_5 rfl ?_
  refine q_jn (α := Mem → Res) (fun j47 => ∀ (s3 : Mem) (w_s3 : WF s3), EO κ M_X12_turnedBy R_X12_turnedBy 47 [some (vr κ a), some (vi x1), none, none, none] [] s3 (j47 s3)) ?_ (fun j47 hj47 => ?_)
  · intro s3 w_s3
    refine q_aload_n d_X12_turnedBy_47 rfl ?_
    refine q_iload_n (x := x1) d_X12_turnedBy_48 rfl ?_
    refine q_callZ (R' := R_X12_isAfloat) (runV (As := [vi x1]) (rest := []) d_X12_turnedBy_49.1 cv_12_335 rfl hA.1 rfl rfl ⟨rfl, rfl, by decide, by decide⟩ (Nat.le_of_ble_eq_true rfl) w_s3 rfl) d_X12_turnedBy_49.2 (c_X12_isAfloat κ a hA x1 h_x1 s3) rfl (fun r4 s5 h_r4 w_s5 => ?_)
    refine q_jn (α := Int → Mem → Res) (fun j64 => ∀ (y6 : Int) (h_y6 : InR y6) (s7 : Mem) (w_s7 : WF s7), EO κ M_X12_turnedBy R_X12_turnedBy 64 [some (vr κ a), none, none, none, none] [vi y6] s7 (j64 y6 s7)) ?_ (fun j64 hj64 => ?_)
    · intro y6 h_y6 s7 w_s7
      refine q_istore d_X12_turnedBy_64 rfl ?_
      refine q_aload_n d_X12_turnedBy_66 rfl ?_
      refine q_callV (R' := R_X12_putsBack) (runV (As := []) (rest := []) d_X12_turnedBy_67.1 cv_12_389 rfl hA.1 rfl rfl ⟨rfl, rfl, by decide, by decide⟩ (Nat.le_of_ble_eq_true rfl) w_s7 rfl) d_X12_turnedBy_67.2 (c_X12_putsBack κ a hA s7) rfl (fun r8 s9 w_s9 => ?_)
      refine q_iload (x := y6) d_X12_turnedBy_70 rfl ?_
      exact q_ireti d_X12_turnedBy_72 rfl h_y6 w_s9
    refine q_if_eq d_X12_turnedBy_52 (inr_b h_r4) (fun c10 => ?_) (fun c10 => ?_)
    · refine q_iconst d_X12_turnedBy_63 ?_
      refine q_sub (ls' := [some (vr κ a), none, none, none, none]) ⟨rfl, trivial⟩ ?_
      exact hj64 (-1) (inr_d rfl) s5 w_s5
    · refine q_aload_n d_X12_turnedBy_55 rfl ?_
      refine q_iload_n (x := x1) d_X12_turnedBy_56 rfl ?_
      refine q_callI (R' := R_X12_stuckIn) (runV (As := [vi x1]) (rest := []) d_X12_turnedBy_57.1 cv_12_313 rfl hA.1 rfl rfl ⟨rfl, rfl, by decide, by decide⟩ (Nat.le_of_ble_eq_true rfl) w_s5 rfl) d_X12_turnedBy_57.2 (c_X12_stuckIn κ a hA x1 h_x1 s5) rfl (fun r11 s12 h_r11 w_s12 => ?_)
      refine q_goto d_X12_turnedBy_60 ?_
      refine q_sub (ls' := [some (vr κ a), none, none, none, none]) ⟨rfl, trivial⟩ ?_
      exact hj64 r11 h_r11 s12 w_s12
  refine q_sub (ls' := [some (vr κ a), some (vi x1), some (vi x2), some (vi x3), some (vi 0)]) ⟨rfl, rfl, rfl, rfl, rfl, trivial⟩ ?_
  exact l_X12_turnedBy_7 κ a hA x1 h_x1 x2 h_x2 x3 h_x3 j47 hj47 FU 0 (inr_b (Or.inl rfl)) s2 w_s2
abbrev R_X12_turnings : Room := { frames := 8, cells := 0, slots := 0, locals := 188 }
noncomputable def f_X12_turnings_38 (a : Nat) (p1 : Int) (p2 : Int) (k80 : Int → Int → Mem → Res) : Nat → Int → Int → Int → Mem → Res
  | 0, _, _, _, _ => none
  | n + 1, x4, x5, x6, s0 =>
    if x6 < ishl 1 p2 then (bd (f_X12_turnedBy a p1 p2 x6 s0) fun r15 s16 => jn (fun (v17 : Int) (v18 : Int) => f_X12_turnings_38 a p1 p2 k80 n v17 v18 (wr (x6 + 1)) s16) fun j74 => if x5 < r15 then (j74 x6 r15) else (j74 x4 x5)) else (k80 x4 x5 s0)
noncomputable def f_X12_turnings (a : Nat) (x1 : Int) (x2 : Int) (x3 : Int) (s0 : Mem) : Res :=
  bd (f_X12_isAfloat a x1 s0) fun r1 s2 => if r1 = 0 then (some ((-1), s2)) else (bd (f_X12_isIn x2 1 10 s2) fun r4 s5 => if r4 = 0 then (some ((-1), s5)) else (bd (f_X12_isIn x3 0 1 s5) fun r7 s8 => if r7 = 0 then (some ((-1), s8)) else (jn (fun (v10 : Int) (v11 : Int) (s12 : Mem) => if x3 = 0 then (some (v11, s12)) else (some (v10, s12))) fun j80 => f_X12_turnings_38 a x1 x2 j80 FU (-1) (-1) 0 s8)))
set_option maxHeartbeats 4000000 in
set_option maxRecDepth 10000 in
theorem l_X12_turnings_38 (κ : Kp) (a : Nat) (hA : At12 κ a) (p1 : Int) (h_p1 : InR p1) (p2 : Int) (h_p2 : InR p2) (p3 : Int) (h_p3 : InR p3) (k80 : Int → Int → Mem → Res) (hk80 : ∀ (z4 : Int) (h_z4 : InR z4) (z5 : Int) (h_z5 : InR z5) (sz : Mem) (w_sz : WF sz), EO κ M_X12_turnings R_X12_turnings 80 [none, none, none, some (vi p3), some (vi z4), some (vi z5), none, none] [] sz (k80 z4 z5 sz)) : ∀ (n : Nat) (x4 : Int) (h_x4 : InR x4) (x5 : Int) (h_x5 : InR x5) (x6 : Int) (h_x6 : InR x6) (s0 : Mem) (w_s0 : WF s0), EO κ M_X12_turnings R_X12_turnings 38 [some (vr κ a), some (vi p1), some (vi p2), some (vi p3), some (vi x4), some (vi x5), some (vi x6), none] [] s0 (f_X12_turnings_38 a p1 p2 k80 n x4 x5 x6 s0) := by
  intro n
  induction n with
  | zero => exact fun _ _ _ _ _ _ _ _ => q_none
  | succ n ih =>
    intro x4 h_x4 x5 h_x5 x6 h_x6 s0 w_s0
    rw [f_X12_turnings_38]
    refine q_iload (x := x6) d_X12_turnings_38 rfl ?_
    refine q_iconst d_X12_turnings_40 ?_
    refine q_iload_n (x := p2) d_X12_turnings_41 rfl ?_
    refine q_ishl d_X12_turnings_42 ?_
    refine q_icmp_ge d_X12_turnings_43 h_x6 (inr_i32 _) (fun c14 => ?_) (fun c14 => ?_)
    · refine q_aload_n d_X12_turnings_46 rfl ?_
      refine q_iload_n (x := p1) d_X12_turnings_47 rfl ?_
      refine q_iload_n (x := p2) d_X12_turnings_48 rfl ?_
      refine q_iload (x := x6) d_X12_turnings_49 rfl ?_
      refine q_callI (R' := R_X12_turnedBy) (runV (As := [vi p1, vi p2, vi x6]) (rest := []) d_X12_turnings_51.1 cv_12_392 rfl hA.1 rfl rfl ⟨rfl, rfl, by decide, by decide⟩ (Nat.le_of_ble_eq_true rfl) w_s0 rfl) d_X12_turnings_51.2 (c_X12_turnedBy κ a hA p1 h_p1 p2 h_p2 x6 h_x6 s0) rfl (fun r15 s16 h_r15 w_s16 => ?_)
      refine q_istore d_X12_turnings_54 rfl ?_
      refine q_iload (x := r15) d_X12_turnings_56 rfl ?_
      refine q_iload (x := x5) d_X12_turnings_58 rfl ?_
      refine q_jn (α := Int → Int → Res) (fun j74 => ∀ (v17 : Int) (h_v17 : InR v17) (v18 : Int) (h_v18 : InR v18), EO κ M_X12_turnings R_X12_turnings 74 [some (vr κ a), some (vi p1), some (vi p2), some (vi p3), some (vi v17), some (vi v18), some (vi x6), none] [] s16 (j74 v17 v18)) ?_ (fun j74 hj74 => ?_)
      · intro v17 h_v17 v18 h_v18
        refine q_iinc (x := x6) d_X12_turnings_74 rfl rfl ?_
        refine q_goto d_X12_turnings_77 ?_
        refine q_sub (ls' := [some (vr κ a), some (vi p1), some (vi p2), some (vi p3), some (vi v17), some (vi v18), some (vi (wr (x6 + 1))), none]) ⟨rfl, rfl, rfl, rfl, rfl, rfl, rfl, trivial⟩ ?_
        exact ih v17 h_v17 v18 h_v18 (wr (x6 + 1)) (inr_wr _) s16 w_s16
      refine q_icmp_gt d_X12_turnings_60 h_r15 h_x5 (fun c19 => ?_) (fun c19 => ?_)
      · refine q_iload (x := r15) d_X12_turnings_66 rfl ?_
        refine q_istore d_X12_turnings_68 rfl ?_
        refine q_iload (x := x6) d_X12_turnings_70 rfl ?_
        refine q_istore d_X12_turnings_72 rfl ?_
        refine q_sub (ls' := [some (vr κ a), some (vi p1), some (vi p2), some (vi p3), some (vi x6), some (vi r15), some (vi x6), none]) ⟨rfl, rfl, rfl, rfl, rfl, rfl, rfl, trivial⟩ ?_
        exact hj74 x6 h_x6 r15 h_r15
      · refine q_goto d_X12_turnings_63 ?_
        refine q_sub (ls' := [some (vr κ a), some (vi p1), some (vi p2), some (vi p3), some (vi x4), some (vi x5), some (vi x6), none]) ⟨rfl, rfl, rfl, rfl, rfl, rfl, rfl, trivial⟩ ?_
        exact hj74 x4 h_x4 x5 h_x5
    · refine q_sub (ls' := [none, none, none, some (vi p3), some (vi x4), some (vi x5), none, none]) ⟨rfl, rfl, rfl, trivial⟩ ?_
      exact hk80 x4 h_x4 x5 h_x5 s0 w_s0
set_option maxHeartbeats 4000000 in
set_option maxRecDepth 10000 in
theorem c_X12_turnings (κ : Kp) (a : Nat) (hA : At12 κ a) (x1 : Int) (h_x1 : InR x1) (x2 : Int) (h_x2 : InR x2) (x3 : Int) (h_x3 : InR x3) (s0 : Mem) : ∀ r σ', f_X12_turnings a x1 x2 x3 s0 = some (r, σ') → Ct κ M_X12_turnings R_X12_turnings [vr κ a, vi x1, vi x2, vi x3] s0 r σ' := by
  intro r σ' ho
  refine Ct.of (by decide) (Nat.le_of_ble_eq_true rfl) (cat_ok rfl) (fun w_s0 => ?_) ⟨rfl, rfl⟩
  refine q_ent (ls' := [some (vr κ a), some (vi x1), some (vi x2), some (vi x3), none, none, none, none]) (o := f_X12_turnings a x1 x2 x3 s0) ⟨rfl, rfl, rfl, rfl, trivial⟩ ?_ ho
  unfold f_X12_turnings
  refine q_aload_n d_X12_turnings_0 rfl ?_
  refine q_iload_n (x := x1) d_X12_turnings_1 rfl ?_
  refine q_callZ (R' := R_X12_isAfloat) (runV (As := [vi x1]) (rest := []) d_X12_turnings_2.1 cv_12_335 rfl hA.1 rfl rfl ⟨rfl, rfl, by decide, by decide⟩ (Nat.le_of_ble_eq_true rfl) w_s0 rfl) d_X12_turnings_2.2 (c_X12_isAfloat κ a hA x1 h_x1 s0) rfl (fun r1 s2 h_r1 w_s2 => ?_)
  refine q_if_eq d_X12_turnings_5 (inr_b h_r1) (fun c3 => ?_) (fun c3 => ?_)
  · refine q_iconst d_X12_turnings_27 ?_
    exact q_ireti d_X12_turnings_28 rfl (inr_d rfl) w_s2
  · refine q_iload_n (x := x2) d_X12_turnings_8 rfl ?_
    refine q_iconst d_X12_turnings_9 ?_
    refine q_bipush d_X12_turnings_10 rfl ?_
    refine q_callZ (R' := R_X12_isIn) (runS (As := [vi x2, vi 1, vi 10]) (rest := []) d_X12_turnings_12.1 cv_12_60 rfl ⟨rfl, rfl, by decide, by decide⟩ (Nat.le_of_ble_eq_true rfl) w_s2 rfl) d_X12_turnings_12.2 (c_X12_isIn κ x2 h_x2 1 (inr_b (Or.inr rfl)) 10 (inr_d rfl) s2) rfl (fun r4 s5 h_r4 w_s5 => ?_)
    refine q_if_eq d_X12_turnings_15 (inr_b h_r4) (fun c6 => ?_) (fun c6 => ?_)
    · refine q_iconst d_X12_turnings_27 ?_
      exact q_ireti d_X12_turnings_28 rfl (inr_d rfl) w_s5
    · refine q_iload_n (x := x3) d_X12_turnings_18 rfl ?_
      refine q_iconst d_X12_turnings_19 ?_
      refine q_iconst d_X12_turnings_20 ?_
      refine q_callZ (R' := R_X12_isIn) (runS (As := [vi x3, vi 0, vi 1]) (rest := []) d_X12_turnings_21.1 cv_12_60 rfl ⟨rfl, rfl, by decide, by decide⟩ (Nat.le_of_ble_eq_true rfl) w_s5 rfl) d_X12_turnings_21.2 (c_X12_isIn κ x3 h_x3 0 (inr_b (Or.inl rfl)) 1 (inr_b (Or.inr rfl)) s5) rfl (fun r7 s8 h_r7 w_s8 => ?_)
      refine q_if_ne d_X12_turnings_24 (inr_b h_r7) (fun c9 => ?_) (fun c9 => ?_)
      · refine q_iconst d_X12_turnings_27 ?_
        exact q_ireti d_X12_turnings_28 rfl (inr_d rfl) w_s8
      · refine q_iconst d_X12_turnings_29 ?_
        refine q_istore d_X12_turnings_30 rfl ?_
        refine q_iconst d_X12_turnings_32 ?_
        refine q_istore d_X12_turnings_33 rfl ?_
        refine q_iconst d_X12_turnings_35 ?_
        refine q_istore d_X12_turnings_36 rfl ?_
        refine q_jn (α := Int → Int → Mem → Res) (fun j80 => ∀ (v10 : Int) (h_v10 : InR v10) (v11 : Int) (h_v11 : InR v11) (s12 : Mem) (w_s12 : WF s12), EO κ M_X12_turnings R_X12_turnings 80 [none, none, none, some (vi x3), some (vi v10), some (vi v11), none, none] [] s12 (j80 v10 v11 s12)) ?_ (fun j80 hj80 => ?_)
        · intro v10 h_v10 v11 h_v11 s12 w_s12
          refine q_iload_n (x := x3) d_X12_turnings_80 rfl ?_
          refine q_if_ne d_X12_turnings_81 h_x3 (fun c13 => ?_) (fun c13 => ?_)
          · refine q_iload (x := v11) d_X12_turnings_84 rfl ?_
            refine q_goto d_X12_turnings_86 ?_
            exact q_ireti d_X12_turnings_91 rfl h_v11 w_s12
          · refine q_iload (x := v10) d_X12_turnings_89 rfl ?_
            exact q_ireti d_X12_turnings_91 rfl h_v10 w_s12
        refine q_sub (ls' := [some (vr κ a), some (vi x1), some (vi x2), some (vi x3), some (vi (-1)), some (vi (-1)), some (vi 0), none]) ⟨rfl, rfl, rfl, rfl, rfl, rfl, rfl, trivial⟩ ?_
        exact l_X12_turnings_38 κ a hA x1 h_x1 x2 h_x2 x3 h_x3 j80 hj80 FU (-1) (inr_d rfl) (-1) (inr_d rfl) 0 (inr_b (Or.inl rfl)) s8 w_s8
abbrev R_X12_lies : Room := { frames := 7, cells := 0, slots := 0, locals := 164 }
noncomputable def f_X12_lies_80 (a : Nat) (p1 : Int) (k97 : Mem → Res) : Nat → Int → Mem → Res
  | 0, _, _ => none
  | n + 1, x6, s0 =>
    if x6 < p1 then (bd (f_X12_anHour a s0) fun r24 s25 => f_X12_lies_80 a p1 k97 n (wr (x6 + 1)) s25) else (k97 s0)
noncomputable def f_X12_lies_38 (a : Nat) (p5 : Int) (k77 : Mem → Res) : Nat → Int → Mem → Res
  | 0, _, _ => none
  | n + 1, x6, s0 =>
    gd ((0 : Int) ≤ 58 ∧ (58 : Int) < 1732) (if x6 < s0 (a + 1) 58 then (bd (f_X12_isAfloat a x6 s0) fun r28 s29 => jn (fun (s30 : Mem) => f_X12_lies_38 a p5 k77 n (wr (x6 + 1)) s30) fun j71 => if r28 = 0 then (j71 s29) else (gd ((0 : Int) ≤ wr (7 + x6) ∧ wr (7 + x6) < 1732) (lm (mup s29 (a + 1) (wr (7 + x6)) p5) fun s33 => j71 s33))) else (k77 s0))
noncomputable def f_X12_lies_24 (a : Nat) (p1 : Int) (k151 : Int → Mem → Res) : Nat → Int → Int → Int → Int → Mem → Res
  | 0, _, _, _, _, _ => none
  | n + 1, x2, x3, x4, x5, s0 =>
    if x5 < 16 then (bd (f_X12_lays a s0) fun r7 s8 => jn (fun (s9 : Mem) => jn (fun (s10 : Mem) => bd (f_X12_lostMany a s10) fun r11 s12 => bd (f_X12_allArrows a s12) fun r13 s14 => bd (f_X12_putsBack a s14) fun r15 s16 => jn (fun (v17 : Int) (v18 : Int) (v19 : Int) => f_X12_lies_24 a p1 k151 n v17 v18 v19 (wr (x5 + 1)) s16) fun j145 => if x3 < r11 then (j145 x2 x3 x4) else (jn (fun (_ : Unit) => j145 x5 r11 r13) fun j135 => if r11 = x3 then (if x4 < r13 then (j135 ()) else (j145 x2 x3 x4)) else (j135 ()))) fun j97 => f_X12_lies_80 a p1 j97 FU 0 s9) fun j77 => f_X12_lies_38 a x5 j77 FU 0 s8) else (k151 x2 s0)
noncomputable def f_X12_lies (a : Nat) (x1 : Int) (s0 : Mem) : Res :=
  bd (f_X12_isIn x1 1 20 s0) fun r1 s2 => if r1 = 0 then (some ((-1), s2)) else (jn (fun (v4 : Int) (s5 : Mem) => some (v4, s5)) fun j151 => f_X12_lies_24 a x1 j151 FU (-1) 100000000 (-1) 0 s2)
set_option maxHeartbeats 4000000 in
set_option maxRecDepth 10000 in
theorem l_X12_lies_80 (κ : Kp) (a : Nat) (hA : At12 κ a) (p1 : Int) (h_p1 : InR p1) (p2 : Int) (h_p2 : InR p2) (p3 : Int) (h_p3 : InR p3) (p4 : Int) (h_p4 : InR p4) (p5 : Int) (h_p5 : InR p5) (k97 : Mem → Res) (hk97 : ∀ (sz : Mem) (w_sz : WF sz), EO κ M_X12_lies R_X12_lies 97 [some (vr κ a), some (vi p1), some (vi p2), some (vi p3), some (vi p4), some (vi p5), none, none] [] sz (k97 sz)) : ∀ (n : Nat) (x6 : Int) (h_x6 : InR x6) (s0 : Mem) (w_s0 : WF s0), EO κ M_X12_lies R_X12_lies 80 [some (vr κ a), some (vi p1), some (vi p2), some (vi p3), some (vi p4), some (vi p5), some (vi x6), none] [] s0 (f_X12_lies_80 a p1 k97 n x6 s0) := by
  intro n
  induction n with
  | zero => exact fun _ _ _ _ => q_none
  | succ n ih =>
    intro x6 h_x6 s0 w_s0
    rw [f_X12_lies_80]
    refine q_iload (x := x6) d_X12_lies_80 rfl ?_
    refine q_iload_n (x := p1) d_X12_lies_82 rfl ?_
    refine q_icmp_ge d_X12_lies_83 h_x6 h_p1 (fun c23 => ?_) (fun c23 => ?_)
    · refine q_aload_n d_X12_lies_86 rfl ?_
      refine q_callI (R' := R_X12_anHour) (runV (As := []) (rest := []) d_X12_lies_87.1 cv_12_377 rfl hA.1 rfl rfl ⟨rfl, rfl, by decide, by decide⟩ (Nat.le_of_ble_eq_true rfl) w_s0 rfl) d_X12_lies_87.2 (c_X12_anHour κ a hA s0) rfl (fun r24 s25 h_r24 w_s25 => ?_)
      refine q_pop d_X12_lies_90 rfl ?_
      refine q_iinc (x := x6) d_X12_lies_91 rfl rfl ?_
      refine q_goto d_X12_lies_94 ?_
      refine q_sub (ls' := [some (vr κ a), some (vi p1), some (vi p2), some (vi p3), some (vi p4), some (vi p5), some (vi (wr (x6 + 1))), none]) ⟨rfl, rfl, rfl, rfl, rfl, rfl, rfl, trivial⟩ ?_
      exact ih (wr (x6 + 1)) (inr_wr _) s25 w_s25
    · refine q_sub (ls' := [some (vr κ a), some (vi p1), some (vi p2), some (vi p3), some (vi p4), some (vi p5), none, none]) ⟨rfl, rfl, rfl, rfl, rfl, rfl, trivial⟩ ?_
      exact hk97 s0 w_s0
set_option maxHeartbeats 4000000 in
set_option maxRecDepth 10000 in
theorem l_X12_lies_38 (κ : Kp) (a : Nat) (hA : At12 κ a) (p1 : Int) (h_p1 : InR p1) (p2 : Int) (h_p2 : InR p2) (p3 : Int) (h_p3 : InR p3) (p4 : Int) (h_p4 : InR p4) (p5 : Int) (h_p5 : InR p5) (k77 : Mem → Res) (hk77 : ∀ (sz : Mem) (w_sz : WF sz), EO κ M_X12_lies R_X12_lies 77 [some (vr κ a), some (vi p1), some (vi p2), some (vi p3), some (vi p4), some (vi p5), none, none] [] sz (k77 sz)) : ∀ (n : Nat) (x6 : Int) (h_x6 : InR x6) (s0 : Mem) (w_s0 : WF s0), EO κ M_X12_lies R_X12_lies 38 [some (vr κ a), some (vi p1), some (vi p2), some (vi p3), some (vi p4), some (vi p5), some (vi x6), none] [] s0 (f_X12_lies_38 a p5 k77 n x6 s0) := by
  intro n
  induction n with
  | zero => exact fun _ _ _ _ => q_none
  | succ n ih =>
    intro x6 h_x6 s0 w_s0
    rw [f_X12_lies_38]
    refine q_iload (x := x6) d_X12_lies_38 rfl ?_
    refine q_aload_n d_X12_lies_40 rfl ?_
    refine q_getR (n := 1) d_X12_lies_41 hA.1 fi_12_7 rfl (Nat.le_of_ble_eq_true rfl) ?_
    refine q_bipush d_X12_lies_44 rfl ?_
    refine q_iaload (m := 1732) d_X12_lies_46 hA.2.1 (by decide) rfl (fun g26 => ?_)
    refine q_icmp_ge d_X12_lies_47 h_x6 (w_s0 _ _) (fun c27 => ?_) (fun c27 => ?_)
    · refine q_aload_n d_X12_lies_50 rfl ?_
      refine q_iload (x := x6) d_X12_lies_51 rfl ?_
      refine q_callZ (R' := R_X12_isAfloat) (runV (As := [vi x6]) (rest := []) d_X12_lies_53.1 cv_12_335 rfl hA.1 rfl rfl ⟨rfl, rfl, by decide, by decide⟩ (Nat.le_of_ble_eq_true rfl) w_s0 rfl) d_X12_lies_53.2 (c_X12_isAfloat κ a hA x6 h_x6 s0) rfl (fun r28 s29 h_r28 w_s29 => ?_)
      refine q_jn (α := Mem → Res) (fun j71 => ∀ (s30 : Mem) (w_s30 : WF s30), EO κ M_X12_lies R_X12_lies 71 [some (vr κ a), some (vi p1), some (vi p2), some (vi p3), some (vi p4), some (vi p5), some (vi x6), none] [] s30 (j71 s30)) ?_ (fun j71 hj71 => ?_)
      · intro s30 w_s30
        refine q_iinc (x := x6) d_X12_lies_71 rfl rfl ?_
        refine q_goto d_X12_lies_74 ?_
        refine q_sub (ls' := [some (vr κ a), some (vi p1), some (vi p2), some (vi p3), some (vi p4), some (vi p5), some (vi (wr (x6 + 1))), none]) ⟨rfl, rfl, rfl, rfl, rfl, rfl, rfl, trivial⟩ ?_
        exact ih (wr (x6 + 1)) (inr_wr _) s30 w_s30
      refine q_if_eq d_X12_lies_56 (inr_b h_r28) (fun c31 => ?_) (fun c31 => ?_)
      · refine q_sub (ls' := [some (vr κ a), some (vi p1), some (vi p2), some (vi p3), some (vi p4), some (vi p5), some (vi x6), none]) ⟨rfl, rfl, rfl, rfl, rfl, rfl, rfl, trivial⟩ ?_
        exact hj71 s29 w_s29
      · refine q_aload_n d_X12_lies_59 rfl ?_
        refine q_getR (n := 1) d_X12_lies_60 hA.1 fi_12_7 rfl (Nat.le_of_ble_eq_true rfl) ?_
        refine q_bipush d_X12_lies_63 rfl ?_
        refine q_iload (x := x6) d_X12_lies_65 rfl ?_
        refine q_iadd d_X12_lies_67 ?_
        refine q_iload (x := p5) d_X12_lies_68 rfl ?_
        refine q_iastore (m := 1732) d_X12_lies_70 hA.2.1 (by decide) rfl h_p5 w_s29 (fun g32 s33 w_s33 => ?_)
        refine q_sub (ls' := [some (vr κ a), some (vi p1), some (vi p2), some (vi p3), some (vi p4), some (vi p5), some (vi x6), none]) ⟨rfl, rfl, rfl, rfl, rfl, rfl, rfl, trivial⟩ ?_
        exact hj71 s33 w_s33
    · refine q_sub (ls' := [some (vr κ a), some (vi p1), some (vi p2), some (vi p3), some (vi p4), some (vi p5), none, none]) ⟨rfl, rfl, rfl, rfl, rfl, rfl, trivial⟩ ?_
      exact hk77 s0 w_s0
set_option maxHeartbeats 4000000 in
set_option maxRecDepth 10000 in
theorem l_X12_lies_24 (κ : Kp) (a : Nat) (hA : At12 κ a) (p1 : Int) (h_p1 : InR p1) (k151 : Int → Mem → Res) (hk151 : ∀ (z2 : Int) (h_z2 : InR z2) (sz : Mem) (w_sz : WF sz), EO κ M_X12_lies R_X12_lies 151 [none, none, some (vi z2), none, none, none, none, none] [] sz (k151 z2 sz)) : ∀ (n : Nat) (x2 : Int) (h_x2 : InR x2) (x3 : Int) (h_x3 : InR x3) (x4 : Int) (h_x4 : InR x4) (x5 : Int) (h_x5 : InR x5) (s0 : Mem) (w_s0 : WF s0), EO κ M_X12_lies R_X12_lies 24 [some (vr κ a), some (vi p1), some (vi x2), some (vi x3), some (vi x4), some (vi x5), none, none] [] s0 (f_X12_lies_24 a p1 k151 n x2 x3 x4 x5 s0) := by
  intro n
  induction n with
  | zero => exact fun _ _ _ _ _ _ _ _ _ _ => q_none
  | succ n ih =>
    intro x2 h_x2 x3 h_x3 x4 h_x4 x5 h_x5 s0 w_s0
    rw [f_X12_lies_24]
    refine q_iload (x := x5) d_X12_lies_24 rfl ?_
    refine q_bipush d_X12_lies_26 rfl ?_
    refine q_icmp_ge d_X12_lies_28 h_x5 (inr_d rfl) (fun c6 => ?_) (fun c6 => ?_)
    · refine q_aload_n d_X12_lies_31 rfl ?_
      refine q_callV (R' := R_X12_lays) (runV (As := []) (rest := []) d_X12_lies_32.1 cv_12_380 rfl hA.1 rfl rfl ⟨rfl, rfl, by decide, by decide⟩ (Nat.le_of_ble_eq_true rfl) w_s0 rfl) d_X12_lies_32.2 (c_X12_lays κ a hA s0) rfl (fun r7 s8 w_s8 => ?_)
      refine q_iconst d_X12_lies_35 ?_
      refine q_istore d_X12_lies_36 rfl ?_
      refine q_jn (α := Mem → Res) (fun j77 => ∀ (s9 : Mem) (w_s9 : WF s9), EO κ M_X12_lies R_X12_lies 77 [some (vr κ a), some (vi p1), some (vi x2), some (vi x3), some (vi x4), some (vi x5), none, none] [] s9 (j77 s9)) ?_ (fun j77 hj77 => ?_)
      · intro s9 w_s9
        refine q_iconst d_X12_lies_77 ?_
        refine q_istore d_X12_lies_78 rfl ?_
        refine q_jn (α := Mem → Res) (fun j97 => ∀ (s10 : Mem) (w_s10 : WF s10), EO κ M_X12_lies R_X12_lies 97 [some (vr κ a), some (vi p1), some (vi x2), some (vi x3), some (vi x4), some (vi x5), none, none] [] s10 (j97 s10)) ?_ (fun j97 hj97 => ?_)
        · intro s10 w_s10
          refine q_aload_n d_X12_lies_97 rfl ?_
          refine q_callI (R' := R_X12_lostMany) (runV (As := []) (rest := []) d_X12_lies_98.1 cv_12_386 rfl hA.1 rfl rfl ⟨rfl, rfl, by decide, by decide⟩ (Nat.le_of_ble_eq_true rfl) w_s10 rfl) d_X12_lies_98.2 (c_X12_lostMany κ a hA s10) rfl (fun r11 s12 h_r11 w_s12 => ?_)
          refine q_istore d_X12_lies_101 rfl ?_
          refine q_aload_n d_X12_lies_103 rfl ?_
          refine q_callI (R' := R_X12_allArrows) (runV (As := []) (rest := []) d_X12_lies_104.1 cv_12_383 rfl hA.1 rfl rfl ⟨rfl, rfl, by decide, by decide⟩ (Nat.le_of_ble_eq_true rfl) w_s12 rfl) d_X12_lies_104.2 (c_X12_allArrows κ a hA s12) rfl (fun r13 s14 h_r13 w_s14 => ?_)
          refine q_istore d_X12_lies_107 rfl ?_
          refine q_aload_n d_X12_lies_109 rfl ?_
          refine q_callV (R' := R_X12_putsBack) (runV (As := []) (rest := []) d_X12_lies_110.1 cv_12_389 rfl hA.1 rfl rfl ⟨rfl, rfl, by decide, by decide⟩ (Nat.le_of_ble_eq_true rfl) w_s14 rfl) d_X12_lies_110.2 (c_X12_putsBack κ a hA s14) rfl (fun r15 s16 w_s16 => ?_)
          refine q_iload (x := r11) d_X12_lies_113 rfl ?_
          refine q_iload_n (x := x3) d_X12_lies_115 rfl ?_
          refine q_jn (α := Int → Int → Int → Res) (fun j145 => ∀ (v17 : Int) (h_v17 : InR v17) (v18 : Int) (h_v18 : InR v18) (v19 : Int) (h_v19 : InR v19), EO κ M_X12_lies R_X12_lies 145 [some (vr κ a), some (vi p1), some (vi v17), some (vi v18), some (vi v19), some (vi x5), none, none] [] s16 (j145 v17 v18 v19)) ?_ (fun j145 hj145 => ?_)
          · intro v17 h_v17 v18 h_v18 v19 h_v19
            refine q_iinc (x := x5) d_X12_lies_145 rfl rfl ?_
            refine q_goto d_X12_lies_148 ?_
            refine q_sub (ls' := [some (vr κ a), some (vi p1), some (vi v17), some (vi v18), some (vi v19), some (vi (wr (x5 + 1))), none, none]) ⟨rfl, rfl, rfl, rfl, rfl, rfl, trivial⟩ ?_
            exact ih v17 h_v17 v18 h_v18 v19 h_v19 (wr (x5 + 1)) (inr_wr _) s16 w_s16
          refine q_icmp_gt d_X12_lies_116 h_r11 h_x3 (fun c20 => ?_) (fun c20 => ?_)
          · refine q_sub (ls' := [some (vr κ a), some (vi p1), some (vi x2), some (vi x3), some (vi x4), some (vi x5), none, none]) ⟨rfl, rfl, rfl, rfl, rfl, rfl, trivial⟩ ?_
            exact hj145 x2 h_x2 x3 h_x3 x4 h_x4
          · refine q_iload (x := r11) d_X12_lies_119 rfl ?_
            refine q_iload_n (x := x3) d_X12_lies_121 rfl ?_
            refine q_jn (α := Unit → Res) (fun j135 => EO κ M_X12_lies R_X12_lies 135 [some (vr κ a), some (vi p1), none, none, none, some (vi x5), some (vi r11), some (vi r13)] [] s16 (j135 ())) ?_ (fun j135 hj135 => ?_)
            · refine q_iload (x := r11) d_X12_lies_135 rfl ?_
              refine q_istore_n d_X12_lies_137 rfl ?_
              refine q_iload (x := r13) d_X12_lies_138 rfl ?_
              refine q_istore d_X12_lies_140 rfl ?_
              refine q_iload (x := x5) d_X12_lies_142 rfl ?_
              refine q_istore_n d_X12_lies_144 rfl ?_
              refine q_sub (ls' := [some (vr κ a), some (vi p1), some (vi x5), some (vi r11), some (vi r13), some (vi x5), none, none]) ⟨rfl, rfl, rfl, rfl, rfl, rfl, trivial⟩ ?_
              exact hj145 x5 h_x5 r11 h_r11 r13 h_r13
            refine q_icmp_ne d_X12_lies_122 h_r11 h_x3 (fun c21 => ?_) (fun c21 => ?_)
            · refine q_iload (x := r13) d_X12_lies_125 rfl ?_
              refine q_iload (x := x4) d_X12_lies_127 rfl ?_
              refine q_icmp_gt d_X12_lies_129 h_r13 h_x4 (fun c22 => ?_) (fun c22 => ?_)
              · refine q_sub (ls' := [some (vr κ a), some (vi p1), none, none, none, some (vi x5), some (vi r11), some (vi r13)]) ⟨rfl, rfl, rfl, rfl, rfl, trivial⟩ ?_
                exact hj135 
              · refine q_goto d_X12_lies_132 ?_
                refine q_sub (ls' := [some (vr κ a), some (vi p1), some (vi x2), some (vi x3), some (vi x4), some (vi x5), none, none]) ⟨rfl, rfl, rfl, rfl, rfl, rfl, trivial⟩ ?_
                exact hj145 x2 h_x2 x3 h_x3 x4 h_x4
            · refine q_sub (ls' := [some (vr κ a), some (vi p1), none, none, none, some (vi x5), some (vi r11), some (vi r13)]) ⟨rfl, rfl, rfl, rfl, rfl, trivial⟩ ?_
              exact hj135 
        refine q_sub (ls' := [some (vr κ a), some (vi p1), some (vi x2), some (vi x3), some (vi x4), some (vi x5), some (vi 0), none]) ⟨rfl, rfl, rfl, rfl, rfl, rfl, rfl, trivial⟩ ?_
        exact l_X12_lies_80 κ a hA p1 h_p1 x2 h_x2 x3 h_x3 x4 h_x4 x5 h_x5 j97 hj97 FU 0 (inr_b (Or.inl rfl)) s9 w_s9
      refine q_sub (ls' := [some (vr κ a), some (vi p1), some (vi x2), some (vi x3), some (vi x4), some (vi x5), some (vi 0), none]) ⟨rfl, rfl, rfl, rfl, rfl, rfl, rfl, trivial⟩ ?_
      exact l_X12_lies_38 κ a hA p1 h_p1 x2 h_x2 x3 h_x3 x4 h_x4 x5 h_x5 j77 hj77 FU 0 (inr_b (Or.inl rfl)) s8 w_s8
    · refine q_sub (ls' := [none, none, some (vi x2), none, none, none, none, none]) ⟨rfl, trivial⟩ ?_
      exact hk151 x2 h_x2 s0 w_s0
set_option maxHeartbeats 4000000 in
set_option maxRecDepth 10000 in
theorem c_X12_lies (κ : Kp) (a : Nat) (hA : At12 κ a) (x1 : Int) (h_x1 : InR x1) (s0 : Mem) : ∀ r σ', f_X12_lies a x1 s0 = some (r, σ') → Ct κ M_X12_lies R_X12_lies [vr κ a, vi x1] s0 r σ' := by
  intro r σ' ho
  refine Ct.of (by decide) (Nat.le_of_ble_eq_true rfl) (cat_ok rfl) (fun w_s0 => ?_) ⟨rfl, rfl⟩
  refine q_ent (ls' := [some (vr κ a), some (vi x1), none, none, none, none, none, none]) (o := f_X12_lies a x1 s0) ⟨rfl, rfl, trivial⟩ ?_ ho
  unfold f_X12_lies
  refine q_iload_n (x := x1) d_X12_lies_0 rfl ?_
  refine q_iconst d_X12_lies_1 ?_
  refine q_bipush d_X12_lies_2 rfl ?_
  refine q_callZ (R' := R_X12_isIn) (runS (As := [vi x1, vi 1, vi 20]) (rest := []) d_X12_lies_4.1 cv_12_60 rfl ⟨rfl, rfl, by decide, by decide⟩ (Nat.le_of_ble_eq_true rfl) w_s0 rfl) d_X12_lies_4.2 (c_X12_isIn κ x1 h_x1 1 (inr_b (Or.inr rfl)) 20 (inr_d rfl) s0) rfl (fun r1 s2 h_r1 w_s2 => ?_)
  refine q_if_ne d_X12_lies_7 (inr_b h_r1) (fun c3 => ?_) (fun c3 => ?_)
  · refine q_iconst d_X12_lies_10 ?_
    exact q_ireti d_X12_lies_11 rfl (inr_d rfl) w_s2
  · refine q_iconst d_X12_lies_12 ?_
    refine q_istore_n d_X12_lies_13 rfl ?_
    refine q_ldcw (n := 100000000) d_X12_lies_14 ck_12_395 rfl ?_
    refine q_istore_n d_X12_lies_17 rfl ?_
    refine q_iconst d_X12_lies_18 ?_
    refine q_istore d_X12_lies_19 rfl ?_
    refine q_iconst d_X12_lies_21 ?_
    refine q_istore d_X12_lies_22 rfl ?_
    refine q_jn (α := Int → Mem → Res) (fun j151 => ∀ (v4 : Int) (h_v4 : InR v4) (s5 : Mem) (w_s5 : WF s5), EO κ M_X12_lies R_X12_lies 151 [none, none, some (vi v4), none, none, none, none, none] [] s5 (j151 v4 s5)) ?_ (fun j151 hj151 => ?_)
    · intro v4 h_v4 s5 w_s5
      refine q_iload_n (x := v4) d_X12_lies_151 rfl ?_
      exact q_ireti d_X12_lies_152 rfl h_v4 w_s5
    refine q_sub (ls' := [some (vr κ a), some (vi x1), some (vi (-1)), some (vi 100000000), some (vi (-1)), some (vi 0), none, none]) ⟨rfl, rfl, rfl, rfl, rfl, rfl, trivial⟩ ?_
    exact l_X12_lies_24 κ a hA x1 h_x1 j151 hj151 FU (-1) (inr_d rfl) 100000000 (inr_d rfl) (-1) (inr_d rfl) 0 (inr_b (Or.inl rfl)) s2 w_s2
abbrev R_X12_fogs : Room := { frames := 1, cells := 0, slots := 0, locals := 22 }
noncomputable def f_X12_fogs_217 (a : Nat) (k240 : Int → Res) (s0 : Mem) : Nat → Int → Int → Res
  | 0, _, _ => none
  | n + 1, x3, x4 =>
    if 9 < x4 then (k240 x3) else (gd ((0 : Int) ≤ x4 ∧ x4 < 10) (f_X12_fogs_217 a k240 s0 n (wr (x3 + (s0 (a + 11) x4))) (wr (x4 + 1))))
noncomputable def f_X12_fogs_179 (a : Nat) (k206 : Mem → Res) : Nat → Int → Mem → Res
  | 0, _, _ => none
  | n + 1, x4, s0 =>
    if 9 < x4 then (k206 s0) else (gd ((0 : Int) ≤ x4 ∧ x4 < 10) (gd ((0 : Int) ≤ x4 ∧ x4 < 10) (lm (mup s0 (a + 11) x4 (s0 (a + 12) x4)) fun s19 => f_X12_fogs_179 a k206 n (wr (x4 + 1)) s19)))
noncomputable def f_X12_fogs_93 (a : Nat) (k176 : Mem → Res) : Nat → Int → Mem → Res
  | 0, _, _ => none
  | n + 1, x4, s0 =>
    if 9 < x4 then (k176 s0) else (gd ((0 : Int) ≤ x4 ∧ x4 < 10) (gd ((4 : Int) ≠ 0) (bd (f_X12_greater 0 (wr (x4 - 1)) s0) fun r23 s24 => gd ((0 : Int) ≤ r23 ∧ r23 < 10) (gd ((0 : Int) ≤ r23 ∧ r23 < 10) (lm (mup s24 (a + 12) r23 (wr ((s24 (a + 12) r23) + (wr (Int.tdiv (s0 (a + 11) x4) 4))))) fun s27 => bd (f_X12_lesser 9 (wr (x4 + 1)) s27) fun r28 s29 => gd ((0 : Int) ≤ r28 ∧ r28 < 10) (gd ((0 : Int) ≤ r28 ∧ r28 < 10) (lm (mup s29 (a + 12) r28 (wr ((s29 (a + 12) r28) + (wr (Int.tdiv (s0 (a + 11) x4) 4))))) fun s32 => gd ((0 : Int) ≤ x4 ∧ x4 < 10) (gd ((0 : Int) ≤ x4 ∧ x4 < 10) (gd ((0 : Int) ≤ x4 ∧ x4 < 10) (lm (mup s32 (a + 12) x4 (wr ((s32 (a + 12) x4) + (wr ((s32 (a + 11) x4) - (wr (2 * (wr (Int.tdiv (s0 (a + 11) x4) 4))))))))) fun s36 => f_X12_fogs_93 a k176 n (wr (x4 + 1)) s36))))))))))
noncomputable def f_X12_fogs_69 (a : Nat) (k90 : Mem → Res) : Nat → Int → Mem → Res
  | 0, _, _ => none
  | n + 1, x4, s0 =>
    if 9 < x4 then (k90 s0) else (gd ((0 : Int) ≤ x4 ∧ x4 < 10) (lm (mup s0 (a + 12) x4 0) fun s39 => f_X12_fogs_69 a k90 n (wr (x4 + 1)) s39))
noncomputable def f_X12_fogs_61 (a : Nat) (p2 : Int) (k212 : Mem → Res) : Nat → Int → Mem → Res
  | 0, _, _ => none
  | n + 1, x3, s0 =>
    if x3 < p2 then (jn (fun (s13 : Mem) => jn (fun (s14 : Mem) => jn (fun (s15 : Mem) => f_X12_fogs_61 a p2 k212 n (wr (x3 + 1)) s15) fun j206 => f_X12_fogs_179 a j206 FU 0 s14) fun j176 => f_X12_fogs_93 a j176 FU 0 s13) fun j90 => f_X12_fogs_69 a j90 FU 0 s0) else (k212 s0)
noncomputable def f_X12_fogs_24 (a : Nat) (k59 : Mem → Res) : Nat → Int → Mem → Res
  | 0, _, _ => none
  | n + 1, x3, s0 =>
    if 9 < x3 then (k59 s0) else (gd ((0 : Int) ≤ 1 ∧ (1 : Int) < 1732) (jn (fun (y42 : Int) => gd ((0 : Int) ≤ x3 ∧ x3 < 10) (lm (mup s0 (a + 11) x3 y42) fun s44 => f_X12_fogs_24 a k59 n (wr (x3 + 1)) s44)) fun j52 => if x3 = s0 (a + 1) 1 then (j52 1000000) else (j52 0)))
noncomputable def f_X12_fogs (a : Nat) (x1 : Int) (x2 : Int) (s0 : Mem) : Res :=
  bd (f_X12_isIn x1 0 9 s0) fun r1 s2 => if r1 = 0 then (some ((-1), s2)) else (bd (f_X12_isIn x2 0 48 s2) fun r4 s5 => if r4 = 0 then (some ((-1), s5)) else (jn (fun (s7 : Mem) => jn (fun (s8 : Mem) => jn (fun (v9 : Int) => some (v9, s8)) fun j240 => f_X12_fogs_217 a j240 s8 FU 0 x1) fun j212 => f_X12_fogs_61 a x2 j212 FU 0 s7) fun j59 => f_X12_fogs_24 a j59 FU 0 s5))
set_option maxHeartbeats 4000000 in
set_option maxRecDepth 10000 in
theorem l_X12_fogs_217 (κ : Kp) (a : Nat) (hA : At12 κ a) (k240 : Int → Res) (s0 : Mem) (w_s0 : WF s0) (hk240 : ∀ (z3 : Int) (h_z3 : InR z3), EO κ M_X12_fogs R_X12_fogs 240 [none, none, none, some (vi z3), none, none] [] s0 (k240 z3)) : ∀ (n : Nat) (x3 : Int) (h_x3 : InR x3) (x4 : Int) (h_x4 : InR x4), EO κ M_X12_fogs R_X12_fogs 217 [some (vr κ a), none, none, some (vi x3), some (vi x4), none] [] s0 (f_X12_fogs_217 a k240 s0 n x3 x4) := by
  intro n
  induction n with
  | zero => exact fun _ _ _ _ => q_none
  | succ n ih =>
    intro x3 h_x3 x4 h_x4
    rw [f_X12_fogs_217]
    refine q_iload (x := x4) d_X12_fogs_217 rfl ?_
    refine q_bipush d_X12_fogs_219 rfl ?_
    refine q_icmp_gt d_X12_fogs_221 h_x4 (inr_d rfl) (fun c10 => ?_) (fun c10 => ?_)
    · refine q_sub (ls' := [none, none, none, some (vi x3), none, none]) ⟨rfl, trivial⟩ ?_
      exact hk240 x3 h_x3
    · refine q_iload_n (x := x3) d_X12_fogs_224 rfl ?_
      refine q_aload_n d_X12_fogs_225 rfl ?_
      refine q_getR (n := 11) d_X12_fogs_226 hA.1 fi_12_44 rfl (Nat.le_of_ble_eq_true rfl) ?_
      refine q_iload (x := x4) d_X12_fogs_229 rfl ?_
      refine q_iaload (m := 10) d_X12_fogs_231 hA.2.2.2.2.2.2.2.2.2.2.2.1 (by decide) rfl (fun g11 => ?_)
      refine q_iadd d_X12_fogs_232 ?_
      refine q_istore_n d_X12_fogs_233 rfl ?_
      refine q_iinc (x := x4) d_X12_fogs_234 rfl rfl ?_
      refine q_goto d_X12_fogs_237 ?_
      refine q_sub (ls' := [some (vr κ a), none, none, some (vi (wr (x3 + (s0 (a + 11) x4)))), some (vi (wr (x4 + 1))), none]) ⟨rfl, rfl, rfl, trivial⟩ ?_
      exact ih (wr (x3 + (s0 (a + 11) x4))) (inr_wr _) (wr (x4 + 1)) (inr_wr _)
set_option maxHeartbeats 4000000 in
set_option maxRecDepth 10000 in
theorem l_X12_fogs_179 (κ : Kp) (a : Nat) (hA : At12 κ a) (p1 : Int) (h_p1 : InR p1) (p2 : Int) (h_p2 : InR p2) (p3 : Int) (h_p3 : InR p3) (k206 : Mem → Res) (hk206 : ∀ (sz : Mem) (w_sz : WF sz), EO κ M_X12_fogs R_X12_fogs 206 [some (vr κ a), some (vi p1), some (vi p2), some (vi p3), none, none] [] sz (k206 sz)) : ∀ (n : Nat) (x4 : Int) (h_x4 : InR x4) (s0 : Mem) (w_s0 : WF s0), EO κ M_X12_fogs R_X12_fogs 179 [some (vr κ a), some (vi p1), some (vi p2), some (vi p3), some (vi x4), none] [] s0 (f_X12_fogs_179 a k206 n x4 s0) := by
  intro n
  induction n with
  | zero => exact fun _ _ _ _ => q_none
  | succ n ih =>
    intro x4 h_x4 s0 w_s0
    rw [f_X12_fogs_179]
    refine q_iload (x := x4) d_X12_fogs_179 rfl ?_
    refine q_bipush d_X12_fogs_181 rfl ?_
    refine q_icmp_gt d_X12_fogs_183 h_x4 (inr_d rfl) (fun c16 => ?_) (fun c16 => ?_)
    · refine q_sub (ls' := [some (vr κ a), some (vi p1), some (vi p2), some (vi p3), none, none]) ⟨rfl, rfl, rfl, rfl, trivial⟩ ?_
      exact hk206 s0 w_s0
    · refine q_aload_n d_X12_fogs_186 rfl ?_
      refine q_getR (n := 11) d_X12_fogs_187 hA.1 fi_12_44 rfl (Nat.le_of_ble_eq_true rfl) ?_
      refine q_iload (x := x4) d_X12_fogs_190 rfl ?_
      refine q_aload_n d_X12_fogs_192 rfl ?_
      refine q_getR (n := 12) d_X12_fogs_193 hA.1 fi_12_47 rfl (Nat.le_of_ble_eq_true rfl) ?_
      refine q_iload (x := x4) d_X12_fogs_196 rfl ?_
      refine q_iaload (m := 10) d_X12_fogs_198 hA.2.2.2.2.2.2.2.2.2.2.2.2.1 (by decide) rfl (fun g17 => ?_)
      refine q_iastore (m := 10) d_X12_fogs_199 hA.2.2.2.2.2.2.2.2.2.2.2.1 (by decide) rfl (w_s0 _ _) w_s0 (fun g18 s19 w_s19 => ?_)
      refine q_iinc (x := x4) d_X12_fogs_200 rfl rfl ?_
      refine q_goto d_X12_fogs_203 ?_
      refine q_sub (ls' := [some (vr κ a), some (vi p1), some (vi p2), some (vi p3), some (vi (wr (x4 + 1))), none]) ⟨rfl, rfl, rfl, rfl, rfl, trivial⟩ ?_
      exact ih (wr (x4 + 1)) (inr_wr _) s19 w_s19
set_option maxHeartbeats 4000000 in
set_option maxRecDepth 10000 in
theorem l_X12_fogs_93 (κ : Kp) (a : Nat) (hA : At12 κ a) (p1 : Int) (h_p1 : InR p1) (p2 : Int) (h_p2 : InR p2) (p3 : Int) (h_p3 : InR p3) (k176 : Mem → Res) (hk176 : ∀ (sz : Mem) (w_sz : WF sz), EO κ M_X12_fogs R_X12_fogs 176 [some (vr κ a), some (vi p1), some (vi p2), some (vi p3), none, none] [] sz (k176 sz)) : ∀ (n : Nat) (x4 : Int) (h_x4 : InR x4) (s0 : Mem) (w_s0 : WF s0), EO κ M_X12_fogs R_X12_fogs 93 [some (vr κ a), some (vi p1), some (vi p2), some (vi p3), some (vi x4), none] [] s0 (f_X12_fogs_93 a k176 n x4 s0) := by
  intro n
  induction n with
  | zero => exact fun _ _ _ _ => q_none
  | succ n ih =>
    intro x4 h_x4 s0 w_s0
    rw [f_X12_fogs_93]
    refine q_iload (x := x4) d_X12_fogs_93 rfl ?_
    refine q_bipush d_X12_fogs_95 rfl ?_
    refine q_icmp_gt d_X12_fogs_97 h_x4 (inr_d rfl) (fun c20 => ?_) (fun c20 => ?_)
    · refine q_sub (ls' := [some (vr κ a), some (vi p1), some (vi p2), some (vi p3), none, none]) ⟨rfl, rfl, rfl, rfl, trivial⟩ ?_
      exact hk176 s0 w_s0
    · refine q_aload_n d_X12_fogs_100 rfl ?_
      refine q_getR (n := 11) d_X12_fogs_101 hA.1 fi_12_44 rfl (Nat.le_of_ble_eq_true rfl) ?_
      refine q_iload (x := x4) d_X12_fogs_104 rfl ?_
      refine q_iaload (m := 10) d_X12_fogs_106 hA.2.2.2.2.2.2.2.2.2.2.2.1 (by decide) rfl (fun g21 => ?_)
      refine q_iconst d_X12_fogs_107 ?_
      refine q_idiv d_X12_fogs_108 (w_s0 _ _) (inr_d rfl) (fun g22 => ?_)
      refine q_istore d_X12_fogs_109 rfl ?_
      refine q_aload_n d_X12_fogs_111 rfl ?_
      refine q_getR (n := 12) d_X12_fogs_112 hA.1 fi_12_47 rfl (Nat.le_of_ble_eq_true rfl) ?_
      refine q_iconst d_X12_fogs_115 ?_
      refine q_iload (x := x4) d_X12_fogs_116 rfl ?_
      refine q_iconst d_X12_fogs_118 ?_
      refine q_isub d_X12_fogs_119 ?_
      refine q_callI (R' := R_X12_greater) (runS (As := [vi 0, vi (wr (x4 - 1))]) (rest := [vr κ (a + 12)]) d_X12_fogs_120.1 cv_12_57 rfl ⟨rfl, rfl, by decide, by decide⟩ (Nat.le_of_ble_eq_true rfl) w_s0 rfl) d_X12_fogs_120.2 (c_X12_greater κ 0 (inr_b (Or.inl rfl)) (wr (x4 - 1)) (inr_wr _) s0) rfl (fun r23 s24 h_r23 w_s24 => ?_)
      refine q_dup2 d_X12_fogs_123 rfl rfl ?_
      refine q_iaload (m := 10) d_X12_fogs_124 hA.2.2.2.2.2.2.2.2.2.2.2.2.1 (by decide) rfl (fun g25 => ?_)
      refine q_iload (x := wr (Int.tdiv (s0 (a + 11) x4) 4)) d_X12_fogs_125 rfl ?_
      refine q_iadd d_X12_fogs_127 ?_
      refine q_iastore (m := 10) d_X12_fogs_128 hA.2.2.2.2.2.2.2.2.2.2.2.2.1 (by decide) rfl (inr_wr _) w_s24 (fun g26 s27 w_s27 => ?_)
      refine q_aload_n d_X12_fogs_129 rfl ?_
      refine q_getR (n := 12) d_X12_fogs_130 hA.1 fi_12_47 rfl (Nat.le_of_ble_eq_true rfl) ?_
      refine q_bipush d_X12_fogs_133 rfl ?_
      refine q_iload (x := x4) d_X12_fogs_135 rfl ?_
      refine q_iconst d_X12_fogs_137 ?_
      refine q_iadd d_X12_fogs_138 ?_
      refine q_callI (R' := R_X12_lesser) (runS (As := [vi 9, vi (wr (x4 + 1))]) (rest := [vr κ (a + 12)]) d_X12_fogs_139.1 cv_12_53 rfl ⟨rfl, rfl, by decide, by decide⟩ (Nat.le_of_ble_eq_true rfl) w_s27 rfl) d_X12_fogs_139.2 (c_X12_lesser κ 9 (inr_d rfl) (wr (x4 + 1)) (inr_wr _) s27) rfl (fun r28 s29 h_r28 w_s29 => ?_)
      refine q_dup2 d_X12_fogs_142 rfl rfl ?_
      refine q_iaload (m := 10) d_X12_fogs_143 hA.2.2.2.2.2.2.2.2.2.2.2.2.1 (by decide) rfl (fun g30 => ?_)
      refine q_iload (x := wr (Int.tdiv (s0 (a + 11) x4) 4)) d_X12_fogs_144 rfl ?_
      refine q_iadd d_X12_fogs_146 ?_
      refine q_iastore (m := 10) d_X12_fogs_147 hA.2.2.2.2.2.2.2.2.2.2.2.2.1 (by decide) rfl (inr_wr _) w_s29 (fun g31 s32 w_s32 => ?_)
      refine q_aload_n d_X12_fogs_148 rfl ?_
      refine q_getR (n := 12) d_X12_fogs_149 hA.1 fi_12_47 rfl (Nat.le_of_ble_eq_true rfl) ?_
      refine q_iload (x := x4) d_X12_fogs_152 rfl ?_
      refine q_dup2 d_X12_fogs_154 rfl rfl ?_
      refine q_iaload (m := 10) d_X12_fogs_155 hA.2.2.2.2.2.2.2.2.2.2.2.2.1 (by decide) rfl (fun g33 => ?_)
      refine q_aload_n d_X12_fogs_156 rfl ?_
      refine q_getR (n := 11) d_X12_fogs_157 hA.1 fi_12_44 rfl (Nat.le_of_ble_eq_true rfl) ?_
      refine q_iload (x := x4) d_X12_fogs_160 rfl ?_
      refine q_iaload (m := 10) d_X12_fogs_162 hA.2.2.2.2.2.2.2.2.2.2.2.1 (by decide) rfl (fun g34 => ?_)
      refine q_iconst d_X12_fogs_163 ?_
      refine q_iload (x := wr (Int.tdiv (s0 (a + 11) x4) 4)) d_X12_fogs_164 rfl ?_
      refine q_imul d_X12_fogs_166 ?_
      refine q_isub d_X12_fogs_167 ?_
      refine q_iadd d_X12_fogs_168 ?_
      refine q_iastore (m := 10) d_X12_fogs_169 hA.2.2.2.2.2.2.2.2.2.2.2.2.1 (by decide) rfl (inr_wr _) w_s32 (fun g35 s36 w_s36 => ?_)
      refine q_iinc (x := x4) d_X12_fogs_170 rfl rfl ?_
      refine q_goto d_X12_fogs_173 ?_
      refine q_sub (ls' := [some (vr κ a), some (vi p1), some (vi p2), some (vi p3), some (vi (wr (x4 + 1))), none]) ⟨rfl, rfl, rfl, rfl, rfl, trivial⟩ ?_
      exact ih (wr (x4 + 1)) (inr_wr _) s36 w_s36
set_option maxHeartbeats 4000000 in
set_option maxRecDepth 10000 in
theorem l_X12_fogs_69 (κ : Kp) (a : Nat) (hA : At12 κ a) (p1 : Int) (h_p1 : InR p1) (p2 : Int) (h_p2 : InR p2) (p3 : Int) (h_p3 : InR p3) (k90 : Mem → Res) (hk90 : ∀ (sz : Mem) (w_sz : WF sz), EO κ M_X12_fogs R_X12_fogs 90 [some (vr κ a), some (vi p1), some (vi p2), some (vi p3), none, none] [] sz (k90 sz)) : ∀ (n : Nat) (x4 : Int) (h_x4 : InR x4) (s0 : Mem) (w_s0 : WF s0), EO κ M_X12_fogs R_X12_fogs 69 [some (vr κ a), some (vi p1), some (vi p2), some (vi p3), some (vi x4), none] [] s0 (f_X12_fogs_69 a k90 n x4 s0) := by
  intro n
  induction n with
  | zero => exact fun _ _ _ _ => q_none
  | succ n ih =>
    intro x4 h_x4 s0 w_s0
    rw [f_X12_fogs_69]
    refine q_iload (x := x4) d_X12_fogs_69 rfl ?_
    refine q_bipush d_X12_fogs_71 rfl ?_
    refine q_icmp_gt d_X12_fogs_73 h_x4 (inr_d rfl) (fun c37 => ?_) (fun c37 => ?_)
    · refine q_sub (ls' := [some (vr κ a), some (vi p1), some (vi p2), some (vi p3), none, none]) ⟨rfl, rfl, rfl, rfl, trivial⟩ ?_
      exact hk90 s0 w_s0
    · refine q_aload_n d_X12_fogs_76 rfl ?_
      refine q_getR (n := 12) d_X12_fogs_77 hA.1 fi_12_47 rfl (Nat.le_of_ble_eq_true rfl) ?_
      refine q_iload (x := x4) d_X12_fogs_80 rfl ?_
      refine q_iconst d_X12_fogs_82 ?_
      refine q_iastore (m := 10) d_X12_fogs_83 hA.2.2.2.2.2.2.2.2.2.2.2.2.1 (by decide) rfl (inr_b (Or.inl rfl)) w_s0 (fun g38 s39 w_s39 => ?_)
      refine q_iinc (x := x4) d_X12_fogs_84 rfl rfl ?_
      refine q_goto d_X12_fogs_87 ?_
      refine q_sub (ls' := [some (vr κ a), some (vi p1), some (vi p2), some (vi p3), some (vi (wr (x4 + 1))), none]) ⟨rfl, rfl, rfl, rfl, rfl, trivial⟩ ?_
      exact ih (wr (x4 + 1)) (inr_wr _) s39 w_s39
set_option maxHeartbeats 4000000 in
set_option maxRecDepth 10000 in
theorem l_X12_fogs_61 (κ : Kp) (a : Nat) (hA : At12 κ a) (p1 : Int) (h_p1 : InR p1) (p2 : Int) (h_p2 : InR p2) (k212 : Mem → Res) (hk212 : ∀ (sz : Mem) (w_sz : WF sz), EO κ M_X12_fogs R_X12_fogs 212 [some (vr κ a), some (vi p1), none, none, none, none] [] sz (k212 sz)) : ∀ (n : Nat) (x3 : Int) (h_x3 : InR x3) (s0 : Mem) (w_s0 : WF s0), EO κ M_X12_fogs R_X12_fogs 61 [some (vr κ a), some (vi p1), some (vi p2), some (vi x3), none, none] [] s0 (f_X12_fogs_61 a p2 k212 n x3 s0) := by
  intro n
  induction n with
  | zero => exact fun _ _ _ _ => q_none
  | succ n ih =>
    intro x3 h_x3 s0 w_s0
    rw [f_X12_fogs_61]
    refine q_iload_n (x := x3) d_X12_fogs_61 rfl ?_
    refine q_iload_n (x := p2) d_X12_fogs_62 rfl ?_
    refine q_icmp_ge d_X12_fogs_63 h_x3 h_p2 (fun c12 => ?_) (fun c12 => ?_)
    · refine q_iconst d_X12_fogs_66 ?_
      refine q_istore d_X12_fogs_67 rfl ?_
      refine q_jn (α := Mem → Res) (fun j90 => ∀ (s13 : Mem) (w_s13 : WF s13), EO κ M_X12_fogs R_X12_fogs 90 [some (vr κ a), some (vi p1), some (vi p2), some (vi x3), none, none] [] s13 (j90 s13)) ?_ (fun j90 hj90 => ?_)
      · intro s13 w_s13
        refine q_iconst d_X12_fogs_90 ?_
        refine q_istore d_X12_fogs_91 rfl ?_
        refine q_jn (α := Mem → Res) (fun j176 => ∀ (s14 : Mem) (w_s14 : WF s14), EO κ M_X12_fogs R_X12_fogs 176 [some (vr κ a), some (vi p1), some (vi p2), some (vi x3), none, none] [] s14 (j176 s14)) ?_ (fun j176 hj176 => ?_)
        · intro s14 w_s14
          refine q_iconst d_X12_fogs_176 ?_
          refine q_istore d_X12_fogs_177 rfl ?_
          refine q_jn (α := Mem → Res) (fun j206 => ∀ (s15 : Mem) (w_s15 : WF s15), EO κ M_X12_fogs R_X12_fogs 206 [some (vr κ a), some (vi p1), some (vi p2), some (vi x3), none, none] [] s15 (j206 s15)) ?_ (fun j206 hj206 => ?_)
          · intro s15 w_s15
            refine q_iinc (x := x3) d_X12_fogs_206 rfl rfl ?_
            refine q_goto d_X12_fogs_209 ?_
            refine q_sub (ls' := [some (vr κ a), some (vi p1), some (vi p2), some (vi (wr (x3 + 1))), none, none]) ⟨rfl, rfl, rfl, rfl, trivial⟩ ?_
            exact ih (wr (x3 + 1)) (inr_wr _) s15 w_s15
          refine q_sub (ls' := [some (vr κ a), some (vi p1), some (vi p2), some (vi x3), some (vi 0), none]) ⟨rfl, rfl, rfl, rfl, rfl, trivial⟩ ?_
          exact l_X12_fogs_179 κ a hA p1 h_p1 p2 h_p2 x3 h_x3 j206 hj206 FU 0 (inr_b (Or.inl rfl)) s14 w_s14
        refine q_sub (ls' := [some (vr κ a), some (vi p1), some (vi p2), some (vi x3), some (vi 0), none]) ⟨rfl, rfl, rfl, rfl, rfl, trivial⟩ ?_
        exact l_X12_fogs_93 κ a hA p1 h_p1 p2 h_p2 x3 h_x3 j176 hj176 FU 0 (inr_b (Or.inl rfl)) s13 w_s13
      refine q_sub (ls' := [some (vr κ a), some (vi p1), some (vi p2), some (vi x3), some (vi 0), none]) ⟨rfl, rfl, rfl, rfl, rfl, trivial⟩ ?_
      exact l_X12_fogs_69 κ a hA p1 h_p1 p2 h_p2 x3 h_x3 j90 hj90 FU 0 (inr_b (Or.inl rfl)) s0 w_s0
    · refine q_sub (ls' := [some (vr κ a), some (vi p1), none, none, none, none]) ⟨rfl, rfl, trivial⟩ ?_
      exact hk212 s0 w_s0
set_option maxHeartbeats 4000000 in
set_option maxRecDepth 10000 in
theorem l_X12_fogs_24 (κ : Kp) (a : Nat) (hA : At12 κ a) (p1 : Int) (h_p1 : InR p1) (p2 : Int) (h_p2 : InR p2) (k59 : Mem → Res) (hk59 : ∀ (sz : Mem) (w_sz : WF sz), EO κ M_X12_fogs R_X12_fogs 59 [some (vr κ a), some (vi p1), some (vi p2), none, none, none] [] sz (k59 sz)) : ∀ (n : Nat) (x3 : Int) (h_x3 : InR x3) (s0 : Mem) (w_s0 : WF s0), EO κ M_X12_fogs R_X12_fogs 24 [some (vr κ a), some (vi p1), some (vi p2), some (vi x3), none, none] [] s0 (f_X12_fogs_24 a k59 n x3 s0) := by
  intro n
  induction n with
  | zero => exact fun _ _ _ _ => q_none
  | succ n ih =>
    intro x3 h_x3 s0 w_s0
    rw [f_X12_fogs_24]
    refine q_iload_n (x := x3) d_X12_fogs_24 rfl ?_
    refine q_bipush d_X12_fogs_25 rfl ?_
    refine q_icmp_gt d_X12_fogs_27 h_x3 (inr_d rfl) (fun c40 => ?_) (fun c40 => ?_)
    · refine q_sub (ls' := [some (vr κ a), some (vi p1), some (vi p2), none, none, none]) ⟨rfl, rfl, rfl, trivial⟩ ?_
      exact hk59 s0 w_s0
    · refine q_aload_n d_X12_fogs_30 rfl ?_
      refine q_getR (n := 11) d_X12_fogs_31 hA.1 fi_12_44 rfl (Nat.le_of_ble_eq_true rfl) ?_
      refine q_iload_n (x := x3) d_X12_fogs_34 rfl ?_
      refine q_iload_n (x := x3) d_X12_fogs_35 rfl ?_
      refine q_aload_n d_X12_fogs_36 rfl ?_
      refine q_getR (n := 1) d_X12_fogs_37 hA.1 fi_12_7 rfl (Nat.le_of_ble_eq_true rfl) ?_
      refine q_iconst d_X12_fogs_40 ?_
      refine q_iaload (m := 1732) d_X12_fogs_41 hA.2.1 (by decide) rfl (fun g41 => ?_)
      refine q_jn (α := Int → Res) (fun j52 => ∀ (y42 : Int) (h_y42 : InR y42), EO κ M_X12_fogs R_X12_fogs 52 [some (vr κ a), some (vi p1), some (vi p2), some (vi x3), none, none] [vi y42, vi x3, vr κ (a + 11)] s0 (j52 y42)) ?_ (fun j52 hj52 => ?_)
      · intro y42 h_y42
        refine q_iastore (m := 10) d_X12_fogs_52 hA.2.2.2.2.2.2.2.2.2.2.2.1 (by decide) rfl h_y42 w_s0 (fun g43 s44 w_s44 => ?_)
        refine q_iinc (x := x3) d_X12_fogs_53 rfl rfl ?_
        refine q_goto d_X12_fogs_56 ?_
        refine q_sub (ls' := [some (vr κ a), some (vi p1), some (vi p2), some (vi (wr (x3 + 1))), none, none]) ⟨rfl, rfl, rfl, rfl, trivial⟩ ?_
        exact ih (wr (x3 + 1)) (inr_wr _) s44 w_s44
      refine q_icmp_ne d_X12_fogs_42 h_x3 (w_s0 _ _) (fun c45 => ?_) (fun c45 => ?_)
      · refine q_ldcw (n := 1000000) d_X12_fogs_45 ck_12_396 rfl ?_
        refine q_goto d_X12_fogs_48 ?_
        refine q_sub (ls' := [some (vr κ a), some (vi p1), some (vi p2), some (vi x3), none, none]) ⟨rfl, rfl, rfl, rfl, trivial⟩ ?_
        exact hj52 1000000 (inr_d rfl)
      · refine q_iconst d_X12_fogs_51 ?_
        refine q_sub (ls' := [some (vr κ a), some (vi p1), some (vi p2), some (vi x3), none, none]) ⟨rfl, rfl, rfl, rfl, trivial⟩ ?_
        exact hj52 0 (inr_b (Or.inl rfl))
set_option maxHeartbeats 4000000 in
set_option maxRecDepth 10000 in
theorem c_X12_fogs (κ : Kp) (a : Nat) (hA : At12 κ a) (x1 : Int) (h_x1 : InR x1) (x2 : Int) (h_x2 : InR x2) (s0 : Mem) : ∀ r σ', f_X12_fogs a x1 x2 s0 = some (r, σ') → Ct κ M_X12_fogs R_X12_fogs [vr κ a, vi x1, vi x2] s0 r σ' := by
  intro r σ' ho
  refine Ct.of (by decide) (Nat.le_of_ble_eq_true rfl) (cat_ok rfl) (fun w_s0 => ?_) ⟨rfl, rfl⟩
  refine q_ent (ls' := [some (vr κ a), some (vi x1), some (vi x2), none, none, none]) (o := f_X12_fogs a x1 x2 s0) ⟨rfl, rfl, rfl, trivial⟩ ?_ ho
  unfold f_X12_fogs
  refine q_iload_n (x := x1) d_X12_fogs_0 rfl ?_
  refine q_iconst d_X12_fogs_1 ?_
  refine q_bipush d_X12_fogs_2 rfl ?_
  refine q_callZ (R' := R_X12_isIn) (runS (As := [vi x1, vi 0, vi 9]) (rest := []) d_X12_fogs_4.1 cv_12_60 rfl ⟨rfl, rfl, by decide, by decide⟩ (Nat.le_of_ble_eq_true rfl) w_s0 rfl) d_X12_fogs_4.2 (c_X12_isIn κ x1 h_x1 0 (inr_b (Or.inl rfl)) 9 (inr_d rfl) s0) rfl (fun r1 s2 h_r1 w_s2 => ?_)
  refine q_if_eq d_X12_fogs_7 (inr_b h_r1) (fun c3 => ?_) (fun c3 => ?_)
  · refine q_iconst d_X12_fogs_20 ?_
    exact q_ireti d_X12_fogs_21 rfl (inr_d rfl) w_s2
  · refine q_iload_n (x := x2) d_X12_fogs_10 rfl ?_
    refine q_iconst d_X12_fogs_11 ?_
    refine q_bipush d_X12_fogs_12 rfl ?_
    refine q_callZ (R' := R_X12_isIn) (runS (As := [vi x2, vi 0, vi 48]) (rest := []) d_X12_fogs_14.1 cv_12_60 rfl ⟨rfl, rfl, by decide, by decide⟩ (Nat.le_of_ble_eq_true rfl) w_s2 rfl) d_X12_fogs_14.2 (c_X12_isIn κ x2 h_x2 0 (inr_b (Or.inl rfl)) 48 (inr_d rfl) s2) rfl (fun r4 s5 h_r4 w_s5 => ?_)
    refine q_if_ne d_X12_fogs_17 (inr_b h_r4) (fun c6 => ?_) (fun c6 => ?_)
    · refine q_iconst d_X12_fogs_20 ?_
      exact q_ireti d_X12_fogs_21 rfl (inr_d rfl) w_s5
    · refine q_iconst d_X12_fogs_22 ?_
      refine q_istore_n d_X12_fogs_23 rfl ?_
      refine q_jn (α := Mem → Res) (fun j59 => ∀ (s7 : Mem) (w_s7 : WF s7), EO κ M_X12_fogs R_X12_fogs 59 [some (vr κ a), some (vi x1), some (vi x2), none, none, none] [] s7 (j59 s7)) ?_ (fun j59 hj59 => ?_)
      · intro s7 w_s7
        refine q_iconst d_X12_fogs_59 ?_
        refine q_istore_n d_X12_fogs_60 rfl ?_
        refine q_jn (α := Mem → Res) (fun j212 => ∀ (s8 : Mem) (w_s8 : WF s8), EO κ M_X12_fogs R_X12_fogs 212 [some (vr κ a), some (vi x1), none, none, none, none] [] s8 (j212 s8)) ?_ (fun j212 hj212 => ?_)
        · intro s8 w_s8
          refine q_iconst d_X12_fogs_212 ?_
          refine q_istore_n d_X12_fogs_213 rfl ?_
          refine q_iload_n (x := x1) d_X12_fogs_214 rfl ?_
          refine q_istore d_X12_fogs_215 rfl ?_
          refine q_jn (α := Int → Res) (fun j240 => ∀ (v9 : Int) (h_v9 : InR v9), EO κ M_X12_fogs R_X12_fogs 240 [none, none, none, some (vi v9), none, none] [] s8 (j240 v9)) ?_ (fun j240 hj240 => ?_)
          · intro v9 h_v9
            refine q_iload_n (x := v9) d_X12_fogs_240 rfl ?_
            exact q_ireti d_X12_fogs_241 rfl h_v9 w_s8
          refine q_sub (ls' := [some (vr κ a), none, none, some (vi 0), some (vi x1), none]) ⟨rfl, rfl, rfl, trivial⟩ ?_
          exact l_X12_fogs_217 κ a hA j240 s8 w_s8 hj240 FU 0 (inr_b (Or.inl rfl)) x1 h_x1
        refine q_sub (ls' := [some (vr κ a), some (vi x1), some (vi x2), some (vi 0), none, none]) ⟨rfl, rfl, rfl, rfl, trivial⟩ ?_
        exact l_X12_fogs_61 κ a hA x1 h_x1 x2 h_x2 j212 hj212 FU 0 (inr_b (Or.inl rfl)) s7 w_s7
      refine q_sub (ls' := [some (vr κ a), some (vi x1), some (vi x2), some (vi 0), none, none]) ⟨rfl, rfl, rfl, rfl, trivial⟩ ?_
      exact l_X12_fogs_24 κ a hA x1 h_x1 x2 h_x2 j59 hj59 FU 0 (inr_b (Or.inl rfl)) s5 w_s5
abbrev R_X12_grownIn : Room := { frames := 0, cells := 0, slots := 0, locals := 0 }
noncomputable def f_X12_grownIn_4 (a : Nat) (p1 : Int) (k57 : Int → Res) (s0 : Mem) : Nat → Int → Int → Res
  | 0, _, _ => none
  | n + 1, x2, x3 =>
    if x3 < 12 then (jn (fun (v3 : Int) => f_X12_grownIn_4 a p1 k57 s0 n v3 (wr (x3 + 1))) fun j51 => if iand (ishr p1 x3) 1 = 0 then (j51 x2) else (gd ((0 : Int) ≤ wr (210 + x3) ∧ wr (210 + x3) < 1732) (if iand (s0 (a + 1) (wr (210 + x3))) p1 = 0 then (gd ((0 : Int) ≤ wr (198 + x3) ∧ wr (198 + x3) < 1732) (j51 (wr (x2 + (s0 (a + 1) (wr (198 + x3))))))) else (some ((-1), s0))))) else (k57 x2)
noncomputable def f_X12_grownIn (a : Nat) (x1 : Int) (s0 : Mem) : Res :=
  jn (fun (v1 : Int) => some (v1, s0)) fun j57 => f_X12_grownIn_4 a x1 j57 s0 FU 0 0
set_option maxHeartbeats 4000000 in
set_option maxRecDepth 10000 in
theorem l_X12_grownIn_4 (κ : Kp) (a : Nat) (hA : At12 κ a) (p1 : Int) (h_p1 : InR p1) (k57 : Int → Res) (s0 : Mem) (w_s0 : WF s0) (hk57 : ∀ (z2 : Int) (h_z2 : InR z2), EO κ M_X12_grownIn R_X12_grownIn 57 [none, none, some (vi z2), none] [] s0 (k57 z2)) : ∀ (n : Nat) (x2 : Int) (h_x2 : InR x2) (x3 : Int) (h_x3 : InR x3), EO κ M_X12_grownIn R_X12_grownIn 4 [some (vr κ a), some (vi p1), some (vi x2), some (vi x3)] [] s0 (f_X12_grownIn_4 a p1 k57 s0 n x2 x3) := by
  intro n
  induction n with
  | zero => exact fun _ _ _ _ => q_none
  | succ n ih =>
    intro x2 h_x2 x3 h_x3
    rw [f_X12_grownIn_4]
    refine q_iload_n (x := x3) d_X12_grownIn_4 rfl ?_
    refine q_bipush d_X12_grownIn_5 rfl ?_
    refine q_icmp_ge d_X12_grownIn_7 h_x3 (inr_d rfl) (fun c2 => ?_) (fun c2 => ?_)
    · refine q_iload_n (x := p1) d_X12_grownIn_10 rfl ?_
      refine q_iload_n (x := x3) d_X12_grownIn_11 rfl ?_
      refine q_ishr d_X12_grownIn_12 ?_
      refine q_iconst d_X12_grownIn_13 ?_
      refine q_iand d_X12_grownIn_14 ?_
      refine q_jn (α := Int → Res) (fun j51 => ∀ (v3 : Int) (h_v3 : InR v3), EO κ M_X12_grownIn R_X12_grownIn 51 [some (vr κ a), some (vi p1), some (vi v3), some (vi x3)] [] s0 (j51 v3)) ?_ (fun j51 hj51 => ?_)
      · intro v3 h_v3
        refine q_iinc (x := x3) d_X12_grownIn_51 rfl rfl ?_
        refine q_goto d_X12_grownIn_54 ?_
        refine q_sub (ls' := [some (vr κ a), some (vi p1), some (vi v3), some (vi (wr (x3 + 1)))]) ⟨rfl, rfl, rfl, rfl, trivial⟩ ?_
        exact ih v3 h_v3 (wr (x3 + 1)) (inr_wr _)
      refine q_if_ne d_X12_grownIn_15 (inr_i32 _) (fun c4 => ?_) (fun c4 => ?_)
      · refine q_goto d_X12_grownIn_18 ?_
        refine q_sub (ls' := [some (vr κ a), some (vi p1), some (vi x2), some (vi x3)]) ⟨rfl, rfl, rfl, rfl, trivial⟩ ?_
        exact hj51 x2 h_x2
      · refine q_aload_n d_X12_grownIn_21 rfl ?_
        refine q_getR (n := 1) d_X12_grownIn_22 hA.1 fi_12_7 rfl (Nat.le_of_ble_eq_true rfl) ?_
        refine q_sipush d_X12_grownIn_25 rfl ?_
        refine q_iload_n (x := x3) d_X12_grownIn_28 rfl ?_
        refine q_iadd d_X12_grownIn_29 ?_
        refine q_iaload (m := 1732) d_X12_grownIn_30 hA.2.1 (by decide) rfl (fun g5 => ?_)
        refine q_iload_n (x := p1) d_X12_grownIn_31 rfl ?_
        refine q_iand d_X12_grownIn_32 ?_
        refine q_if_eq d_X12_grownIn_33 (inr_i32 _) (fun c6 => ?_) (fun c6 => ?_)
        · refine q_iload_n (x := x2) d_X12_grownIn_38 rfl ?_
          refine q_aload_n d_X12_grownIn_39 rfl ?_
          refine q_getR (n := 1) d_X12_grownIn_40 hA.1 fi_12_7 rfl (Nat.le_of_ble_eq_true rfl) ?_
          refine q_sipush d_X12_grownIn_43 rfl ?_
          refine q_iload_n (x := x3) d_X12_grownIn_46 rfl ?_
          refine q_iadd d_X12_grownIn_47 ?_
          refine q_iaload (m := 1732) d_X12_grownIn_48 hA.2.1 (by decide) rfl (fun g7 => ?_)
          refine q_iadd d_X12_grownIn_49 ?_
          refine q_istore_n d_X12_grownIn_50 rfl ?_
          refine q_sub (ls' := [some (vr κ a), some (vi p1), some (vi (wr (x2 + (s0 (a + 1) (wr (198 + x3)))))), some (vi x3)]) ⟨rfl, rfl, rfl, rfl, trivial⟩ ?_
          exact hj51 (wr (x2 + (s0 (a + 1) (wr (198 + x3))))) (inr_wr _)
        · refine q_iconst d_X12_grownIn_36 ?_
          exact q_ireti d_X12_grownIn_37 rfl (inr_d rfl) w_s0
    · refine q_sub (ls' := [none, none, some (vi x2), none]) ⟨rfl, trivial⟩ ?_
      exact hk57 x2 h_x2
set_option maxHeartbeats 4000000 in
set_option maxRecDepth 10000 in
theorem c_X12_grownIn (κ : Kp) (a : Nat) (hA : At12 κ a) (x1 : Int) (h_x1 : InR x1) (s0 : Mem) : ∀ r σ', f_X12_grownIn a x1 s0 = some (r, σ') → Ct κ M_X12_grownIn R_X12_grownIn [vr κ a, vi x1] s0 r σ' := by
  intro r σ' ho
  refine Ct.of (by decide) (Nat.le_of_ble_eq_true rfl) (cat_ok rfl) (fun w_s0 => ?_) ⟨rfl, rfl⟩
  refine q_ent (ls' := [some (vr κ a), some (vi x1), none, none]) (o := f_X12_grownIn a x1 s0) ⟨rfl, rfl, trivial⟩ ?_ ho
  unfold f_X12_grownIn
  refine q_iconst d_X12_grownIn_0 ?_
  refine q_istore_n d_X12_grownIn_1 rfl ?_
  refine q_iconst d_X12_grownIn_2 ?_
  refine q_istore_n d_X12_grownIn_3 rfl ?_
  refine q_jn (α := Int → Res) (fun j57 => ∀ (v1 : Int) (h_v1 : InR v1), EO κ M_X12_grownIn R_X12_grownIn 57 [none, none, some (vi v1), none] [] s0 (j57 v1)) ?_ (fun j57 hj57 => ?_)
  · intro v1 h_v1
    refine q_iload_n (x := v1) d_X12_grownIn_57 rfl ?_
    exact q_ireti d_X12_grownIn_58 rfl h_v1 w_s0
  refine q_sub (ls' := [some (vr κ a), some (vi x1), some (vi 0), some (vi 0)]) ⟨rfl, rfl, rfl, rfl, trivial⟩ ?_
  exact l_X12_grownIn_4 κ a hA x1 h_x1 j57 s0 w_s0 hj57 FU 0 (inr_b (Or.inl rfl)) 0 (inr_b (Or.inl rfl))
abbrev R_X12_buys : Room := { frames := 1, cells := 0, slots := 0, locals := 23 }
noncomputable def f_X12_buys_27 (a : Nat) (p1 : Int) (k87 : Int → Mem → Res) : Nat → Int → Int → Mem → Res
  | 0, _, _, _ => none
  | n + 1, x3, x4, s0 =>
    if x4 < 4096 then (gd ((0 : Int) ≤ 197 ∧ (197 : Int) < 1732) (jn (fun (v15 : Int) (s16 : Mem) => f_X12_buys_27 a p1 k87 n v15 (wr (x4 + 1)) s16) fun j81 => if iand x4 (ixor (s0 (a + 1) 197) (-1)) = 0 then (jn (fun (s18 : Mem) => bd (f_X12_grownIn a x4 s18) fun r19 s20 => if r19 < p1 then (j81 x3 s20) else (j81 x4 s20)) fun j68 => if x3 = (-1) then (j68 s0) else (bd (f_X12_count0 x4 s0) fun r23 s24 => bd (f_X12_count0 x3 s24) fun r25 s26 => if r23 < r25 then (j68 s26) else (j81 x3 s26))) else (j81 x3 s0))) else (k87 x3 s0)
noncomputable def f_X12_buys (a : Nat) (x1 : Int) (x2 : Int) (s0 : Mem) : Res :=
  bd (f_X12_isIn x1 1 999 s0) fun r1 s2 => if r1 = 0 then (some ((-1), s2)) else (bd (f_X12_isIn x2 0 1 s2) fun r4 s5 => if r4 = 0 then (some ((-1), s5)) else (jn (fun (v7 : Int) (s8 : Mem) => if v7 = (-1) then (some (v7, s8)) else (if x2 = 1 then (some (v7, s8)) else (bd (f_X12_count0 v7 s8) fun r11 s12 => some (r11, s12)))) fun j87 => f_X12_buys_27 a x1 j87 FU (-1) 1 s5))
set_option maxHeartbeats 4000000 in
set_option maxRecDepth 10000 in
theorem l_X12_buys_27 (κ : Kp) (a : Nat) (hA : At12 κ a) (p1 : Int) (h_p1 : InR p1) (p2 : Int) (h_p2 : InR p2) (k87 : Int → Mem → Res) (hk87 : ∀ (z3 : Int) (h_z3 : InR z3) (sz : Mem) (w_sz : WF sz), EO κ M_X12_buys R_X12_buys 87 [none, none, some (vi p2), some (vi z3), none] [] sz (k87 z3 sz)) : ∀ (n : Nat) (x3 : Int) (h_x3 : InR x3) (x4 : Int) (h_x4 : InR x4) (s0 : Mem) (w_s0 : WF s0), EO κ M_X12_buys R_X12_buys 27 [some (vr κ a), some (vi p1), some (vi p2), some (vi x3), some (vi x4)] [] s0 (f_X12_buys_27 a p1 k87 n x3 x4 s0) := by
  intro n
  induction n with
  | zero => exact fun _ _ _ _ _ _ => q_none
  | succ n ih =>
    intro x3 h_x3 x4 h_x4 s0 w_s0
    rw [f_X12_buys_27]
    refine q_iload (x := x4) d_X12_buys_27 rfl ?_
    refine q_sipush d_X12_buys_29 rfl ?_
    refine q_icmp_ge d_X12_buys_32 h_x4 (inr_d rfl) (fun c13 => ?_) (fun c13 => ?_)
    · refine q_iload (x := x4) d_X12_buys_35 rfl ?_
      refine q_aload_n d_X12_buys_37 rfl ?_
      refine q_getR (n := 1) d_X12_buys_38 hA.1 fi_12_7 rfl (Nat.le_of_ble_eq_true rfl) ?_
      refine q_sipush d_X12_buys_41 rfl ?_
      refine q_iaload (m := 1732) d_X12_buys_44 hA.2.1 (by decide) rfl (fun g14 => ?_)
      refine q_iconst d_X12_buys_45 ?_
      refine q_ixor d_X12_buys_46 ?_
      refine q_iand d_X12_buys_47 ?_
      refine q_jn (α := Int → Mem → Res) (fun j81 => ∀ (v15 : Int) (h_v15 : InR v15) (s16 : Mem) (w_s16 : WF s16), EO κ M_X12_buys R_X12_buys 81 [some (vr κ a), some (vi p1), some (vi p2), some (vi v15), some (vi x4)] [] s16 (j81 v15 s16)) ?_ (fun j81 hj81 => ?_)
      · intro v15 h_v15 s16 w_s16
        refine q_iinc (x := x4) d_X12_buys_81 rfl rfl ?_
        refine q_goto d_X12_buys_84 ?_
        refine q_sub (ls' := [some (vr κ a), some (vi p1), some (vi p2), some (vi v15), some (vi (wr (x4 + 1)))]) ⟨rfl, rfl, rfl, rfl, rfl, trivial⟩ ?_
        exact ih v15 h_v15 (wr (x4 + 1)) (inr_wr _) s16 w_s16
      refine q_if_ne d_X12_buys_48 (inr_i32 _) (fun c17 => ?_) (fun c17 => ?_)
      · refine q_iload_n (x := x3) d_X12_buys_51 rfl ?_
        refine q_iconst d_X12_buys_52 ?_
        refine q_jn (α := Mem → Res) (fun j68 => ∀ (s18 : Mem) (w_s18 : WF s18), EO κ M_X12_buys R_X12_buys 68 [some (vr κ a), some (vi p1), some (vi p2), some (vi x3), some (vi x4)] [] s18 (j68 s18)) ?_ (fun j68 hj68 => ?_)
        · intro s18 w_s18
          refine q_aload_n d_X12_buys_68 rfl ?_
          refine q_iload (x := x4) d_X12_buys_69 rfl ?_
          refine q_callI (R' := R_X12_grownIn) (runV (As := [vi x4]) (rest := []) d_X12_buys_71.1 cv_12_400 rfl hA.1 rfl rfl ⟨rfl, rfl, by decide, by decide⟩ (Nat.le_of_ble_eq_true rfl) w_s18 rfl) d_X12_buys_71.2 (c_X12_grownIn κ a hA x4 h_x4 s18) rfl (fun r19 s20 h_r19 w_s20 => ?_)
          refine q_iload_n (x := p1) d_X12_buys_74 rfl ?_
          refine q_icmp_lt d_X12_buys_75 h_r19 h_p1 (fun c21 => ?_) (fun c21 => ?_)
          · refine q_sub (ls' := [some (vr κ a), some (vi p1), some (vi p2), some (vi x3), some (vi x4)]) ⟨rfl, rfl, rfl, rfl, rfl, trivial⟩ ?_
            exact hj81 x3 h_x3 s20 w_s20
          · refine q_iload (x := x4) d_X12_buys_78 rfl ?_
            refine q_istore_n d_X12_buys_80 rfl ?_
            refine q_sub (ls' := [some (vr κ a), some (vi p1), some (vi p2), some (vi x4), some (vi x4)]) ⟨rfl, rfl, rfl, rfl, rfl, trivial⟩ ?_
            exact hj81 x4 h_x4 s20 w_s20
        refine q_icmp_eq d_X12_buys_53 h_x3 (inr_d rfl) (fun c22 => ?_) (fun c22 => ?_)
        · refine q_sub (ls' := [some (vr κ a), some (vi p1), some (vi p2), some (vi x3), some (vi x4)]) ⟨rfl, rfl, rfl, rfl, rfl, trivial⟩ ?_
          exact hj68 s0 w_s0
        · refine q_iload (x := x4) d_X12_buys_56 rfl ?_
          refine q_callI (R' := R_X12_count0) (runS (As := [vi x4]) (rest := []) d_X12_buys_58.1 cv_12_397 rfl ⟨rfl, rfl, by decide, by decide⟩ (Nat.le_of_ble_eq_true rfl) w_s0 rfl) d_X12_buys_58.2 (c_X12_count0 κ x4 h_x4 s0) rfl (fun r23 s24 h_r23 w_s24 => ?_)
          refine q_iload_n (x := x3) d_X12_buys_61 rfl ?_
          refine q_callI (R' := R_X12_count0) (runS (As := [vi x3]) (rest := [vi r23]) d_X12_buys_62.1 cv_12_397 rfl ⟨rfl, rfl, by decide, by decide⟩ (Nat.le_of_ble_eq_true rfl) w_s24 rfl) d_X12_buys_62.2 (c_X12_count0 κ x3 h_x3 s24) rfl (fun r25 s26 h_r25 w_s26 => ?_)
          refine q_icmp_ge d_X12_buys_65 h_r23 h_r25 (fun c27 => ?_) (fun c27 => ?_)
          · refine q_sub (ls' := [some (vr κ a), some (vi p1), some (vi p2), some (vi x3), some (vi x4)]) ⟨rfl, rfl, rfl, rfl, rfl, trivial⟩ ?_
            exact hj68 s26 w_s26
          · refine q_sub (ls' := [some (vr κ a), some (vi p1), some (vi p2), some (vi x3), some (vi x4)]) ⟨rfl, rfl, rfl, rfl, rfl, trivial⟩ ?_
            exact hj81 x3 h_x3 s26 w_s26
      · refine q_sub (ls' := [some (vr κ a), some (vi p1), some (vi p2), some (vi x3), some (vi x4)]) ⟨rfl, rfl, rfl, rfl, rfl, trivial⟩ ?_
        exact hj81 x3 h_x3 s0 w_s0
    · refine q_sub (ls' := [none, none, some (vi p2), some (vi x3), none]) ⟨rfl, rfl, trivial⟩ ?_
      exact hk87 x3 h_x3 s0 w_s0
set_option maxHeartbeats 4000000 in
set_option maxRecDepth 10000 in
theorem c_X12_buys (κ : Kp) (a : Nat) (hA : At12 κ a) (x1 : Int) (h_x1 : InR x1) (x2 : Int) (h_x2 : InR x2) (s0 : Mem) : ∀ r σ', f_X12_buys a x1 x2 s0 = some (r, σ') → Ct κ M_X12_buys R_X12_buys [vr κ a, vi x1, vi x2] s0 r σ' := by
  intro r σ' ho
  refine Ct.of (by decide) (Nat.le_of_ble_eq_true rfl) (cat_ok rfl) (fun w_s0 => ?_) ⟨rfl, rfl⟩
  refine q_ent (ls' := [some (vr κ a), some (vi x1), some (vi x2), none, none]) (o := f_X12_buys a x1 x2 s0) ⟨rfl, rfl, rfl, trivial⟩ ?_ ho
  unfold f_X12_buys
  refine q_iload_n (x := x1) d_X12_buys_0 rfl ?_
  refine q_iconst d_X12_buys_1 ?_
  refine q_sipush d_X12_buys_2 rfl ?_
  refine q_callZ (R' := R_X12_isIn) (runS (As := [vi x1, vi 1, vi 999]) (rest := []) d_X12_buys_5.1 cv_12_60 rfl ⟨rfl, rfl, by decide, by decide⟩ (Nat.le_of_ble_eq_true rfl) w_s0 rfl) d_X12_buys_5.2 (c_X12_isIn κ x1 h_x1 1 (inr_b (Or.inr rfl)) 999 (inr_d rfl) s0) rfl (fun r1 s2 h_r1 w_s2 => ?_)
  refine q_if_eq d_X12_buys_8 (inr_b h_r1) (fun c3 => ?_) (fun c3 => ?_)
  · refine q_iconst d_X12_buys_20 ?_
    exact q_ireti d_X12_buys_21 rfl (inr_d rfl) w_s2
  · refine q_iload_n (x := x2) d_X12_buys_11 rfl ?_
    refine q_iconst d_X12_buys_12 ?_
    refine q_iconst d_X12_buys_13 ?_
    refine q_callZ (R' := R_X12_isIn) (runS (As := [vi x2, vi 0, vi 1]) (rest := []) d_X12_buys_14.1 cv_12_60 rfl ⟨rfl, rfl, by decide, by decide⟩ (Nat.le_of_ble_eq_true rfl) w_s2 rfl) d_X12_buys_14.2 (c_X12_isIn κ x2 h_x2 0 (inr_b (Or.inl rfl)) 1 (inr_b (Or.inr rfl)) s2) rfl (fun r4 s5 h_r4 w_s5 => ?_)
    refine q_if_ne d_X12_buys_17 (inr_b h_r4) (fun c6 => ?_) (fun c6 => ?_)
    · refine q_iconst d_X12_buys_20 ?_
      exact q_ireti d_X12_buys_21 rfl (inr_d rfl) w_s5
    · refine q_iconst d_X12_buys_22 ?_
      refine q_istore_n d_X12_buys_23 rfl ?_
      refine q_iconst d_X12_buys_24 ?_
      refine q_istore d_X12_buys_25 rfl ?_
      refine q_jn (α := Int → Mem → Res) (fun j87 => ∀ (v7 : Int) (h_v7 : InR v7) (s8 : Mem) (w_s8 : WF s8), EO κ M_X12_buys R_X12_buys 87 [none, none, some (vi x2), some (vi v7), none] [] s8 (j87 v7 s8)) ?_ (fun j87 hj87 => ?_)
      · intro v7 h_v7 s8 w_s8
        refine q_iload_n (x := v7) d_X12_buys_87 rfl ?_
        refine q_iconst d_X12_buys_88 ?_
        refine q_icmp_eq d_X12_buys_89 h_v7 (inr_d rfl) (fun c9 => ?_) (fun c9 => ?_)
        · refine q_iload_n (x := v7) d_X12_buys_97 rfl ?_
          refine q_goto d_X12_buys_98 ?_
          exact q_ireti d_X12_buys_105 rfl h_v7 w_s8
        · refine q_iload_n (x := x2) d_X12_buys_92 rfl ?_
          refine q_iconst d_X12_buys_93 ?_
          refine q_icmp_ne d_X12_buys_94 h_x2 (inr_b (Or.inr rfl)) (fun c10 => ?_) (fun c10 => ?_)
          · refine q_iload_n (x := v7) d_X12_buys_97 rfl ?_
            refine q_goto d_X12_buys_98 ?_
            exact q_ireti d_X12_buys_105 rfl h_v7 w_s8
          · refine q_iload_n (x := v7) d_X12_buys_101 rfl ?_
            refine q_callI (R' := R_X12_count0) (runS (As := [vi v7]) (rest := []) d_X12_buys_102.1 cv_12_397 rfl ⟨rfl, rfl, by decide, by decide⟩ (Nat.le_of_ble_eq_true rfl) w_s8 rfl) d_X12_buys_102.2 (c_X12_count0 κ v7 h_v7 s8) rfl (fun r11 s12 h_r11 w_s12 => ?_)
            exact q_ireti d_X12_buys_105 rfl h_r11 w_s12
      refine q_sub (ls' := [some (vr κ a), some (vi x1), some (vi x2), some (vi (-1)), some (vi 1)]) ⟨rfl, rfl, rfl, rfl, rfl, trivial⟩ ?_
      exact l_X12_buys_27 κ a hA x1 h_x1 x2 h_x2 j87 hj87 FU (-1) (inr_d rfl) 1 (inr_b (Or.inr rfl)) s5 w_s5
abbrev R_X12_heardFrom : Room := { frames := 0, cells := 0, slots := 0, locals := 0 }
noncomputable def f_X12_heardFrom_17 (a : Nat) (p2 : Int) (k62 : Int → Res) (s0 : Mem) : Nat → Int → Int → Res
  | 0, _, _ => none
  | n + 1, x3, x5 =>
    if x5 < 12 then (jn (fun (y5 : Int) => f_X12_heardFrom_17 a p2 k62 s0 n (ior x3 y5) (wr (x5 + 1))) fun j54 => if iand (ishr x3 x5) 1 = 1 then (gd ((0 : Int) ≤ wr (210 + x5) ∧ wr (210 + x5) < 1732) (j54 (iand (s0 (a + 1) (wr (210 + x5))) (ixor p2 (-1))))) else (j54 0)) else (k62 x3)
noncomputable def f_X12_heardFrom_7 (a : Nat) (p2 : Int) (k68 : Int → Res) (s0 : Mem) : Nat → Int → Int → Res
  | 0, _, _ => none
  | n + 1, x3, x4 =>
    if x4 < 12 then (jn (fun (v3 : Int) => f_X12_heardFrom_7 a p2 k68 s0 n v3 (wr (x4 + 1))) fun j62 => f_X12_heardFrom_17 a p2 j62 s0 FU x3 0) else (k68 x3)
noncomputable def f_X12_heardFrom (a : Nat) (x1 : Int) (x2 : Int) (s0 : Mem) : Res :=
  jn (fun (v1 : Int) => some (v1, s0)) fun j68 => f_X12_heardFrom_7 a x2 j68 s0 FU (ishl 1 x1) 0
set_option maxHeartbeats 4000000 in
set_option maxRecDepth 10000 in
theorem l_X12_heardFrom_17 (κ : Kp) (a : Nat) (hA : At12 κ a) (p2 : Int) (h_p2 : InR p2) (p4 : Int) (h_p4 : InR p4) (k62 : Int → Res) (s0 : Mem) (w_s0 : WF s0) (hk62 : ∀ (z3 : Int) (h_z3 : InR z3), EO κ M_X12_heardFrom R_X12_heardFrom 62 [some (vr κ a), none, some (vi p2), some (vi z3), some (vi p4), none] [] s0 (k62 z3)) : ∀ (n : Nat) (x3 : Int) (h_x3 : InR x3) (x5 : Int) (h_x5 : InR x5), EO κ M_X12_heardFrom R_X12_heardFrom 17 [some (vr κ a), none, some (vi p2), some (vi x3), some (vi p4), some (vi x5)] [] s0 (f_X12_heardFrom_17 a p2 k62 s0 n x3 x5) := by
  intro n
  induction n with
  | zero => exact fun _ _ _ _ => q_none
  | succ n ih =>
    intro x3 h_x3 x5 h_x5
    rw [f_X12_heardFrom_17]
    refine q_iload (x := x5) d_X12_heardFrom_17 rfl ?_
    refine q_bipush d_X12_heardFrom_19 rfl ?_
    refine q_icmp_ge d_X12_heardFrom_21 h_x5 (inr_d rfl) (fun c4 => ?_) (fun c4 => ?_)
    · refine q_iload_n (x := x3) d_X12_heardFrom_24 rfl ?_
      refine q_iload_n (x := x3) d_X12_heardFrom_25 rfl ?_
      refine q_iload (x := x5) d_X12_heardFrom_26 rfl ?_
      refine q_ishr d_X12_heardFrom_28 ?_
      refine q_iconst d_X12_heardFrom_29 ?_
      refine q_iand d_X12_heardFrom_30 ?_
      refine q_iconst d_X12_heardFrom_31 ?_
      refine q_jn (α := Int → Res) (fun j54 => ∀ (y5 : Int) (h_y5 : InR y5), EO κ M_X12_heardFrom R_X12_heardFrom 54 [some (vr κ a), none, some (vi p2), none, some (vi p4), some (vi x5)] [vi y5, vi x3] s0 (j54 y5)) ?_ (fun j54 hj54 => ?_)
      · intro y5 h_y5
        refine q_ior d_X12_heardFrom_54 ?_
        refine q_istore_n d_X12_heardFrom_55 rfl ?_
        refine q_iinc (x := x5) d_X12_heardFrom_56 rfl rfl ?_
        refine q_goto d_X12_heardFrom_59 ?_
        refine q_sub (ls' := [some (vr κ a), none, some (vi p2), some (vi (ior x3 y5)), some (vi p4), some (vi (wr (x5 + 1)))]) ⟨rfl, rfl, rfl, rfl, rfl, trivial⟩ ?_
        exact ih (ior x3 y5) (inr_i32 _) (wr (x5 + 1)) (inr_wr _)
      refine q_icmp_ne d_X12_heardFrom_32 (inr_i32 _) (inr_b (Or.inr rfl)) (fun c6 => ?_) (fun c6 => ?_)
      · refine q_aload_n d_X12_heardFrom_35 rfl ?_
        refine q_getR (n := 1) d_X12_heardFrom_36 hA.1 fi_12_7 rfl (Nat.le_of_ble_eq_true rfl) ?_
        refine q_sipush d_X12_heardFrom_39 rfl ?_
        refine q_iload (x := x5) d_X12_heardFrom_42 rfl ?_
        refine q_iadd d_X12_heardFrom_44 ?_
        refine q_iaload (m := 1732) d_X12_heardFrom_45 hA.2.1 (by decide) rfl (fun g7 => ?_)
        refine q_iload_n (x := p2) d_X12_heardFrom_46 rfl ?_
        refine q_iconst d_X12_heardFrom_47 ?_
        refine q_ixor d_X12_heardFrom_48 ?_
        refine q_iand d_X12_heardFrom_49 ?_
        refine q_goto d_X12_heardFrom_50 ?_
        refine q_sub (ls' := [some (vr κ a), none, some (vi p2), none, some (vi p4), some (vi x5)]) ⟨rfl, rfl, rfl, rfl, trivial⟩ ?_
        exact hj54 (iand (s0 (a + 1) (wr (210 + x5))) (ixor p2 (-1))) (inr_i32 _)
      · refine q_iconst d_X12_heardFrom_53 ?_
        refine q_sub (ls' := [some (vr κ a), none, some (vi p2), none, some (vi p4), some (vi x5)]) ⟨rfl, rfl, rfl, rfl, trivial⟩ ?_
        exact hj54 0 (inr_b (Or.inl rfl))
    · refine q_sub (ls' := [some (vr κ a), none, some (vi p2), some (vi x3), some (vi p4), none]) ⟨rfl, rfl, rfl, rfl, trivial⟩ ?_
      exact hk62 x3 h_x3
set_option maxHeartbeats 4000000 in
set_option maxRecDepth 10000 in
theorem l_X12_heardFrom_7 (κ : Kp) (a : Nat) (hA : At12 κ a) (p2 : Int) (h_p2 : InR p2) (k68 : Int → Res) (s0 : Mem) (w_s0 : WF s0) (hk68 : ∀ (z3 : Int) (h_z3 : InR z3), EO κ M_X12_heardFrom R_X12_heardFrom 68 [none, none, none, some (vi z3), none, none] [] s0 (k68 z3)) : ∀ (n : Nat) (x3 : Int) (h_x3 : InR x3) (x4 : Int) (h_x4 : InR x4), EO κ M_X12_heardFrom R_X12_heardFrom 7 [some (vr κ a), none, some (vi p2), some (vi x3), some (vi x4), none] [] s0 (f_X12_heardFrom_7 a p2 k68 s0 n x3 x4) := by
  intro n
  induction n with
  | zero => exact fun _ _ _ _ => q_none
  | succ n ih =>
    intro x3 h_x3 x4 h_x4
    rw [f_X12_heardFrom_7]
    refine q_iload (x := x4) d_X12_heardFrom_7 rfl ?_
    refine q_bipush d_X12_heardFrom_9 rfl ?_
    refine q_icmp_ge d_X12_heardFrom_11 h_x4 (inr_d rfl) (fun c2 => ?_) (fun c2 => ?_)
    · refine q_iconst d_X12_heardFrom_14 ?_
      refine q_istore d_X12_heardFrom_15 rfl ?_
      refine q_jn (α := Int → Res) (fun j62 => ∀ (v3 : Int) (h_v3 : InR v3), EO κ M_X12_heardFrom R_X12_heardFrom 62 [some (vr κ a), none, some (vi p2), some (vi v3), some (vi x4), none] [] s0 (j62 v3)) ?_ (fun j62 hj62 => ?_)
      · intro v3 h_v3
        refine q_iinc (x := x4) d_X12_heardFrom_62 rfl rfl ?_
        refine q_goto d_X12_heardFrom_65 ?_
        refine q_sub (ls' := [some (vr κ a), none, some (vi p2), some (vi v3), some (vi (wr (x4 + 1))), none]) ⟨rfl, rfl, rfl, rfl, trivial⟩ ?_
        exact ih v3 h_v3 (wr (x4 + 1)) (inr_wr _)
      refine q_sub (ls' := [some (vr κ a), none, some (vi p2), some (vi x3), some (vi x4), some (vi 0)]) ⟨rfl, rfl, rfl, rfl, rfl, trivial⟩ ?_
      exact l_X12_heardFrom_17 κ a hA p2 h_p2 x4 h_x4 j62 s0 w_s0 hj62 FU x3 h_x3 0 (inr_b (Or.inl rfl))
    · refine q_sub (ls' := [none, none, none, some (vi x3), none, none]) ⟨rfl, trivial⟩ ?_
      exact hk68 x3 h_x3
set_option maxHeartbeats 4000000 in
set_option maxRecDepth 10000 in
theorem c_X12_heardFrom (κ : Kp) (a : Nat) (hA : At12 κ a) (x1 : Int) (h_x1 : InR x1) (x2 : Int) (h_x2 : InR x2) (s0 : Mem) : ∀ r σ', f_X12_heardFrom a x1 x2 s0 = some (r, σ') → Ct κ M_X12_heardFrom R_X12_heardFrom [vr κ a, vi x1, vi x2] s0 r σ' := by
  intro r σ' ho
  refine Ct.of (by decide) (Nat.le_of_ble_eq_true rfl) (cat_ok rfl) (fun w_s0 => ?_) ⟨rfl, rfl⟩
  refine q_ent (ls' := [some (vr κ a), some (vi x1), some (vi x2), none, none, none]) (o := f_X12_heardFrom a x1 x2 s0) ⟨rfl, rfl, rfl, trivial⟩ ?_ ho
  unfold f_X12_heardFrom
  refine q_iconst d_X12_heardFrom_0 ?_
  refine q_iload_n (x := x1) d_X12_heardFrom_1 rfl ?_
  refine q_ishl d_X12_heardFrom_2 ?_
  refine q_istore_n d_X12_heardFrom_3 rfl ?_
  refine q_iconst d_X12_heardFrom_4 ?_
  refine q_istore d_X12_heardFrom_5 rfl ?_
  refine q_jn (α := Int → Res) (fun j68 => ∀ (v1 : Int) (h_v1 : InR v1), EO κ M_X12_heardFrom R_X12_heardFrom 68 [none, none, none, some (vi v1), none, none] [] s0 (j68 v1)) ?_ (fun j68 hj68 => ?_)
  · intro v1 h_v1
    refine q_iload_n (x := v1) d_X12_heardFrom_68 rfl ?_
    exact q_ireti d_X12_heardFrom_69 rfl h_v1 w_s0
  refine q_sub (ls' := [some (vr κ a), none, some (vi x2), some (vi (ishl 1 x1)), some (vi 0), none]) ⟨rfl, rfl, rfl, rfl, trivial⟩ ?_
  exact l_X12_heardFrom_7 κ a hA x2 h_x2 j68 s0 w_s0 hj68 FU (ishl 1 x1) (inr_i32 _) 0 (inr_b (Or.inl rfl))
abbrev R_X12_hears : Room := { frames := 2, cells := 0, slots := 0, locals := 43 }
noncomputable def f_X12_hears (a : Nat) (x1 : Int) (s0 : Mem) : Res :=
  bd (f_X12_isTold a x1 s0) fun r1 s2 => if r1 = 0 then (some ((-1), s2)) else (bd (f_X12_heardFrom a x1 0 s2) fun r4 s5 => some (r4, s5))
set_option maxHeartbeats 4000000 in
set_option maxRecDepth 10000 in
theorem c_X12_hears (κ : Kp) (a : Nat) (hA : At12 κ a) (x1 : Int) (h_x1 : InR x1) (s0 : Mem) : ∀ r σ', f_X12_hears a x1 s0 = some (r, σ') → Ct κ M_X12_hears R_X12_hears [vr κ a, vi x1] s0 r σ' := by
  intro r σ' ho
  refine Ct.of (by decide) (Nat.le_of_ble_eq_true rfl) (cat_ok rfl) (fun w_s0 => ?_) ⟨rfl, rfl⟩
  refine q_ent (ls' := [some (vr κ a), some (vi x1)]) (o := f_X12_hears a x1 s0) ⟨rfl, rfl, trivial⟩ ?_ ho
  unfold f_X12_hears
  refine q_aload_n d_X12_hears_0 rfl ?_
  refine q_iload_n (x := x1) d_X12_hears_1 rfl ?_
  refine q_callZ (R' := R_X12_isTold) (runV (As := [vi x1]) (rest := []) d_X12_hears_2.1 cv_12_273 rfl hA.1 rfl rfl ⟨rfl, rfl, by decide, by decide⟩ (Nat.le_of_ble_eq_true rfl) w_s0 rfl) d_X12_hears_2.2 (c_X12_isTold κ a hA x1 h_x1 s0) rfl (fun r1 s2 h_r1 w_s2 => ?_)
  refine q_if_eq d_X12_hears_5 (inr_b h_r1) (fun c3 => ?_) (fun c3 => ?_)
  · refine q_iconst d_X12_hears_17 ?_
    exact q_ireti d_X12_hears_18 rfl (inr_d rfl) w_s2
  · refine q_aload_n d_X12_hears_8 rfl ?_
    refine q_iload_n (x := x1) d_X12_hears_9 rfl ?_
    refine q_iconst d_X12_hears_10 ?_
    refine q_callI (R' := R_X12_heardFrom) (runV (As := [vi x1, vi 0]) (rest := []) d_X12_hears_11.1 cv_12_403 rfl hA.1 rfl rfl ⟨rfl, rfl, by decide, by decide⟩ (Nat.le_of_ble_eq_true rfl) w_s2 rfl) d_X12_hears_11.2 (c_X12_heardFrom κ a hA x1 h_x1 0 (inr_b (Or.inl rfl)) s2) rfl (fun r4 s5 h_r4 w_s5 => ?_)
    refine q_goto d_X12_hears_14 ?_
    exact q_ireti d_X12_hears_18 rfl h_r4 w_s5
abbrev R_X12_cuts : Room := { frames := 2, cells := 0, slots := 0, locals := 43 }
noncomputable def f_X12_cuts_48 (a : Nat) (p1 : Int) (p2 : Int) (k104 : Int → Mem → Res) : Nat → Int → Int → Mem → Res
  | 0, _, _, _ => none
  | n + 1, x3, x4, s0 =>
    if x4 < 4096 then (jn (fun (v13 : Int) (s14 : Mem) => f_X12_cuts_48 a p1 p2 k104 n v13 (wr (x4 + 1)) s14) fun j98 => if iand x4 (ior (ishl 1 p1) (ishl 1 p2)) = 0 then (bd (f_X12_count0 x4 s0) fun r16 s17 => if r16 < x3 then (bd (f_X12_heardFrom a p1 x4 s17) fun r19 s20 => if iand (ishr r19 p2) 1 = 0 then (bd (f_X12_count0 x4 s20) fun r22 s23 => j98 r22 s23) else (j98 x3 s20)) else (j98 x3 s17)) else (j98 x3 s0)) else (k104 x3 s0)
noncomputable def f_X12_cuts (a : Nat) (x1 : Int) (x2 : Int) (s0 : Mem) : Res :=
  bd (f_X12_isTold a x1 s0) fun r1 s2 => if r1 = 0 then (some ((-1), s2)) else (bd (f_X12_isTold a x2 s2) fun r4 s5 => if r4 = 0 then (some ((-1), s5)) else (if x1 = x2 then (some ((-1), s5)) else (gd ((0 : Int) ≤ wr (210 + x1) ∧ wr (210 + x1) < 1732) (if iand (ishr (s5 (a + 1) (wr (210 + x1))) x2) 1 = 1 then (some ((-1), s5)) else (jn (fun (v10 : Int) (s11 : Mem) => some (v10, s11)) fun j104 => f_X12_cuts_48 a x1 x2 j104 FU 100000000 0 s5)))))
set_option maxHeartbeats 4000000 in
set_option maxRecDepth 10000 in
theorem l_X12_cuts_48 (κ : Kp) (a : Nat) (hA : At12 κ a) (p1 : Int) (h_p1 : InR p1) (p2 : Int) (h_p2 : InR p2) (k104 : Int → Mem → Res) (hk104 : ∀ (z3 : Int) (h_z3 : InR z3) (sz : Mem) (w_sz : WF sz), EO κ M_X12_cuts R_X12_cuts 104 [none, none, none, some (vi z3), none] [] sz (k104 z3 sz)) : ∀ (n : Nat) (x3 : Int) (h_x3 : InR x3) (x4 : Int) (h_x4 : InR x4) (s0 : Mem) (w_s0 : WF s0), EO κ M_X12_cuts R_X12_cuts 48 [some (vr κ a), some (vi p1), some (vi p2), some (vi x3), some (vi x4)] [] s0 (f_X12_cuts_48 a p1 p2 k104 n x3 x4 s0) := by
  intro n
  induction n with
  | zero => exact fun _ _ _ _ _ _ => q_none
  | succ n ih =>
    intro x3 h_x3 x4 h_x4 s0 w_s0
    rw [f_X12_cuts_48]
    refine q_iload (x := x4) d_X12_cuts_48 rfl ?_
    refine q_sipush d_X12_cuts_50 rfl ?_
    refine q_icmp_ge d_X12_cuts_53 h_x4 (inr_d rfl) (fun c12 => ?_) (fun c12 => ?_)
    · refine q_iload (x := x4) d_X12_cuts_56 rfl ?_
      refine q_iconst d_X12_cuts_58 ?_
      refine q_iload_n (x := p1) d_X12_cuts_59 rfl ?_
      refine q_ishl d_X12_cuts_60 ?_
      refine q_iconst d_X12_cuts_61 ?_
      refine q_iload_n (x := p2) d_X12_cuts_62 rfl ?_
      refine q_ishl d_X12_cuts_63 ?_
      refine q_ior d_X12_cuts_64 ?_
      refine q_iand d_X12_cuts_65 ?_
      refine q_jn (α := Int → Mem → Res) (fun j98 => ∀ (v13 : Int) (h_v13 : InR v13) (s14 : Mem) (w_s14 : WF s14), EO κ M_X12_cuts R_X12_cuts 98 [some (vr κ a), some (vi p1), some (vi p2), some (vi v13), some (vi x4)] [] s14 (j98 v13 s14)) ?_ (fun j98 hj98 => ?_)
      · intro v13 h_v13 s14 w_s14
        refine q_iinc (x := x4) d_X12_cuts_98 rfl rfl ?_
        refine q_goto d_X12_cuts_101 ?_
        refine q_sub (ls' := [some (vr κ a), some (vi p1), some (vi p2), some (vi v13), some (vi (wr (x4 + 1)))]) ⟨rfl, rfl, rfl, rfl, rfl, trivial⟩ ?_
        exact ih v13 h_v13 (wr (x4 + 1)) (inr_wr _) s14 w_s14
      refine q_if_ne d_X12_cuts_66 (inr_i32 _) (fun c15 => ?_) (fun c15 => ?_)
      · refine q_iload (x := x4) d_X12_cuts_69 rfl ?_
        refine q_callI (R' := R_X12_count0) (runS (As := [vi x4]) (rest := []) d_X12_cuts_71.1 cv_12_397 rfl ⟨rfl, rfl, by decide, by decide⟩ (Nat.le_of_ble_eq_true rfl) w_s0 rfl) d_X12_cuts_71.2 (c_X12_count0 κ x4 h_x4 s0) rfl (fun r16 s17 h_r16 w_s17 => ?_)
        refine q_iload_n (x := x3) d_X12_cuts_74 rfl ?_
        refine q_icmp_ge d_X12_cuts_75 h_r16 h_x3 (fun c18 => ?_) (fun c18 => ?_)
        · refine q_aload_n d_X12_cuts_78 rfl ?_
          refine q_iload_n (x := p1) d_X12_cuts_79 rfl ?_
          refine q_iload (x := x4) d_X12_cuts_80 rfl ?_
          refine q_callI (R' := R_X12_heardFrom) (runV (As := [vi p1, vi x4]) (rest := []) d_X12_cuts_82.1 cv_12_403 rfl hA.1 rfl rfl ⟨rfl, rfl, by decide, by decide⟩ (Nat.le_of_ble_eq_true rfl) w_s17 rfl) d_X12_cuts_82.2 (c_X12_heardFrom κ a hA p1 h_p1 x4 h_x4 s17) rfl (fun r19 s20 h_r19 w_s20 => ?_)
          refine q_iload_n (x := p2) d_X12_cuts_85 rfl ?_
          refine q_ishr d_X12_cuts_86 ?_
          refine q_iconst d_X12_cuts_87 ?_
          refine q_iand d_X12_cuts_88 ?_
          refine q_if_ne d_X12_cuts_89 (inr_i32 _) (fun c21 => ?_) (fun c21 => ?_)
          · refine q_iload (x := x4) d_X12_cuts_92 rfl ?_
            refine q_callI (R' := R_X12_count0) (runS (As := [vi x4]) (rest := []) d_X12_cuts_94.1 cv_12_397 rfl ⟨rfl, rfl, by decide, by decide⟩ (Nat.le_of_ble_eq_true rfl) w_s20 rfl) d_X12_cuts_94.2 (c_X12_count0 κ x4 h_x4 s20) rfl (fun r22 s23 h_r22 w_s23 => ?_)
            refine q_istore_n d_X12_cuts_97 rfl ?_
            refine q_sub (ls' := [some (vr κ a), some (vi p1), some (vi p2), some (vi r22), some (vi x4)]) ⟨rfl, rfl, rfl, rfl, rfl, trivial⟩ ?_
            exact hj98 r22 h_r22 s23 w_s23
          · refine q_sub (ls' := [some (vr κ a), some (vi p1), some (vi p2), some (vi x3), some (vi x4)]) ⟨rfl, rfl, rfl, rfl, rfl, trivial⟩ ?_
            exact hj98 x3 h_x3 s20 w_s20
        · refine q_sub (ls' := [some (vr κ a), some (vi p1), some (vi p2), some (vi x3), some (vi x4)]) ⟨rfl, rfl, rfl, rfl, rfl, trivial⟩ ?_
          exact hj98 x3 h_x3 s17 w_s17
      · refine q_sub (ls' := [some (vr κ a), some (vi p1), some (vi p2), some (vi x3), some (vi x4)]) ⟨rfl, rfl, rfl, rfl, rfl, trivial⟩ ?_
        exact hj98 x3 h_x3 s0 w_s0
    · refine q_sub (ls' := [none, none, none, some (vi x3), none]) ⟨rfl, trivial⟩ ?_
      exact hk104 x3 h_x3 s0 w_s0
set_option maxHeartbeats 4000000 in
set_option maxRecDepth 10000 in
theorem c_X12_cuts (κ : Kp) (a : Nat) (hA : At12 κ a) (x1 : Int) (h_x1 : InR x1) (x2 : Int) (h_x2 : InR x2) (s0 : Mem) : ∀ r σ', f_X12_cuts a x1 x2 s0 = some (r, σ') → Ct κ M_X12_cuts R_X12_cuts [vr κ a, vi x1, vi x2] s0 r σ' := by
  intro r σ' ho
  refine Ct.of (by decide) (Nat.le_of_ble_eq_true rfl) (cat_ok rfl) (fun w_s0 => ?_) ⟨rfl, rfl⟩
  refine q_ent (ls' := [some (vr κ a), some (vi x1), some (vi x2), none, none]) (o := f_X12_cuts a x1 x2 s0) ⟨rfl, rfl, rfl, trivial⟩ ?_ ho
  unfold f_X12_cuts
  refine q_aload_n d_X12_cuts_0 rfl ?_
  refine q_iload_n (x := x1) d_X12_cuts_1 rfl ?_
  refine q_callZ (R' := R_X12_isTold) (runV (As := [vi x1]) (rest := []) d_X12_cuts_2.1 cv_12_273 rfl hA.1 rfl rfl ⟨rfl, rfl, by decide, by decide⟩ (Nat.le_of_ble_eq_true rfl) w_s0 rfl) d_X12_cuts_2.2 (c_X12_isTold κ a hA x1 h_x1 s0) rfl (fun r1 s2 h_r1 w_s2 => ?_)
  refine q_if_eq d_X12_cuts_5 (inr_b h_r1) (fun c3 => ?_) (fun c3 => ?_)
  · refine q_iconst d_X12_cuts_39 ?_
    exact q_ireti d_X12_cuts_40 rfl (inr_d rfl) w_s2
  · refine q_aload_n d_X12_cuts_8 rfl ?_
    refine q_iload_n (x := x2) d_X12_cuts_9 rfl ?_
    refine q_callZ (R' := R_X12_isTold) (runV (As := [vi x2]) (rest := []) d_X12_cuts_10.1 cv_12_273 rfl hA.1 rfl rfl ⟨rfl, rfl, by decide, by decide⟩ (Nat.le_of_ble_eq_true rfl) w_s2 rfl) d_X12_cuts_10.2 (c_X12_isTold κ a hA x2 h_x2 s2) rfl (fun r4 s5 h_r4 w_s5 => ?_)
    refine q_if_eq d_X12_cuts_13 (inr_b h_r4) (fun c6 => ?_) (fun c6 => ?_)
    · refine q_iconst d_X12_cuts_39 ?_
      exact q_ireti d_X12_cuts_40 rfl (inr_d rfl) w_s5
    · refine q_iload_n (x := x1) d_X12_cuts_16 rfl ?_
      refine q_iload_n (x := x2) d_X12_cuts_17 rfl ?_
      refine q_icmp_eq d_X12_cuts_18 h_x1 h_x2 (fun c7 => ?_) (fun c7 => ?_)
      · refine q_iconst d_X12_cuts_39 ?_
        exact q_ireti d_X12_cuts_40 rfl (inr_d rfl) w_s5
      · refine q_aload_n d_X12_cuts_21 rfl ?_
        refine q_getR (n := 1) d_X12_cuts_22 hA.1 fi_12_7 rfl (Nat.le_of_ble_eq_true rfl) ?_
        refine q_sipush d_X12_cuts_25 rfl ?_
        refine q_iload_n (x := x1) d_X12_cuts_28 rfl ?_
        refine q_iadd d_X12_cuts_29 ?_
        refine q_iaload (m := 1732) d_X12_cuts_30 hA.2.1 (by decide) rfl (fun g8 => ?_)
        refine q_iload_n (x := x2) d_X12_cuts_31 rfl ?_
        refine q_ishr d_X12_cuts_32 ?_
        refine q_iconst d_X12_cuts_33 ?_
        refine q_iand d_X12_cuts_34 ?_
        refine q_iconst d_X12_cuts_35 ?_
        refine q_icmp_ne d_X12_cuts_36 (inr_i32 _) (inr_b (Or.inr rfl)) (fun c9 => ?_) (fun c9 => ?_)
        · refine q_iconst d_X12_cuts_39 ?_
          exact q_ireti d_X12_cuts_40 rfl (inr_d rfl) w_s5
        · refine q_ldcw (n := 100000000) d_X12_cuts_41 ck_12_395 rfl ?_
          refine q_istore_n d_X12_cuts_44 rfl ?_
          refine q_iconst d_X12_cuts_45 ?_
          refine q_istore d_X12_cuts_46 rfl ?_
          refine q_jn (α := Int → Mem → Res) (fun j104 => ∀ (v10 : Int) (h_v10 : InR v10) (s11 : Mem) (w_s11 : WF s11), EO κ M_X12_cuts R_X12_cuts 104 [none, none, none, some (vi v10), none] [] s11 (j104 v10 s11)) ?_ (fun j104 hj104 => ?_)
          · intro v10 h_v10 s11 w_s11
            refine q_iload_n (x := v10) d_X12_cuts_104 rfl ?_
            exact q_ireti d_X12_cuts_105 rfl h_v10 w_s11
          refine q_sub (ls' := [some (vr κ a), some (vi x1), some (vi x2), some (vi 100000000), some (vi 0)]) ⟨rfl, rfl, rfl, rfl, rfl, trivial⟩ ?_
          exact l_X12_cuts_48 κ a hA x1 h_x1 x2 h_x2 j104 hj104 FU 100000000 (inr_d rfl) 0 (inr_b (Or.inl rfl)) s5 w_s5
abbrev R_X12_count : Room := { frames := 1, cells := 0, slots := 0, locals := 22 }
noncomputable def f_X12_count (a : Nat) (x1 : Int) (x2 : Int) (s0 : Mem) : Res :=
  if x1 = (-1) then (gd ((0 : Int) ≤ 63 ∧ (63 : Int) < 1732) (lm (mup s0 (a + 1) 63 0) fun s3 => some (0, s3))) else (jn (fun (y4 : Int) (s5 : Mem) => if y4 = 0 then (some ((-1), s5)) else (gd ((0 : Int) ≤ 63 ∧ (63 : Int) < 1732) (if s5 (a + 1) 63 = 8 then (some ((-1), s5)) else (gd ((0 : Int) ≤ 63 ∧ (63 : Int) < 1732) (gd ((0 : Int) ≤ wr (222 + (wr (2 * (s5 (a + 1) 63)))) ∧ wr (222 + (wr (2 * (s5 (a + 1) 63)))) < 1732) (lm (mup s5 (a + 1) (wr (222 + (wr (2 * (s5 (a + 1) 63))))) x1) fun s11 => gd ((0 : Int) ≤ 63 ∧ (63 : Int) < 1732) (gd ((0 : Int) ≤ wr ((wr (222 + (wr (2 * (s11 (a + 1) 63))))) + 1) ∧ wr ((wr (222 + (wr (2 * (s11 (a + 1) 63))))) + 1) < 1732) (lm (mup s11 (a + 1) (wr ((wr (222 + (wr (2 * (s11 (a + 1) 63))))) + 1)) x2) fun s14 => gd ((0 : Int) ≤ 63 ∧ (63 : Int) < 1732) (gd ((0 : Int) ≤ 63 ∧ (63 : Int) < 1732) (lm (mup s14 (a + 1) 63 (wr ((s14 (a + 1) 63) + 1))) fun s17 => gd ((0 : Int) ≤ 63 ∧ (63 : Int) < 1732) (some (s17 (a + 1) 63, s17)))))))))))) fun j61 => jn (fun (_ : Unit) => bd (f_X12_isIn x2 0 1000 s0) fun r19 s20 => j61 r19 s20) fun j24 => if x1 = 0 then (j24 ()) else (if x1 = 1 then (j24 ()) else (bd (f_X12_isIn x1 2 30 s0) fun r23 s24 => jn (fun (s25 : Mem) => j61 0 s25) fun j60 => if r23 = 0 then (j60 s24) else (bd (f_X12_isIn x2 0 (wr (x1 - 1)) s24) fun r27 s28 => if r27 = 0 then (j60 s28) else (j61 1 s28)))))
set_option maxHeartbeats 4000000 in
set_option maxRecDepth 10000 in
theorem c_X12_count (κ : Kp) (a : Nat) (hA : At12 κ a) (x1 : Int) (h_x1 : InR x1) (x2 : Int) (h_x2 : InR x2) (s0 : Mem) : ∀ r σ', f_X12_count a x1 x2 s0 = some (r, σ') → Ct κ M_X12_count R_X12_count [vr κ a, vi x1, vi x2] s0 r σ' := by
  intro r σ' ho
  refine Ct.of (by decide) (Nat.le_of_ble_eq_true rfl) (cat_ok rfl) (fun w_s0 => ?_) ⟨rfl, rfl⟩
  refine q_ent (ls' := [some (vr κ a), some (vi x1), some (vi x2), none]) (o := f_X12_count a x1 x2 s0) ⟨rfl, rfl, rfl, trivial⟩ ?_ ho
  unfold f_X12_count
  refine q_iload_n (x := x1) d_X12_count_0 rfl ?_
  refine q_iconst d_X12_count_1 ?_
  refine q_icmp_ne d_X12_count_2 h_x1 (inr_d rfl) (fun c1 => ?_) (fun c1 => ?_)
  · refine q_aload_n d_X12_count_5 rfl ?_
    refine q_getR (n := 1) d_X12_count_6 hA.1 fi_12_7 rfl (Nat.le_of_ble_eq_true rfl) ?_
    refine q_bipush d_X12_count_9 rfl ?_
    refine q_iconst d_X12_count_11 ?_
    refine q_iastore (m := 1732) d_X12_count_12 hA.2.1 (by decide) rfl (inr_b (Or.inl rfl)) w_s0 (fun g2 s3 w_s3 => ?_)
    refine q_iconst d_X12_count_13 ?_
    exact q_ireti d_X12_count_14 rfl (inr_b (Or.inl rfl)) w_s3
  · refine q_iload_n (x := x1) d_X12_count_15 rfl ?_
    refine q_jn (α := Int → Mem → Res) (fun j61 => ∀ (y4 : Int) (h_y4 : y4 = 0 ∨ y4 = 1) (s5 : Mem) (w_s5 : WF s5), EO κ M_X12_count R_X12_count 61 [some (vr κ a), some (vi x1), some (vi x2), none] [vi y4] s5 (j61 y4 s5)) ?_ (fun j61 hj61 => ?_)
    · intro y4 h_y4 s5 w_s5
      refine q_istore_n d_X12_count_61 rfl ?_
      refine q_iload_n (x := y4) d_X12_count_62 rfl ?_
      refine q_if_eq d_X12_count_63 (inr_b h_y4) (fun c6 => ?_) (fun c6 => ?_)
      · refine q_iconst d_X12_count_78 ?_
        exact q_ireti d_X12_count_79 rfl (inr_d rfl) w_s5
      · refine q_aload_n d_X12_count_66 rfl ?_
        refine q_getR (n := 1) d_X12_count_67 hA.1 fi_12_7 rfl (Nat.le_of_ble_eq_true rfl) ?_
        refine q_bipush d_X12_count_70 rfl ?_
        refine q_iaload (m := 1732) d_X12_count_72 hA.2.1 (by decide) rfl (fun g7 => ?_)
        refine q_bipush d_X12_count_73 rfl ?_
        refine q_icmp_ne d_X12_count_75 (w_s5 _ _) (inr_d rfl) (fun c8 => ?_) (fun c8 => ?_)
        · refine q_iconst d_X12_count_78 ?_
          exact q_ireti d_X12_count_79 rfl (inr_d rfl) w_s5
        · refine q_aload_n d_X12_count_80 rfl ?_
          refine q_getR (n := 1) d_X12_count_81 hA.1 fi_12_7 rfl (Nat.le_of_ble_eq_true rfl) ?_
          refine q_sipush d_X12_count_84 rfl ?_
          refine q_iconst d_X12_count_87 ?_
          refine q_aload_n d_X12_count_88 rfl ?_
          refine q_getR (n := 1) d_X12_count_89 hA.1 fi_12_7 rfl (Nat.le_of_ble_eq_true rfl) ?_
          refine q_bipush d_X12_count_92 rfl ?_
          refine q_iaload (m := 1732) d_X12_count_94 hA.2.1 (by decide) rfl (fun g9 => ?_)
          refine q_imul d_X12_count_95 ?_
          refine q_iadd d_X12_count_96 ?_
          refine q_iload_n (x := x1) d_X12_count_97 rfl ?_
          refine q_iastore (m := 1732) d_X12_count_98 hA.2.1 (by decide) rfl h_x1 w_s5 (fun g10 s11 w_s11 => ?_)
          refine q_aload_n d_X12_count_99 rfl ?_
          refine q_getR (n := 1) d_X12_count_100 hA.1 fi_12_7 rfl (Nat.le_of_ble_eq_true rfl) ?_
          refine q_sipush d_X12_count_103 rfl ?_
          refine q_iconst d_X12_count_106 ?_
          refine q_aload_n d_X12_count_107 rfl ?_
          refine q_getR (n := 1) d_X12_count_108 hA.1 fi_12_7 rfl (Nat.le_of_ble_eq_true rfl) ?_
          refine q_bipush d_X12_count_111 rfl ?_
          refine q_iaload (m := 1732) d_X12_count_113 hA.2.1 (by decide) rfl (fun g12 => ?_)
          refine q_imul d_X12_count_114 ?_
          refine q_iadd d_X12_count_115 ?_
          refine q_iconst d_X12_count_116 ?_
          refine q_iadd d_X12_count_117 ?_
          refine q_iload_n (x := x2) d_X12_count_118 rfl ?_
          refine q_iastore (m := 1732) d_X12_count_119 hA.2.1 (by decide) rfl h_x2 w_s11 (fun g13 s14 w_s14 => ?_)
          refine q_aload_n d_X12_count_120 rfl ?_
          refine q_getR (n := 1) d_X12_count_121 hA.1 fi_12_7 rfl (Nat.le_of_ble_eq_true rfl) ?_
          refine q_bipush d_X12_count_124 rfl ?_
          refine q_dup2 d_X12_count_126 rfl rfl ?_
          refine q_iaload (m := 1732) d_X12_count_127 hA.2.1 (by decide) rfl (fun g15 => ?_)
          refine q_iconst d_X12_count_128 ?_
          refine q_iadd d_X12_count_129 ?_
          refine q_iastore (m := 1732) d_X12_count_130 hA.2.1 (by decide) rfl (inr_wr _) w_s14 (fun g16 s17 w_s17 => ?_)
          refine q_aload_n d_X12_count_131 rfl ?_
          refine q_getR (n := 1) d_X12_count_132 hA.1 fi_12_7 rfl (Nat.le_of_ble_eq_true rfl) ?_
          refine q_bipush d_X12_count_135 rfl ?_
          refine q_iaload (m := 1732) d_X12_count_137 hA.2.1 (by decide) rfl (fun g18 => ?_)
          exact q_ireti d_X12_count_138 rfl (w_s17 _ _) w_s17
    refine q_jn (α := Unit → Res) (fun j24 => EO κ M_X12_count R_X12_count 24 [some (vr κ a), some (vi x1), some (vi x2), none] [] s0 (j24 ())) ?_ (fun j24 hj24 => ?_)
    · refine q_iload_n (x := x2) d_X12_count_24 rfl ?_
      refine q_iconst d_X12_count_25 ?_
      refine q_sipush d_X12_count_26 rfl ?_
      refine q_callZ (R' := R_X12_isIn) (runS (As := [vi x2, vi 0, vi 1000]) (rest := []) d_X12_count_29.1 cv_12_60 rfl ⟨rfl, rfl, by decide, by decide⟩ (Nat.le_of_ble_eq_true rfl) w_s0 rfl) d_X12_count_29.2 (c_X12_isIn κ x2 h_x2 0 (inr_b (Or.inl rfl)) 1000 (inr_d rfl) s0) rfl (fun r19 s20 h_r19 w_s20 => ?_)
      refine q_goto d_X12_count_32 ?_
      refine q_sub (ls' := [some (vr κ a), some (vi x1), some (vi x2), none]) ⟨rfl, rfl, rfl, trivial⟩ ?_
      exact hj61 r19 h_r19 s20 w_s20
    refine q_if_eq d_X12_count_16 h_x1 (fun c21 => ?_) (fun c21 => ?_)
    · refine q_sub (ls' := [some (vr κ a), some (vi x1), some (vi x2), none]) ⟨rfl, rfl, rfl, trivial⟩ ?_
      exact hj24 
    · refine q_iload_n (x := x1) d_X12_count_19 rfl ?_
      refine q_iconst d_X12_count_20 ?_
      refine q_icmp_ne d_X12_count_21 h_x1 (inr_b (Or.inr rfl)) (fun c22 => ?_) (fun c22 => ?_)
      · refine q_sub (ls' := [some (vr κ a), some (vi x1), some (vi x2), none]) ⟨rfl, rfl, rfl, trivial⟩ ?_
        exact hj24 
      · refine q_iload_n (x := x1) d_X12_count_35 rfl ?_
        refine q_iconst d_X12_count_36 ?_
        refine q_bipush d_X12_count_37 rfl ?_
        refine q_callZ (R' := R_X12_isIn) (runS (As := [vi x1, vi 2, vi 30]) (rest := []) d_X12_count_39.1 cv_12_60 rfl ⟨rfl, rfl, by decide, by decide⟩ (Nat.le_of_ble_eq_true rfl) w_s0 rfl) d_X12_count_39.2 (c_X12_isIn κ x1 h_x1 2 (inr_d rfl) 30 (inr_d rfl) s0) rfl (fun r23 s24 h_r23 w_s24 => ?_)
        refine q_jn (α := Mem → Res) (fun j60 => ∀ (s25 : Mem) (w_s25 : WF s25), EO κ M_X12_count R_X12_count 60 [some (vr κ a), some (vi x1), some (vi x2), none] [] s25 (j60 s25)) ?_ (fun j60 hj60 => ?_)
        · intro s25 w_s25
          refine q_iconst d_X12_count_60 ?_
          refine q_sub (ls' := [some (vr κ a), some (vi x1), some (vi x2), none]) ⟨rfl, rfl, rfl, trivial⟩ ?_
          exact hj61 0 (Or.inl rfl) s25 w_s25
        refine q_if_eq d_X12_count_42 (inr_b h_r23) (fun c26 => ?_) (fun c26 => ?_)
        · refine q_sub (ls' := [some (vr κ a), some (vi x1), some (vi x2), none]) ⟨rfl, rfl, rfl, trivial⟩ ?_
          exact hj60 s24 w_s24
        · refine q_iload_n (x := x2) d_X12_count_45 rfl ?_
          refine q_iconst d_X12_count_46 ?_
          refine q_iload_n (x := x1) d_X12_count_47 rfl ?_
          refine q_iconst d_X12_count_48 ?_
          refine q_isub d_X12_count_49 ?_
          refine q_callZ (R' := R_X12_isIn) (runS (As := [vi x2, vi 0, vi (wr (x1 - 1))]) (rest := []) d_X12_count_50.1 cv_12_60 rfl ⟨rfl, rfl, by decide, by decide⟩ (Nat.le_of_ble_eq_true rfl) w_s24 rfl) d_X12_count_50.2 (c_X12_isIn κ x2 h_x2 0 (inr_b (Or.inl rfl)) (wr (x1 - 1)) (inr_wr _) s24) rfl (fun r27 s28 h_r27 w_s28 => ?_)
          refine q_if_eq d_X12_count_53 (inr_b h_r27) (fun c29 => ?_) (fun c29 => ?_)
          · refine q_sub (ls' := [some (vr κ a), some (vi x1), some (vi x2), none]) ⟨rfl, rfl, rfl, trivial⟩ ?_
            exact hj60 s28 w_s28
          · refine q_iconst d_X12_count_56 ?_
            refine q_goto d_X12_count_57 ?_
            refine q_sub (ls' := [some (vr κ a), some (vi x1), some (vi x2), none]) ⟨rfl, rfl, rfl, trivial⟩ ?_
            exact hj61 1 (Or.inr rfl) s28 w_s28
abbrev R_X12_isFitting : Room := { frames := 0, cells := 0, slots := 0, locals := 0 }
noncomputable def f_X12_isFitting_2 (a : Nat) (p1 : Int) (k85 : Unit → Res) (s0 : Mem) : Nat → Int → Res
  | 0, _ => none
  | n + 1, x2 =>
    gd ((0 : Int) ≤ 63 ∧ (63 : Int) < 1732) (if x2 < s0 (a + 1) 63 then (gd ((0 : Int) ≤ wr (222 + (wr (2 * x2))) ∧ wr (222 + (wr (2 * x2))) < 1732) (gd ((0 : Int) ≤ wr ((wr (222 + (wr (2 * x2)))) + 1) ∧ wr ((wr (222 + (wr (2 * x2)))) + 1) < 1732) (jn (fun (_ : Unit) => f_X12_isFitting_2 a p1 k85 s0 n (wr (x2 + 1))) fun j79 => if s0 (a + 1) (wr (222 + (wr (2 * x2)))) = 0 then (if p1 < s0 (a + 1) (wr ((wr (222 + (wr (2 * x2)))) + 1)) then (j79 ()) else (some (0, s0))) else (if s0 (a + 1) (wr (222 + (wr (2 * x2)))) = 1 then (if p1 < s0 (a + 1) (wr ((wr (222 + (wr (2 * x2)))) + 1)) then (some (0, s0)) else (j79 ())) else (gd (s0 (a + 1) (wr (222 + (wr (2 * x2)))) ≠ 0) (if Int.tmod p1 (s0 (a + 1) (wr (222 + (wr (2 * x2))))) = s0 (a + 1) (wr ((wr (222 + (wr (2 * x2)))) + 1)) then (j79 ()) else (some (0, s0)))))))) else (k85 ()))
noncomputable def f_X12_isFitting (a : Nat) (x1 : Int) (s0 : Mem) : Res :=
  jn (fun (_ : Unit) => some (1, s0)) fun j85 => f_X12_isFitting_2 a x1 j85 s0 FU 0
set_option maxHeartbeats 4000000 in
set_option maxRecDepth 10000 in
theorem l_X12_isFitting_2 (κ : Kp) (a : Nat) (hA : At12 κ a) (p1 : Int) (h_p1 : InR p1) (k85 : Unit → Res) (s0 : Mem) (w_s0 : WF s0) (hk85 : EO κ M_X12_isFitting R_X12_isFitting 85 [none, none, none, none, none] [] s0 (k85 ())) : ∀ (n : Nat) (x2 : Int) (h_x2 : InR x2), EO κ M_X12_isFitting R_X12_isFitting 2 [some (vr κ a), some (vi p1), some (vi x2), none, none] [] s0 (f_X12_isFitting_2 a p1 k85 s0 n x2) := by
  intro n
  induction n with
  | zero => exact fun _ _ => q_none
  | succ n ih =>
    intro x2 h_x2
    rw [f_X12_isFitting_2]
    refine q_iload_n (x := x2) d_X12_isFitting_2 rfl ?_
    refine q_aload_n d_X12_isFitting_3 rfl ?_
    refine q_getR (n := 1) d_X12_isFitting_4 hA.1 fi_12_7 rfl (Nat.le_of_ble_eq_true rfl) ?_
    refine q_bipush d_X12_isFitting_7 rfl ?_
    refine q_iaload (m := 1732) d_X12_isFitting_9 hA.2.1 (by decide) rfl (fun g1 => ?_)
    refine q_icmp_ge d_X12_isFitting_10 h_x2 (w_s0 _ _) (fun c2 => ?_) (fun c2 => ?_)
    · refine q_aload_n d_X12_isFitting_13 rfl ?_
      refine q_getR (n := 1) d_X12_isFitting_14 hA.1 fi_12_7 rfl (Nat.le_of_ble_eq_true rfl) ?_
      refine q_sipush d_X12_isFitting_17 rfl ?_
      refine q_iconst d_X12_isFitting_20 ?_
      refine q_iload_n (x := x2) d_X12_isFitting_21 rfl ?_
      refine q_imul d_X12_isFitting_22 ?_
      refine q_iadd d_X12_isFitting_23 ?_
      refine q_iaload (m := 1732) d_X12_isFitting_24 hA.2.1 (by decide) rfl (fun g3 => ?_)
      refine q_istore_n d_X12_isFitting_25 rfl ?_
      refine q_aload_n d_X12_isFitting_26 rfl ?_
      refine q_getR (n := 1) d_X12_isFitting_27 hA.1 fi_12_7 rfl (Nat.le_of_ble_eq_true rfl) ?_
      refine q_sipush d_X12_isFitting_30 rfl ?_
      refine q_iconst d_X12_isFitting_33 ?_
      refine q_iload_n (x := x2) d_X12_isFitting_34 rfl ?_
      refine q_imul d_X12_isFitting_35 ?_
      refine q_iadd d_X12_isFitting_36 ?_
      refine q_iconst d_X12_isFitting_37 ?_
      refine q_iadd d_X12_isFitting_38 ?_
      refine q_iaload (m := 1732) d_X12_isFitting_39 hA.2.1 (by decide) rfl (fun g4 => ?_)
      refine q_istore d_X12_isFitting_40 rfl ?_
      refine q_iload_n (x := s0 (a + 1) (wr (222 + (wr (2 * x2))))) d_X12_isFitting_42 rfl ?_
      refine q_jn (α := Unit → Res) (fun j79 => EO κ M_X12_isFitting R_X12_isFitting 79 [some (vr κ a), some (vi p1), some (vi x2), none, none] [] s0 (j79 ())) ?_ (fun j79 hj79 => ?_)
      · refine q_iinc (x := x2) d_X12_isFitting_79 rfl rfl ?_
        refine q_goto d_X12_isFitting_82 ?_
        refine q_sub (ls' := [some (vr κ a), some (vi p1), some (vi (wr (x2 + 1))), none, none]) ⟨rfl, rfl, rfl, trivial⟩ ?_
        exact ih (wr (x2 + 1)) (inr_wr _)
      refine q_if_ne d_X12_isFitting_43 (w_s0 _ _) (fun c5 => ?_) (fun c5 => ?_)
      · refine q_iload_n (x := p1) d_X12_isFitting_46 rfl ?_
        refine q_iload (x := s0 (a + 1) (wr ((wr (222 + (wr (2 * x2)))) + 1))) d_X12_isFitting_47 rfl ?_
        refine q_icmp_lt d_X12_isFitting_49 h_p1 (w_s0 _ _) (fun c6 => ?_) (fun c6 => ?_)
        · refine q_sub (ls' := [some (vr κ a), some (vi p1), some (vi x2), none, none]) ⟨rfl, rfl, rfl, trivial⟩ ?_
          exact hj79 
        · refine q_goto d_X12_isFitting_52 ?_
          refine q_iconst d_X12_isFitting_77 ?_
          exact q_iretz d_X12_isFitting_78 rfl (Or.inl rfl) w_s0
      · refine q_iload_n (x := s0 (a + 1) (wr (222 + (wr (2 * x2))))) d_X12_isFitting_55 rfl ?_
        refine q_iconst d_X12_isFitting_56 ?_
        refine q_icmp_ne d_X12_isFitting_57 (w_s0 _ _) (inr_b (Or.inr rfl)) (fun c7 => ?_) (fun c7 => ?_)
        · refine q_iload_n (x := p1) d_X12_isFitting_60 rfl ?_
          refine q_iload (x := s0 (a + 1) (wr ((wr (222 + (wr (2 * x2)))) + 1))) d_X12_isFitting_61 rfl ?_
          refine q_icmp_ge d_X12_isFitting_63 h_p1 (w_s0 _ _) (fun c8 => ?_) (fun c8 => ?_)
          · refine q_goto d_X12_isFitting_66 ?_
            refine q_iconst d_X12_isFitting_77 ?_
            exact q_iretz d_X12_isFitting_78 rfl (Or.inl rfl) w_s0
          · refine q_sub (ls' := [some (vr κ a), some (vi p1), some (vi x2), none, none]) ⟨rfl, rfl, rfl, trivial⟩ ?_
            exact hj79 
        · refine q_iload_n (x := p1) d_X12_isFitting_69 rfl ?_
          refine q_iload_n (x := s0 (a + 1) (wr (222 + (wr (2 * x2))))) d_X12_isFitting_70 rfl ?_
          refine q_irem d_X12_isFitting_71 h_p1 (w_s0 _ _) (fun g9 => ?_)
          refine q_iload (x := s0 (a + 1) (wr ((wr (222 + (wr (2 * x2)))) + 1))) d_X12_isFitting_72 rfl ?_
          refine q_icmp_eq d_X12_isFitting_74 (inr_tmod h_p1 (w_s0 _ _)) (w_s0 _ _) (fun c10 => ?_) (fun c10 => ?_)
          · refine q_sub (ls' := [some (vr κ a), some (vi p1), some (vi x2), none, none]) ⟨rfl, rfl, rfl, trivial⟩ ?_
            exact hj79 
          · refine q_iconst d_X12_isFitting_77 ?_
            exact q_iretz d_X12_isFitting_78 rfl (Or.inl rfl) w_s0
    · refine q_sub (ls' := [none, none, none, none, none]) trivial ?_
      exact hk85 
set_option maxHeartbeats 4000000 in
set_option maxRecDepth 10000 in
theorem c_X12_isFitting (κ : Kp) (a : Nat) (hA : At12 κ a) (x1 : Int) (h_x1 : InR x1) (s0 : Mem) : ∀ r σ', f_X12_isFitting a x1 s0 = some (r, σ') → Ct κ M_X12_isFitting R_X12_isFitting [vr κ a, vi x1] s0 r σ' := by
  intro r σ' ho
  refine Ct.of (by decide) (Nat.le_of_ble_eq_true rfl) (cat_ok rfl) (fun w_s0 => ?_) ⟨rfl, rfl⟩
  refine q_ent (ls' := [some (vr κ a), some (vi x1), none, none, none]) (o := f_X12_isFitting a x1 s0) ⟨rfl, rfl, trivial⟩ ?_ ho
  unfold f_X12_isFitting
  refine q_iconst d_X12_isFitting_0 ?_
  refine q_istore_n d_X12_isFitting_1 rfl ?_
  refine q_jn (α := Unit → Res) (fun j85 => EO κ M_X12_isFitting R_X12_isFitting 85 [none, none, none, none, none] [] s0 (j85 ())) ?_ (fun j85 hj85 => ?_)
  · refine q_iconst d_X12_isFitting_85 ?_
    exact q_iretz d_X12_isFitting_86 rfl (Or.inr rfl) w_s0
  refine q_sub (ls' := [some (vr κ a), some (vi x1), some (vi 0), none, none]) ⟨rfl, rfl, rfl, trivial⟩ ?_
  exact l_X12_isFitting_2 κ a hA x1 h_x1 j85 s0 w_s0 hj85 FU 0 (inr_b (Or.inl rfl))
abbrev R_X12_mostAlike : Room := { frames := 1, cells := 0, slots := 0, locals := 24 }
noncomputable def f_X12_mostAlike_24 (a : Nat) (p1 : Int) (k73 : Int → Mem → Res) : Nat → Int → Int → Mem → Res
  | 0, _, _, _ => none
  | n + 1, x2, x3, s0 =>
    if 999 < x3 then (k73 x2 s0) else (bd (f_X12_isFitting a x3 s0) fun r5 s6 => jn (fun (v7 : Int) (s8 : Mem) => f_X12_mostAlike_24 a p1 k73 n v7 (wr (x3 + 1)) s8) fun j67 => if r5 = 0 then (j67 x2 s6) else (gd (p1 ≠ 0) (gd ((0 : Int) ≤ Int.tmod x3 p1 ∧ Int.tmod x3 p1 < 30) (gd ((0 : Int) ≤ Int.tmod x3 p1 ∧ Int.tmod x3 p1 < 30) (lm (mup s6 (a + 13) (Int.tmod x3 p1) (wr ((s6 (a + 13) (Int.tmod x3 p1)) + 1))) fun s13 => gd (p1 ≠ 0) (gd ((0 : Int) ≤ Int.tmod x3 p1 ∧ Int.tmod x3 p1 < 30) (bd (f_X12_greater x2 (s13 (a + 13) (Int.tmod x3 p1)) s13) fun r16 s17 => j67 r16 s17)))))))
noncomputable def f_X12_mostAlike_2 (a : Nat) (p1 : Int) (k20 : Mem → Res) : Nat → Int → Mem → Res
  | 0, _, _ => none
  | n + 1, x2, s0 =>
    if x2 < p1 then (gd ((0 : Int) ≤ x2 ∧ x2 < 30) (lm (mup s0 (a + 13) x2 0) fun s20 => f_X12_mostAlike_2 a p1 k20 n (wr (x2 + 1)) s20)) else (k20 s0)
noncomputable def f_X12_mostAlike (a : Nat) (x1 : Int) (s0 : Mem) : Res :=
  jn (fun (s1 : Mem) => jn (fun (v2 : Int) (s3 : Mem) => some (v2, s3)) fun j73 => f_X12_mostAlike_24 a x1 j73 FU 0 0 s1) fun j20 => f_X12_mostAlike_2 a x1 j20 FU 0 s0
set_option maxHeartbeats 4000000 in
set_option maxRecDepth 10000 in
theorem l_X12_mostAlike_24 (κ : Kp) (a : Nat) (hA : At12 κ a) (p1 : Int) (h_p1 : InR p1) (k73 : Int → Mem → Res) (hk73 : ∀ (z2 : Int) (h_z2 : InR z2) (sz : Mem) (w_sz : WF sz), EO κ M_X12_mostAlike R_X12_mostAlike 73 [none, none, some (vi z2), none] [] sz (k73 z2 sz)) : ∀ (n : Nat) (x2 : Int) (h_x2 : InR x2) (x3 : Int) (h_x3 : InR x3) (s0 : Mem) (w_s0 : WF s0), EO κ M_X12_mostAlike R_X12_mostAlike 24 [some (vr κ a), some (vi p1), some (vi x2), some (vi x3)] [] s0 (f_X12_mostAlike_24 a p1 k73 n x2 x3 s0) := by
  intro n
  induction n with
  | zero => exact fun _ _ _ _ _ _ => q_none
  | succ n ih =>
    intro x2 h_x2 x3 h_x3 s0 w_s0
    rw [f_X12_mostAlike_24]
    refine q_iload_n (x := x3) d_X12_mostAlike_24 rfl ?_
    refine q_sipush d_X12_mostAlike_25 rfl ?_
    refine q_icmp_gt d_X12_mostAlike_28 h_x3 (inr_d rfl) (fun c4 => ?_) (fun c4 => ?_)
    · refine q_sub (ls' := [none, none, some (vi x2), none]) ⟨rfl, trivial⟩ ?_
      exact hk73 x2 h_x2 s0 w_s0
    · refine q_aload_n d_X12_mostAlike_31 rfl ?_
      refine q_iload_n (x := x3) d_X12_mostAlike_32 rfl ?_
      refine q_callZ (R' := R_X12_isFitting) (runV (As := [vi x3]) (rest := []) d_X12_mostAlike_33.1 cv_12_406 rfl hA.1 rfl rfl ⟨rfl, rfl, by decide, by decide⟩ (Nat.le_of_ble_eq_true rfl) w_s0 rfl) d_X12_mostAlike_33.2 (c_X12_isFitting κ a hA x3 h_x3 s0) rfl (fun r5 s6 h_r5 w_s6 => ?_)
      refine q_jn (α := Int → Mem → Res) (fun j67 => ∀ (v7 : Int) (h_v7 : InR v7) (s8 : Mem) (w_s8 : WF s8), EO κ M_X12_mostAlike R_X12_mostAlike 67 [some (vr κ a), some (vi p1), some (vi v7), some (vi x3)] [] s8 (j67 v7 s8)) ?_ (fun j67 hj67 => ?_)
      · intro v7 h_v7 s8 w_s8
        refine q_iinc (x := x3) d_X12_mostAlike_67 rfl rfl ?_
        refine q_goto d_X12_mostAlike_70 ?_
        refine q_sub (ls' := [some (vr κ a), some (vi p1), some (vi v7), some (vi (wr (x3 + 1)))]) ⟨rfl, rfl, rfl, rfl, trivial⟩ ?_
        exact ih v7 h_v7 (wr (x3 + 1)) (inr_wr _) s8 w_s8
      refine q_if_ne d_X12_mostAlike_36 (inr_b h_r5) (fun c9 => ?_) (fun c9 => ?_)
      · refine q_goto d_X12_mostAlike_39 ?_
        refine q_sub (ls' := [some (vr κ a), some (vi p1), some (vi x2), some (vi x3)]) ⟨rfl, rfl, rfl, rfl, trivial⟩ ?_
        exact hj67 x2 h_x2 s6 w_s6
      · refine q_aload_n d_X12_mostAlike_42 rfl ?_
        refine q_getR (n := 13) d_X12_mostAlike_43 hA.1 fi_12_50 rfl (Nat.le_of_ble_eq_true rfl) ?_
        refine q_iload_n (x := x3) d_X12_mostAlike_46 rfl ?_
        refine q_iload_n (x := p1) d_X12_mostAlike_47 rfl ?_
        refine q_irem d_X12_mostAlike_48 h_x3 h_p1 (fun g10 => ?_)
        refine q_dup2 d_X12_mostAlike_49 rfl rfl ?_
        refine q_iaload (m := 30) d_X12_mostAlike_50 hA.2.2.2.2.2.2.2.2.2.2.2.2.2 (by decide) rfl (fun g11 => ?_)
        refine q_iconst d_X12_mostAlike_51 ?_
        refine q_iadd d_X12_mostAlike_52 ?_
        refine q_iastore (m := 30) d_X12_mostAlike_53 hA.2.2.2.2.2.2.2.2.2.2.2.2.2 (by decide) rfl (inr_wr _) w_s6 (fun g12 s13 w_s13 => ?_)
        refine q_iload_n (x := x2) d_X12_mostAlike_54 rfl ?_
        refine q_aload_n d_X12_mostAlike_55 rfl ?_
        refine q_getR (n := 13) d_X12_mostAlike_56 hA.1 fi_12_50 rfl (Nat.le_of_ble_eq_true rfl) ?_
        refine q_iload_n (x := x3) d_X12_mostAlike_59 rfl ?_
        refine q_iload_n (x := p1) d_X12_mostAlike_60 rfl ?_
        refine q_irem d_X12_mostAlike_61 h_x3 h_p1 (fun g14 => ?_)
        refine q_iaload (m := 30) d_X12_mostAlike_62 hA.2.2.2.2.2.2.2.2.2.2.2.2.2 (by decide) rfl (fun g15 => ?_)
        refine q_callI (R' := R_X12_greater) (runS (As := [vi x2, vi (s13 (a + 13) (Int.tmod x3 p1))]) (rest := []) d_X12_mostAlike_63.1 cv_12_57 rfl ⟨rfl, rfl, by decide, by decide⟩ (Nat.le_of_ble_eq_true rfl) w_s13 rfl) d_X12_mostAlike_63.2 (c_X12_greater κ x2 h_x2 (s13 (a + 13) (Int.tmod x3 p1)) (w_s13 _ _) s13) rfl (fun r16 s17 h_r16 w_s17 => ?_)
        refine q_istore_n d_X12_mostAlike_66 rfl ?_
        refine q_sub (ls' := [some (vr κ a), some (vi p1), some (vi r16), some (vi x3)]) ⟨rfl, rfl, rfl, rfl, trivial⟩ ?_
        exact hj67 r16 h_r16 s17 w_s17
set_option maxHeartbeats 4000000 in
set_option maxRecDepth 10000 in
theorem l_X12_mostAlike_2 (κ : Kp) (a : Nat) (hA : At12 κ a) (p1 : Int) (h_p1 : InR p1) (k20 : Mem → Res) (hk20 : ∀ (sz : Mem) (w_sz : WF sz), EO κ M_X12_mostAlike R_X12_mostAlike 20 [some (vr κ a), some (vi p1), none, none] [] sz (k20 sz)) : ∀ (n : Nat) (x2 : Int) (h_x2 : InR x2) (s0 : Mem) (w_s0 : WF s0), EO κ M_X12_mostAlike R_X12_mostAlike 2 [some (vr κ a), some (vi p1), some (vi x2), none] [] s0 (f_X12_mostAlike_2 a p1 k20 n x2 s0) := by
  intro n
  induction n with
  | zero => exact fun _ _ _ _ => q_none
  | succ n ih =>
    intro x2 h_x2 s0 w_s0
    rw [f_X12_mostAlike_2]
    refine q_iload_n (x := x2) d_X12_mostAlike_2 rfl ?_
    refine q_iload_n (x := p1) d_X12_mostAlike_3 rfl ?_
    refine q_icmp_ge d_X12_mostAlike_4 h_x2 h_p1 (fun c18 => ?_) (fun c18 => ?_)
    · refine q_aload_n d_X12_mostAlike_7 rfl ?_
      refine q_getR (n := 13) d_X12_mostAlike_8 hA.1 fi_12_50 rfl (Nat.le_of_ble_eq_true rfl) ?_
      refine q_iload_n (x := x2) d_X12_mostAlike_11 rfl ?_
      refine q_iconst d_X12_mostAlike_12 ?_
      refine q_iastore (m := 30) d_X12_mostAlike_13 hA.2.2.2.2.2.2.2.2.2.2.2.2.2 (by decide) rfl (inr_b (Or.inl rfl)) w_s0 (fun g19 s20 w_s20 => ?_)
      refine q_iinc (x := x2) d_X12_mostAlike_14 rfl rfl ?_
      refine q_goto d_X12_mostAlike_17 ?_
      refine q_sub (ls' := [some (vr κ a), some (vi p1), some (vi (wr (x2 + 1))), none]) ⟨rfl, rfl, rfl, trivial⟩ ?_
      exact ih (wr (x2 + 1)) (inr_wr _) s20 w_s20
    · refine q_sub (ls' := [some (vr κ a), some (vi p1), none, none]) ⟨rfl, rfl, trivial⟩ ?_
      exact hk20 s0 w_s0
set_option maxHeartbeats 4000000 in
set_option maxRecDepth 10000 in
theorem c_X12_mostAlike (κ : Kp) (a : Nat) (hA : At12 κ a) (x1 : Int) (h_x1 : InR x1) (s0 : Mem) : ∀ r σ', f_X12_mostAlike a x1 s0 = some (r, σ') → Ct κ M_X12_mostAlike R_X12_mostAlike [vr κ a, vi x1] s0 r σ' := by
  intro r σ' ho
  refine Ct.of (by decide) (Nat.le_of_ble_eq_true rfl) (cat_ok rfl) (fun w_s0 => ?_) ⟨rfl, rfl⟩
  refine q_ent (ls' := [some (vr κ a), some (vi x1), none, none]) (o := f_X12_mostAlike a x1 s0) ⟨rfl, rfl, trivial⟩ ?_ ho
  unfold f_X12_mostAlike
  refine q_iconst d_X12_mostAlike_0 ?_
  refine q_istore_n d_X12_mostAlike_1 rfl ?_
  refine q_jn (α := Mem → Res) (fun j20 => ∀ (s1 : Mem) (w_s1 : WF s1), EO κ M_X12_mostAlike R_X12_mostAlike 20 [some (vr κ a), some (vi x1), none, none] [] s1 (j20 s1)) ?_ (fun j20 hj20 => ?_)
  · intro s1 w_s1
    refine q_iconst d_X12_mostAlike_20 ?_
    refine q_istore_n d_X12_mostAlike_21 rfl ?_
    refine q_iconst d_X12_mostAlike_22 ?_
    refine q_istore_n d_X12_mostAlike_23 rfl ?_
    refine q_jn (α := Int → Mem → Res) (fun j73 => ∀ (v2 : Int) (h_v2 : InR v2) (s3 : Mem) (w_s3 : WF s3), EO κ M_X12_mostAlike R_X12_mostAlike 73 [none, none, some (vi v2), none] [] s3 (j73 v2 s3)) ?_ (fun j73 hj73 => ?_)
    · intro v2 h_v2 s3 w_s3
      refine q_iload_n (x := v2) d_X12_mostAlike_73 rfl ?_
      exact q_ireti d_X12_mostAlike_74 rfl h_v2 w_s3
    refine q_sub (ls' := [some (vr κ a), some (vi x1), some (vi 0), some (vi 0)]) ⟨rfl, rfl, rfl, rfl, trivial⟩ ?_
    exact l_X12_mostAlike_24 κ a hA x1 h_x1 j73 hj73 FU 0 (inr_b (Or.inl rfl)) 0 (inr_b (Or.inl rfl)) s1 w_s1
  refine q_sub (ls' := [some (vr κ a), some (vi x1), some (vi 0), none]) ⟨rfl, rfl, rfl, trivial⟩ ?_
  exact l_X12_mostAlike_2 κ a hA x1 h_x1 j20 hj20 FU 0 (inr_b (Or.inl rfl)) s0 w_s0
abbrev R_X12_bestRest : Room := { frames := 2, cells := 0, slots := 0, locals := 47 }
noncomputable def f_X12_bestRest_10 (a : Nat) (k43 : Int → Mem → Res) : Nat → Int → Int → Int → Mem → Res
  | 0, _, _, _, _ => none
  | n + 1, x1, x2, x3, s0 =>
    if 30 < x3 then (k43 x1 s0) else (bd (f_X12_mostAlike a x3 s0) fun r6 s7 => jn (fun (v8 : Int) (v9 : Int) => f_X12_bestRest_10 a k43 n v8 v9 (wr (x3 + 1)) s7) fun j37 => if r6 < x2 then (j37 x3 r6) else (j37 x1 x2))
noncomputable def f_X12_bestRest (a : Nat) (s0 : Mem) : Res :=
  bd (f_X12_mostAlike a 2 s0) fun r1 s2 => jn (fun (v3 : Int) (s4 : Mem) => some (v3, s4)) fun j43 => f_X12_bestRest_10 a j43 FU 2 r1 3 s2
set_option maxHeartbeats 4000000 in
set_option maxRecDepth 10000 in
theorem l_X12_bestRest_10 (κ : Kp) (a : Nat) (hA : At12 κ a) (k43 : Int → Mem → Res) (hk43 : ∀ (z1 : Int) (h_z1 : InR z1) (sz : Mem) (w_sz : WF sz), EO κ M_X12_bestRest R_X12_bestRest 43 [none, some (vi z1), none, none, none] [] sz (k43 z1 sz)) : ∀ (n : Nat) (x1 : Int) (h_x1 : InR x1) (x2 : Int) (h_x2 : InR x2) (x3 : Int) (h_x3 : InR x3) (s0 : Mem) (w_s0 : WF s0), EO κ M_X12_bestRest R_X12_bestRest 10 [some (vr κ a), some (vi x1), some (vi x2), some (vi x3), none] [] s0 (f_X12_bestRest_10 a k43 n x1 x2 x3 s0) := by
  intro n
  induction n with
  | zero => exact fun _ _ _ _ _ _ _ _ => q_none
  | succ n ih =>
    intro x1 h_x1 x2 h_x2 x3 h_x3 s0 w_s0
    rw [f_X12_bestRest_10]
    refine q_iload_n (x := x3) d_X12_bestRest_10 rfl ?_
    refine q_bipush d_X12_bestRest_11 rfl ?_
    refine q_icmp_gt d_X12_bestRest_13 h_x3 (inr_d rfl) (fun c5 => ?_) (fun c5 => ?_)
    · refine q_sub (ls' := [none, some (vi x1), none, none, none]) ⟨rfl, trivial⟩ ?_
      exact hk43 x1 h_x1 s0 w_s0
    · refine q_aload_n d_X12_bestRest_16 rfl ?_
      refine q_iload_n (x := x3) d_X12_bestRest_17 rfl ?_
      refine q_callI (R' := R_X12_mostAlike) (runV (As := [vi x3]) (rest := []) d_X12_bestRest_18.1 cv_12_409 rfl hA.1 rfl rfl ⟨rfl, rfl, by decide, by decide⟩ (Nat.le_of_ble_eq_true rfl) w_s0 rfl) d_X12_bestRest_18.2 (c_X12_mostAlike κ a hA x3 h_x3 s0) rfl (fun r6 s7 h_r6 w_s7 => ?_)
      refine q_istore d_X12_bestRest_21 rfl ?_
      refine q_iload (x := r6) d_X12_bestRest_23 rfl ?_
      refine q_iload_n (x := x2) d_X12_bestRest_25 rfl ?_
      refine q_jn (α := Int → Int → Res) (fun j37 => ∀ (v8 : Int) (h_v8 : InR v8) (v9 : Int) (h_v9 : InR v9), EO κ M_X12_bestRest R_X12_bestRest 37 [some (vr κ a), some (vi v8), some (vi v9), some (vi x3), none] [] s7 (j37 v8 v9)) ?_ (fun j37 hj37 => ?_)
      · intro v8 h_v8 v9 h_v9
        refine q_iinc (x := x3) d_X12_bestRest_37 rfl rfl ?_
        refine q_goto d_X12_bestRest_40 ?_
        refine q_sub (ls' := [some (vr κ a), some (vi v8), some (vi v9), some (vi (wr (x3 + 1))), none]) ⟨rfl, rfl, rfl, rfl, trivial⟩ ?_
        exact ih v8 h_v8 v9 h_v9 (wr (x3 + 1)) (inr_wr _) s7 w_s7
      refine q_icmp_lt d_X12_bestRest_26 h_r6 h_x2 (fun c10 => ?_) (fun c10 => ?_)
      · refine q_iload (x := r6) d_X12_bestRest_32 rfl ?_
        refine q_istore_n d_X12_bestRest_34 rfl ?_
        refine q_iload_n (x := x3) d_X12_bestRest_35 rfl ?_
        refine q_istore_n d_X12_bestRest_36 rfl ?_
        refine q_sub (ls' := [some (vr κ a), some (vi x3), some (vi r6), some (vi x3), none]) ⟨rfl, rfl, rfl, rfl, trivial⟩ ?_
        exact hj37 x3 h_x3 r6 h_r6
      · refine q_goto d_X12_bestRest_29 ?_
        refine q_sub (ls' := [some (vr κ a), some (vi x1), some (vi x2), some (vi x3), none]) ⟨rfl, rfl, rfl, rfl, trivial⟩ ?_
        exact hj37 x1 h_x1 x2 h_x2
set_option maxHeartbeats 4000000 in
set_option maxRecDepth 10000 in
theorem c_X12_bestRest (κ : Kp) (a : Nat) (hA : At12 κ a) (s0 : Mem) : ∀ r σ', f_X12_bestRest a s0 = some (r, σ') → Ct κ M_X12_bestRest R_X12_bestRest [vr κ a] s0 r σ' := by
  intro r σ' ho
  refine Ct.of (by decide) (Nat.le_of_ble_eq_true rfl) (cat_ok rfl) (fun w_s0 => ?_) ⟨rfl, rfl⟩
  refine q_ent (ls' := [some (vr κ a), none, none, none, none]) (o := f_X12_bestRest a s0) ⟨rfl, trivial⟩ ?_ ho
  unfold f_X12_bestRest
  refine q_iconst d_X12_bestRest_0 ?_
  refine q_istore_n d_X12_bestRest_1 rfl ?_
  refine q_aload_n d_X12_bestRest_2 rfl ?_
  refine q_iconst d_X12_bestRest_3 ?_
  refine q_callI (R' := R_X12_mostAlike) (runV (As := [vi 2]) (rest := []) d_X12_bestRest_4.1 cv_12_409 rfl hA.1 rfl rfl ⟨rfl, rfl, by decide, by decide⟩ (Nat.le_of_ble_eq_true rfl) w_s0 rfl) d_X12_bestRest_4.2 (c_X12_mostAlike κ a hA 2 (inr_d rfl) s0) rfl (fun r1 s2 h_r1 w_s2 => ?_)
  refine q_istore_n d_X12_bestRest_7 rfl ?_
  refine q_iconst d_X12_bestRest_8 ?_
  refine q_istore_n d_X12_bestRest_9 rfl ?_
  refine q_jn (α := Int → Mem → Res) (fun j43 => ∀ (v3 : Int) (h_v3 : InR v3) (s4 : Mem) (w_s4 : WF s4), EO κ M_X12_bestRest R_X12_bestRest 43 [none, some (vi v3), none, none, none] [] s4 (j43 v3 s4)) ?_ (fun j43 hj43 => ?_)
  · intro v3 h_v3 s4 w_s4
    refine q_iload_n (x := v3) d_X12_bestRest_43 rfl ?_
    exact q_ireti d_X12_bestRest_44 rfl h_v3 w_s4
  refine q_sub (ls' := [some (vr κ a), some (vi 2), some (vi r1), some (vi 3), none]) ⟨rfl, rfl, rfl, rfl, trivial⟩ ?_
  exact l_X12_bestRest_10 κ a hA j43 hj43 FU 2 (inr_d rfl) r1 h_r1 3 (inr_d rfl) s2 w_s2
abbrev R_X12_fits : Room := { frames := 3, cells := 0, slots := 0, locals := 71 }
noncomputable def f_X12_fits_21 (a : Nat) (k66 : Int → Int → Int → Mem → Res) : Nat → Int → Int → Int → Int → Mem → Res
  | 0, _, _, _, _, _ => none
  | n + 1, x2, x3, x4, x5, s0 =>
    if 999 < x5 then (k66 x2 x3 x4 s0) else (bd (f_X12_isFitting a x5 s0) fun r15 s16 => jn (fun (v17 : Int) (v18 : Int) (v19 : Int) => f_X12_fits_21 a k66 n v17 v18 v19 (wr (x5 + 1)) s16) fun j60 => if r15 = 0 then (j60 x2 x3 x4) else (jn (fun (y21 : Int) => j60 (wr (x2 + 1)) y21 x5) fun j55 => if x3 = (-1) then (j55 x5) else (j55 x3)))
noncomputable def f_X12_fits (a : Nat) (x1 : Int) (s0 : Mem) : Res :=
  bd (f_X12_isIn x1 0 3 s0) fun r1 s2 => if r1 = 0 then (some ((-1), s2)) else (jn (fun (v4 : Int) (v5 : Int) (v6 : Int) (s7 : Mem) => if x1 = 3 then (if v4 < 2 then (some ((-1), s7)) else (bd (f_X12_bestRest a s7) fun r10 s11 => some (r10, s11))) else (if x1 = 0 then (some (v4, s7)) else (if x1 = 1 then (some (v5, s7)) else (some (v6, s7))))) fun j66 => f_X12_fits_21 a j66 FU 0 (-1) (-1) 0 s2)
set_option maxHeartbeats 4000000 in
set_option maxRecDepth 10000 in
theorem l_X12_fits_21 (κ : Kp) (a : Nat) (hA : At12 κ a) (p1 : Int) (h_p1 : InR p1) (k66 : Int → Int → Int → Mem → Res) (hk66 : ∀ (z2 : Int) (h_z2 : InR z2) (z3 : Int) (h_z3 : InR z3) (z4 : Int) (h_z4 : InR z4) (sz : Mem) (w_sz : WF sz), EO κ M_X12_fits R_X12_fits 66 [some (vr κ a), some (vi p1), some (vi z2), some (vi z3), some (vi z4), none] [] sz (k66 z2 z3 z4 sz)) : ∀ (n : Nat) (x2 : Int) (h_x2 : InR x2) (x3 : Int) (h_x3 : InR x3) (x4 : Int) (h_x4 : InR x4) (x5 : Int) (h_x5 : InR x5) (s0 : Mem) (w_s0 : WF s0), EO κ M_X12_fits R_X12_fits 21 [some (vr κ a), some (vi p1), some (vi x2), some (vi x3), some (vi x4), some (vi x5)] [] s0 (f_X12_fits_21 a k66 n x2 x3 x4 x5 s0) := by
  intro n
  induction n with
  | zero => exact fun _ _ _ _ _ _ _ _ _ _ => q_none
  | succ n ih =>
    intro x2 h_x2 x3 h_x3 x4 h_x4 x5 h_x5 s0 w_s0
    rw [f_X12_fits_21]
    refine q_iload (x := x5) d_X12_fits_21 rfl ?_
    refine q_sipush d_X12_fits_23 rfl ?_
    refine q_icmp_gt d_X12_fits_26 h_x5 (inr_d rfl) (fun c14 => ?_) (fun c14 => ?_)
    · refine q_sub (ls' := [some (vr κ a), some (vi p1), some (vi x2), some (vi x3), some (vi x4), none]) ⟨rfl, rfl, rfl, rfl, rfl, trivial⟩ ?_
      exact hk66 x2 h_x2 x3 h_x3 x4 h_x4 s0 w_s0
    · refine q_aload_n d_X12_fits_29 rfl ?_
      refine q_iload (x := x5) d_X12_fits_30 rfl ?_
      refine q_callZ (R' := R_X12_isFitting) (runV (As := [vi x5]) (rest := []) d_X12_fits_32.1 cv_12_406 rfl hA.1 rfl rfl ⟨rfl, rfl, by decide, by decide⟩ (Nat.le_of_ble_eq_true rfl) w_s0 rfl) d_X12_fits_32.2 (c_X12_isFitting κ a hA x5 h_x5 s0) rfl (fun r15 s16 h_r15 w_s16 => ?_)
      refine q_jn (α := Int → Int → Int → Res) (fun j60 => ∀ (v17 : Int) (h_v17 : InR v17) (v18 : Int) (h_v18 : InR v18) (v19 : Int) (h_v19 : InR v19), EO κ M_X12_fits R_X12_fits 60 [some (vr κ a), some (vi p1), some (vi v17), some (vi v18), some (vi v19), some (vi x5)] [] s16 (j60 v17 v18 v19)) ?_ (fun j60 hj60 => ?_)
      · intro v17 h_v17 v18 h_v18 v19 h_v19
        refine q_iinc (x := x5) d_X12_fits_60 rfl rfl ?_
        refine q_goto d_X12_fits_63 ?_
        refine q_sub (ls' := [some (vr κ a), some (vi p1), some (vi v17), some (vi v18), some (vi v19), some (vi (wr (x5 + 1)))]) ⟨rfl, rfl, rfl, rfl, rfl, rfl, trivial⟩ ?_
        exact ih v17 h_v17 v18 h_v18 v19 h_v19 (wr (x5 + 1)) (inr_wr _) s16 w_s16
      refine q_if_ne d_X12_fits_35 (inr_b h_r15) (fun c20 => ?_) (fun c20 => ?_)
      · refine q_goto d_X12_fits_38 ?_
        refine q_sub (ls' := [some (vr κ a), some (vi p1), some (vi x2), some (vi x3), some (vi x4), some (vi x5)]) ⟨rfl, rfl, rfl, rfl, rfl, rfl, trivial⟩ ?_
        exact hj60 x2 h_x2 x3 h_x3 x4 h_x4
      · refine q_iinc (x := x2) d_X12_fits_41 rfl rfl ?_
        refine q_iload_n (x := x3) d_X12_fits_44 rfl ?_
        refine q_iconst d_X12_fits_45 ?_
        refine q_jn (α := Int → Res) (fun j55 => ∀ (y21 : Int) (h_y21 : InR y21), EO κ M_X12_fits R_X12_fits 55 [some (vr κ a), some (vi p1), some (vi (wr (x2 + 1))), none, none, some (vi x5)] [vi y21] s16 (j55 y21)) ?_ (fun j55 hj55 => ?_)
        · intro y21 h_y21
          refine q_istore_n d_X12_fits_55 rfl ?_
          refine q_iload (x := x5) d_X12_fits_56 rfl ?_
          refine q_istore d_X12_fits_58 rfl ?_
          refine q_sub (ls' := [some (vr κ a), some (vi p1), some (vi (wr (x2 + 1))), some (vi y21), some (vi x5), some (vi x5)]) ⟨rfl, rfl, rfl, rfl, rfl, rfl, trivial⟩ ?_
          exact hj60 (wr (x2 + 1)) (inr_wr _) y21 h_y21 x5 h_x5
        refine q_icmp_ne d_X12_fits_46 h_x3 (inr_d rfl) (fun c22 => ?_) (fun c22 => ?_)
        · refine q_iload (x := x5) d_X12_fits_49 rfl ?_
          refine q_goto d_X12_fits_51 ?_
          refine q_sub (ls' := [some (vr κ a), some (vi p1), some (vi (wr (x2 + 1))), none, none, some (vi x5)]) ⟨rfl, rfl, rfl, rfl, trivial⟩ ?_
          exact hj55 x5 h_x5
        · refine q_iload_n (x := x3) d_X12_fits_54 rfl ?_
          refine q_sub (ls' := [some (vr κ a), some (vi p1), some (vi (wr (x2 + 1))), none, none, some (vi x5)]) ⟨rfl, rfl, rfl, rfl, trivial⟩ ?_
          exact hj55 x3 h_x3
set_option maxHeartbeats 4000000 in
set_option maxRecDepth 10000 in
theorem c_X12_fits (κ : Kp) (a : Nat) (hA : At12 κ a) (x1 : Int) (h_x1 : InR x1) (s0 : Mem) : ∀ r σ', f_X12_fits a x1 s0 = some (r, σ') → Ct κ M_X12_fits R_X12_fits [vr κ a, vi x1] s0 r σ' := by
  intro r σ' ho
  refine Ct.of (by decide) (Nat.le_of_ble_eq_true rfl) (cat_ok rfl) (fun w_s0 => ?_) ⟨rfl, rfl⟩
  refine q_ent (ls' := [some (vr κ a), some (vi x1), none, none, none, none]) (o := f_X12_fits a x1 s0) ⟨rfl, rfl, trivial⟩ ?_ ho
  unfold f_X12_fits
  refine q_iload_n (x := x1) d_X12_fits_0 rfl ?_
  refine q_iconst d_X12_fits_1 ?_
  refine q_iconst d_X12_fits_2 ?_
  refine q_callZ (R' := R_X12_isIn) (runS (As := [vi x1, vi 0, vi 3]) (rest := []) d_X12_fits_3.1 cv_12_60 rfl ⟨rfl, rfl, by decide, by decide⟩ (Nat.le_of_ble_eq_true rfl) w_s0 rfl) d_X12_fits_3.2 (c_X12_isIn κ x1 h_x1 0 (inr_b (Or.inl rfl)) 3 (inr_d rfl) s0) rfl (fun r1 s2 h_r1 w_s2 => ?_)
  refine q_if_ne d_X12_fits_6 (inr_b h_r1) (fun c3 => ?_) (fun c3 => ?_)
  · refine q_iconst d_X12_fits_9 ?_
    exact q_ireti d_X12_fits_10 rfl (inr_d rfl) w_s2
  · refine q_iconst d_X12_fits_11 ?_
    refine q_istore_n d_X12_fits_12 rfl ?_
    refine q_iconst d_X12_fits_13 ?_
    refine q_istore_n d_X12_fits_14 rfl ?_
    refine q_iconst d_X12_fits_15 ?_
    refine q_istore d_X12_fits_16 rfl ?_
    refine q_iconst d_X12_fits_18 ?_
    refine q_istore d_X12_fits_19 rfl ?_
    refine q_jn (α := Int → Int → Int → Mem → Res) (fun j66 => ∀ (v4 : Int) (h_v4 : InR v4) (v5 : Int) (h_v5 : InR v5) (v6 : Int) (h_v6 : InR v6) (s7 : Mem) (w_s7 : WF s7), EO κ M_X12_fits R_X12_fits 66 [some (vr κ a), some (vi x1), some (vi v4), some (vi v5), some (vi v6), none] [] s7 (j66 v4 v5 v6 s7)) ?_ (fun j66 hj66 => ?_)
    · intro v4 h_v4 v5 h_v5 v6 h_v6 s7 w_s7
      refine q_iload_n (x := x1) d_X12_fits_66 rfl ?_
      refine q_iconst d_X12_fits_67 ?_
      refine q_icmp_ne d_X12_fits_68 h_x1 (inr_d rfl) (fun c8 => ?_) (fun c8 => ?_)
      · refine q_iload_n (x := v4) d_X12_fits_71 rfl ?_
        refine q_iconst d_X12_fits_72 ?_
        refine q_icmp_ge d_X12_fits_73 h_v4 (inr_d rfl) (fun c9 => ?_) (fun c9 => ?_)
        · refine q_iconst d_X12_fits_76 ?_
          refine q_goto d_X12_fits_77 ?_
          exact q_ireti d_X12_fits_84 rfl (inr_d rfl) w_s7
        · refine q_aload_n d_X12_fits_80 rfl ?_
          refine q_callI (R' := R_X12_bestRest) (runV (As := []) (rest := []) d_X12_fits_81.1 cv_12_412 rfl hA.1 rfl rfl ⟨rfl, rfl, by decide, by decide⟩ (Nat.le_of_ble_eq_true rfl) w_s7 rfl) d_X12_fits_81.2 (c_X12_bestRest κ a hA s7) rfl (fun r10 s11 h_r10 w_s11 => ?_)
          exact q_ireti d_X12_fits_84 rfl h_r10 w_s11
      · refine q_iload_n (x := x1) d_X12_fits_85 rfl ?_
        refine q_if_ne d_X12_fits_86 h_x1 (fun c12 => ?_) (fun c12 => ?_)
        · refine q_iload_n (x := v4) d_X12_fits_89 rfl ?_
          refine q_goto d_X12_fits_90 ?_
          exact q_ireti d_X12_fits_104 rfl h_v4 w_s7
        · refine q_iload_n (x := x1) d_X12_fits_93 rfl ?_
          refine q_iconst d_X12_fits_94 ?_
          refine q_icmp_ne d_X12_fits_95 h_x1 (inr_b (Or.inr rfl)) (fun c13 => ?_) (fun c13 => ?_)
          · refine q_iload_n (x := v5) d_X12_fits_98 rfl ?_
            refine q_goto d_X12_fits_99 ?_
            exact q_ireti d_X12_fits_104 rfl h_v5 w_s7
          · refine q_iload (x := v6) d_X12_fits_102 rfl ?_
            exact q_ireti d_X12_fits_104 rfl h_v6 w_s7
    refine q_sub (ls' := [some (vr κ a), some (vi x1), some (vi 0), some (vi (-1)), some (vi (-1)), some (vi 0)]) ⟨rfl, rfl, rfl, rfl, rfl, rfl, trivial⟩ ?_
    exact l_X12_fits_21 κ a hA x1 h_x1 j66 hj66 FU 0 (inr_b (Or.inl rfl)) (-1) (inr_d rfl) (-1) (inr_d rfl) 0 (inr_b (Or.inl rfl)) s2 w_s2
abbrev R_X12_bank : Room := { frames := 1, cells := 0, slots := 0, locals := 22 }
noncomputable def f_X12_bank (a : Nat) (x1 : Int) (x2 : Int) (s0 : Mem) : Res :=
  bd (f_X12_isIn x1 0 3 s0) fun r1 s2 => if r1 = 0 then (some (0, s2)) else (bd (f_X12_isIn x2 0 99 s2) fun r4 s5 => if r4 = 0 then (some (0, s5)) else (gd ((0 : Int) ≤ wr (238 + x1) ∧ wr (238 + x1) < 1732) (lm (mup s5 (a + 1) (wr (238 + x1)) x2) fun s8 => some (1, s8))))
set_option maxHeartbeats 4000000 in
set_option maxRecDepth 10000 in
theorem c_X12_bank (κ : Kp) (a : Nat) (hA : At12 κ a) (x1 : Int) (h_x1 : InR x1) (x2 : Int) (h_x2 : InR x2) (s0 : Mem) : ∀ r σ', f_X12_bank a x1 x2 s0 = some (r, σ') → Ct κ M_X12_bank R_X12_bank [vr κ a, vi x1, vi x2] s0 r σ' := by
  intro r σ' ho
  refine Ct.of (by decide) (Nat.le_of_ble_eq_true rfl) (cat_ok rfl) (fun w_s0 => ?_) ⟨rfl, rfl⟩
  refine q_ent (ls' := [some (vr κ a), some (vi x1), some (vi x2)]) (o := f_X12_bank a x1 x2 s0) ⟨rfl, rfl, rfl, trivial⟩ ?_ ho
  unfold f_X12_bank
  refine q_iload_n (x := x1) d_X12_bank_0 rfl ?_
  refine q_iconst d_X12_bank_1 ?_
  refine q_iconst d_X12_bank_2 ?_
  refine q_callZ (R' := R_X12_isIn) (runS (As := [vi x1, vi 0, vi 3]) (rest := []) d_X12_bank_3.1 cv_12_60 rfl ⟨rfl, rfl, by decide, by decide⟩ (Nat.le_of_ble_eq_true rfl) w_s0 rfl) d_X12_bank_3.2 (c_X12_isIn κ x1 h_x1 0 (inr_b (Or.inl rfl)) 3 (inr_d rfl) s0) rfl (fun r1 s2 h_r1 w_s2 => ?_)
  refine q_if_eq d_X12_bank_6 (inr_b h_r1) (fun c3 => ?_) (fun c3 => ?_)
  · refine q_iconst d_X12_bank_19 ?_
    exact q_iretz d_X12_bank_20 rfl (Or.inl rfl) w_s2
  · refine q_iload_n (x := x2) d_X12_bank_9 rfl ?_
    refine q_iconst d_X12_bank_10 ?_
    refine q_bipush d_X12_bank_11 rfl ?_
    refine q_callZ (R' := R_X12_isIn) (runS (As := [vi x2, vi 0, vi 99]) (rest := []) d_X12_bank_13.1 cv_12_60 rfl ⟨rfl, rfl, by decide, by decide⟩ (Nat.le_of_ble_eq_true rfl) w_s2 rfl) d_X12_bank_13.2 (c_X12_isIn κ x2 h_x2 0 (inr_b (Or.inl rfl)) 99 (inr_d rfl) s2) rfl (fun r4 s5 h_r4 w_s5 => ?_)
    refine q_if_ne d_X12_bank_16 (inr_b h_r4) (fun c6 => ?_) (fun c6 => ?_)
    · refine q_iconst d_X12_bank_19 ?_
      exact q_iretz d_X12_bank_20 rfl (Or.inl rfl) w_s5
    · refine q_aload_n d_X12_bank_21 rfl ?_
      refine q_getR (n := 1) d_X12_bank_22 hA.1 fi_12_7 rfl (Nat.le_of_ble_eq_true rfl) ?_
      refine q_sipush d_X12_bank_25 rfl ?_
      refine q_iload_n (x := x1) d_X12_bank_28 rfl ?_
      refine q_iadd d_X12_bank_29 ?_
      refine q_iload_n (x := x2) d_X12_bank_30 rfl ?_
      refine q_iastore (m := 1732) d_X12_bank_31 hA.2.1 (by decide) rfl h_x2 w_s5 (fun g7 s8 w_s8 => ?_)
      refine q_iconst d_X12_bank_32 ?_
      exact q_iretz d_X12_bank_33 rfl (Or.inr rfl) w_s8
abbrev R_X12_costsBy : Room := { frames := 1, cells := 0, slots := 0, locals := 21 }
noncomputable def f_X12_costsBy (a : Nat) (x1 : Int) (s0 : Mem) : Res :=
  gd ((0 : Int) ≤ 240 ∧ (240 : Int) < 1732) (gd ((0 : Int) ≤ 238 ∧ (238 : Int) < 1732) (gd ((0 : Int) ≤ 241 ∧ (241 : Int) < 1732) (gd ((0 : Int) ≤ 239 ∧ (239 : Int) < 1732) (bd (f_X12_greater (wr ((wr (x1 * (s0 (a + 1) 240))) + (wr ((wr (1000 - x1)) * (s0 (a + 1) 238))))) (wr ((wr (x1 * (s0 (a + 1) 241))) + (wr ((wr (1000 - x1)) * (s0 (a + 1) 239))))) s0) fun r5 s6 => some (r5, s6)))))
set_option maxHeartbeats 4000000 in
set_option maxRecDepth 10000 in
theorem c_X12_costsBy (κ : Kp) (a : Nat) (hA : At12 κ a) (x1 : Int) (h_x1 : InR x1) (s0 : Mem) : ∀ r σ', f_X12_costsBy a x1 s0 = some (r, σ') → Ct κ M_X12_costsBy R_X12_costsBy [vr κ a, vi x1] s0 r σ' := by
  intro r σ' ho
  refine Ct.of (by decide) (Nat.le_of_ble_eq_true rfl) (cat_ok rfl) (fun w_s0 => ?_) ⟨rfl, rfl⟩
  refine q_ent (ls' := [some (vr κ a), some (vi x1)]) (o := f_X12_costsBy a x1 s0) ⟨rfl, rfl, trivial⟩ ?_ ho
  unfold f_X12_costsBy
  refine q_iload_n (x := x1) d_X12_costsBy_0 rfl ?_
  refine q_aload_n d_X12_costsBy_1 rfl ?_
  refine q_getR (n := 1) d_X12_costsBy_2 hA.1 fi_12_7 rfl (Nat.le_of_ble_eq_true rfl) ?_
  refine q_sipush d_X12_costsBy_5 rfl ?_
  refine q_iaload (m := 1732) d_X12_costsBy_8 hA.2.1 (by decide) rfl (fun g1 => ?_)
  refine q_imul d_X12_costsBy_9 ?_
  refine q_sipush d_X12_costsBy_10 rfl ?_
  refine q_iload_n (x := x1) d_X12_costsBy_13 rfl ?_
  refine q_isub d_X12_costsBy_14 ?_
  refine q_aload_n d_X12_costsBy_15 rfl ?_
  refine q_getR (n := 1) d_X12_costsBy_16 hA.1 fi_12_7 rfl (Nat.le_of_ble_eq_true rfl) ?_
  refine q_sipush d_X12_costsBy_19 rfl ?_
  refine q_iaload (m := 1732) d_X12_costsBy_22 hA.2.1 (by decide) rfl (fun g2 => ?_)
  refine q_imul d_X12_costsBy_23 ?_
  refine q_iadd d_X12_costsBy_24 ?_
  refine q_iload_n (x := x1) d_X12_costsBy_25 rfl ?_
  refine q_aload_n d_X12_costsBy_26 rfl ?_
  refine q_getR (n := 1) d_X12_costsBy_27 hA.1 fi_12_7 rfl (Nat.le_of_ble_eq_true rfl) ?_
  refine q_sipush d_X12_costsBy_30 rfl ?_
  refine q_iaload (m := 1732) d_X12_costsBy_33 hA.2.1 (by decide) rfl (fun g3 => ?_)
  refine q_imul d_X12_costsBy_34 ?_
  refine q_sipush d_X12_costsBy_35 rfl ?_
  refine q_iload_n (x := x1) d_X12_costsBy_38 rfl ?_
  refine q_isub d_X12_costsBy_39 ?_
  refine q_aload_n d_X12_costsBy_40 rfl ?_
  refine q_getR (n := 1) d_X12_costsBy_41 hA.1 fi_12_7 rfl (Nat.le_of_ble_eq_true rfl) ?_
  refine q_sipush d_X12_costsBy_44 rfl ?_
  refine q_iaload (m := 1732) d_X12_costsBy_47 hA.2.1 (by decide) rfl (fun g4 => ?_)
  refine q_imul d_X12_costsBy_48 ?_
  refine q_iadd d_X12_costsBy_49 ?_
  refine q_callI (R' := R_X12_greater) (runS (As := [vi (wr ((wr (x1 * (s0 (a + 1) 240))) + (wr ((wr (1000 - x1)) * (s0 (a + 1) 238))))), vi (wr ((wr (x1 * (s0 (a + 1) 241))) + (wr ((wr (1000 - x1)) * (s0 (a + 1) 239)))))]) (rest := []) d_X12_costsBy_50.1 cv_12_57 rfl ⟨rfl, rfl, by decide, by decide⟩ (Nat.le_of_ble_eq_true rfl) w_s0 rfl) d_X12_costsBy_50.2 (c_X12_greater κ (wr ((wr (x1 * (s0 (a + 1) 240))) + (wr ((wr (1000 - x1)) * (s0 (a + 1) 238))))) (inr_wr _) (wr ((wr (x1 * (s0 (a + 1) 241))) + (wr ((wr (1000 - x1)) * (s0 (a + 1) 239))))) (inr_wr _) s0) rfl (fun r5 s6 h_r5 w_s6 => ?_)
  exact q_ireti d_X12_costsBy_53 rfl h_r5 w_s6
abbrev R_X12_rests : Room := { frames := 2, cells := 0, slots := 0, locals := 42 }
noncomputable def f_X12_rests_15 (a : Nat) (k43 : Int → Mem → Res) : Nat → Int → Int → Mem → Res
  | 0, _, _, _ => none
  | n + 1, x2, x3, s0 =>
    if 1000 < x3 then (k43 x2 s0) else (bd (f_X12_costsBy a x3 s0) fun r10 s11 => bd (f_X12_costsBy a x2 s11) fun r12 s13 => jn (fun (v14 : Int) => f_X12_rests_15 a k43 n v14 (wr (x3 + 1)) s13) fun j37 => if r10 < r12 then (j37 x3) else (j37 x2))
noncomputable def f_X12_rests (a : Nat) (x1 : Int) (s0 : Mem) : Res :=
  bd (f_X12_isIn x1 0 1 s0) fun r1 s2 => if r1 = 0 then (some ((-1), s2)) else (jn (fun (v4 : Int) (s5 : Mem) => if x1 = 0 then (some (v4, s5)) else (bd (f_X12_costsBy a v4 s5) fun r7 s8 => some (r7, s8))) fun j43 => f_X12_rests_15 a j43 FU 0 1 s2)
set_option maxHeartbeats 4000000 in
set_option maxRecDepth 10000 in
theorem l_X12_rests_15 (κ : Kp) (a : Nat) (hA : At12 κ a) (p1 : Int) (h_p1 : InR p1) (k43 : Int → Mem → Res) (hk43 : ∀ (z2 : Int) (h_z2 : InR z2) (sz : Mem) (w_sz : WF sz), EO κ M_X12_rests R_X12_rests 43 [some (vr κ a), some (vi p1), some (vi z2), none] [] sz (k43 z2 sz)) : ∀ (n : Nat) (x2 : Int) (h_x2 : InR x2) (x3 : Int) (h_x3 : InR x3) (s0 : Mem) (w_s0 : WF s0), EO κ M_X12_rests R_X12_rests 15 [some (vr κ a), some (vi p1), some (vi x2), some (vi x3)] [] s0 (f_X12_rests_15 a k43 n x2 x3 s0) := by
  intro n
  induction n with
  | zero => exact fun _ _ _ _ _ _ => q_none
  | succ n ih =>
    intro x2 h_x2 x3 h_x3 s0 w_s0
    rw [f_X12_rests_15]
    refine q_iload_n (x := x3) d_X12_rests_15 rfl ?_
    refine q_sipush d_X12_rests_16 rfl ?_
    refine q_icmp_gt d_X12_rests_19 h_x3 (inr_d rfl) (fun c9 => ?_) (fun c9 => ?_)
    · refine q_sub (ls' := [some (vr κ a), some (vi p1), some (vi x2), none]) ⟨rfl, rfl, rfl, trivial⟩ ?_
      exact hk43 x2 h_x2 s0 w_s0
    · refine q_aload_n d_X12_rests_22 rfl ?_
      refine q_iload_n (x := x3) d_X12_rests_23 rfl ?_
      refine q_callI (R' := R_X12_costsBy) (runV (As := [vi x3]) (rest := []) d_X12_rests_24.1 cv_12_415 rfl hA.1 rfl rfl ⟨rfl, rfl, by decide, by decide⟩ (Nat.le_of_ble_eq_true rfl) w_s0 rfl) d_X12_rests_24.2 (c_X12_costsBy κ a hA x3 h_x3 s0) rfl (fun r10 s11 h_r10 w_s11 => ?_)
      refine q_aload_n d_X12_rests_27 rfl ?_
      refine q_iload_n (x := x2) d_X12_rests_28 rfl ?_
      refine q_callI (R' := R_X12_costsBy) (runV (As := [vi x2]) (rest := [vi r10]) d_X12_rests_29.1 cv_12_415 rfl hA.1 rfl rfl ⟨rfl, rfl, by decide, by decide⟩ (Nat.le_of_ble_eq_true rfl) w_s11 rfl) d_X12_rests_29.2 (c_X12_costsBy κ a hA x2 h_x2 s11) rfl (fun r12 s13 h_r12 w_s13 => ?_)
      refine q_jn (α := Int → Res) (fun j37 => ∀ (v14 : Int) (h_v14 : InR v14), EO κ M_X12_rests R_X12_rests 37 [some (vr κ a), some (vi p1), some (vi v14), some (vi x3)] [] s13 (j37 v14)) ?_ (fun j37 hj37 => ?_)
      · intro v14 h_v14
        refine q_iinc (x := x3) d_X12_rests_37 rfl rfl ?_
        refine q_goto d_X12_rests_40 ?_
        refine q_sub (ls' := [some (vr κ a), some (vi p1), some (vi v14), some (vi (wr (x3 + 1)))]) ⟨rfl, rfl, rfl, rfl, trivial⟩ ?_
        exact ih v14 h_v14 (wr (x3 + 1)) (inr_wr _) s13 w_s13
      refine q_icmp_ge d_X12_rests_32 h_r10 h_r12 (fun c15 => ?_) (fun c15 => ?_)
      · refine q_iload_n (x := x3) d_X12_rests_35 rfl ?_
        refine q_istore_n d_X12_rests_36 rfl ?_
        refine q_sub (ls' := [some (vr κ a), some (vi p1), some (vi x3), some (vi x3)]) ⟨rfl, rfl, rfl, rfl, trivial⟩ ?_
        exact hj37 x3 h_x3
      · refine q_sub (ls' := [some (vr κ a), some (vi p1), some (vi x2), some (vi x3)]) ⟨rfl, rfl, rfl, rfl, trivial⟩ ?_
        exact hj37 x2 h_x2
set_option maxHeartbeats 4000000 in
set_option maxRecDepth 10000 in
theorem c_X12_rests (κ : Kp) (a : Nat) (hA : At12 κ a) (x1 : Int) (h_x1 : InR x1) (s0 : Mem) : ∀ r σ', f_X12_rests a x1 s0 = some (r, σ') → Ct κ M_X12_rests R_X12_rests [vr κ a, vi x1] s0 r σ' := by
  intro r σ' ho
  refine Ct.of (by decide) (Nat.le_of_ble_eq_true rfl) (cat_ok rfl) (fun w_s0 => ?_) ⟨rfl, rfl⟩
  refine q_ent (ls' := [some (vr κ a), some (vi x1), none, none]) (o := f_X12_rests a x1 s0) ⟨rfl, rfl, trivial⟩ ?_ ho
  unfold f_X12_rests
  refine q_iload_n (x := x1) d_X12_rests_0 rfl ?_
  refine q_iconst d_X12_rests_1 ?_
  refine q_iconst d_X12_rests_2 ?_
  refine q_callZ (R' := R_X12_isIn) (runS (As := [vi x1, vi 0, vi 1]) (rest := []) d_X12_rests_3.1 cv_12_60 rfl ⟨rfl, rfl, by decide, by decide⟩ (Nat.le_of_ble_eq_true rfl) w_s0 rfl) d_X12_rests_3.2 (c_X12_isIn κ x1 h_x1 0 (inr_b (Or.inl rfl)) 1 (inr_b (Or.inr rfl)) s0) rfl (fun r1 s2 h_r1 w_s2 => ?_)
  refine q_if_ne d_X12_rests_6 (inr_b h_r1) (fun c3 => ?_) (fun c3 => ?_)
  · refine q_iconst d_X12_rests_9 ?_
    exact q_ireti d_X12_rests_10 rfl (inr_d rfl) w_s2
  · refine q_iconst d_X12_rests_11 ?_
    refine q_istore_n d_X12_rests_12 rfl ?_
    refine q_iconst d_X12_rests_13 ?_
    refine q_istore_n d_X12_rests_14 rfl ?_
    refine q_jn (α := Int → Mem → Res) (fun j43 => ∀ (v4 : Int) (h_v4 : InR v4) (s5 : Mem) (w_s5 : WF s5), EO κ M_X12_rests R_X12_rests 43 [some (vr κ a), some (vi x1), some (vi v4), none] [] s5 (j43 v4 s5)) ?_ (fun j43 hj43 => ?_)
    · intro v4 h_v4 s5 w_s5
      refine q_iload_n (x := x1) d_X12_rests_43 rfl ?_
      refine q_if_ne d_X12_rests_44 h_x1 (fun c6 => ?_) (fun c6 => ?_)
      · refine q_iload_n (x := v4) d_X12_rests_47 rfl ?_
        refine q_goto d_X12_rests_48 ?_
        exact q_ireti d_X12_rests_56 rfl h_v4 w_s5
      · refine q_aload_n d_X12_rests_51 rfl ?_
        refine q_iload_n (x := v4) d_X12_rests_52 rfl ?_
        refine q_callI (R' := R_X12_costsBy) (runV (As := [vi v4]) (rest := []) d_X12_rests_53.1 cv_12_415 rfl hA.1 rfl rfl ⟨rfl, rfl, by decide, by decide⟩ (Nat.le_of_ble_eq_true rfl) w_s5 rfl) d_X12_rests_53.2 (c_X12_costsBy κ a hA v4 h_v4 s5) rfl (fun r7 s8 h_r7 w_s8 => ?_)
        exact q_ireti d_X12_rests_56 rfl h_r7 w_s8
    refine q_sub (ls' := [some (vr κ a), some (vi x1), some (vi 0), some (vi 1)]) ⟨rfl, rfl, rfl, rfl, trivial⟩ ?_
    exact l_X12_rests_15 κ a hA x1 h_x1 j43 hj43 FU 0 (inr_b (Or.inl rfl)) 1 (inr_b (Or.inr rfl)) s2 w_s2
abbrev R_X12_mark : Room := { frames := 1, cells := 0, slots := 0, locals := 22 }
noncomputable def f_X12_mark (a : Nat) (x1 : Int) (s0 : Mem) : Res :=
  if x1 = (-1) then (gd ((0 : Int) ≤ 64 ∧ (64 : Int) < 1732) (lm (mup s0 (a + 1) 64 0) fun s3 => some (0, s3))) else (bd (f_X12_isIn x1 1 999 s0) fun r4 s5 => if r4 = 0 then (some ((-1), s5)) else (gd ((0 : Int) ≤ 64 ∧ (64 : Int) < 1732) (if s5 (a + 1) 64 = 6 then (some ((-1), s5)) else (gd ((0 : Int) ≤ 64 ∧ (64 : Int) < 1732) (gd ((0 : Int) ≤ wr (242 + (s5 (a + 1) 64)) ∧ wr (242 + (s5 (a + 1) 64)) < 1732) (lm (mup s5 (a + 1) (wr (242 + (s5 (a + 1) 64))) x1) fun s11 => gd ((0 : Int) ≤ 64 ∧ (64 : Int) < 1732) (gd ((0 : Int) ≤ 64 ∧ (64 : Int) < 1732) (lm (mup s11 (a + 1) 64 (wr ((s11 (a + 1) 64) + 1))) fun s14 => gd ((0 : Int) ≤ 64 ∧ (64 : Int) < 1732) (some (s14 (a + 1) 64, s14))))))))))
set_option maxHeartbeats 4000000 in
set_option maxRecDepth 10000 in
theorem c_X12_mark (κ : Kp) (a : Nat) (hA : At12 κ a) (x1 : Int) (h_x1 : InR x1) (s0 : Mem) : ∀ r σ', f_X12_mark a x1 s0 = some (r, σ') → Ct κ M_X12_mark R_X12_mark [vr κ a, vi x1] s0 r σ' := by
  intro r σ' ho
  refine Ct.of (by decide) (Nat.le_of_ble_eq_true rfl) (cat_ok rfl) (fun w_s0 => ?_) ⟨rfl, rfl⟩
  refine q_ent (ls' := [some (vr κ a), some (vi x1)]) (o := f_X12_mark a x1 s0) ⟨rfl, rfl, trivial⟩ ?_ ho
  unfold f_X12_mark
  refine q_iload_n (x := x1) d_X12_mark_0 rfl ?_
  refine q_iconst d_X12_mark_1 ?_
  refine q_icmp_ne d_X12_mark_2 h_x1 (inr_d rfl) (fun c1 => ?_) (fun c1 => ?_)
  · refine q_aload_n d_X12_mark_5 rfl ?_
    refine q_getR (n := 1) d_X12_mark_6 hA.1 fi_12_7 rfl (Nat.le_of_ble_eq_true rfl) ?_
    refine q_bipush d_X12_mark_9 rfl ?_
    refine q_iconst d_X12_mark_11 ?_
    refine q_iastore (m := 1732) d_X12_mark_12 hA.2.1 (by decide) rfl (inr_b (Or.inl rfl)) w_s0 (fun g2 s3 w_s3 => ?_)
    refine q_iconst d_X12_mark_13 ?_
    exact q_ireti d_X12_mark_14 rfl (inr_b (Or.inl rfl)) w_s3
  · refine q_iload_n (x := x1) d_X12_mark_15 rfl ?_
    refine q_iconst d_X12_mark_16 ?_
    refine q_sipush d_X12_mark_17 rfl ?_
    refine q_callZ (R' := R_X12_isIn) (runS (As := [vi x1, vi 1, vi 999]) (rest := []) d_X12_mark_20.1 cv_12_60 rfl ⟨rfl, rfl, by decide, by decide⟩ (Nat.le_of_ble_eq_true rfl) w_s0 rfl) d_X12_mark_20.2 (c_X12_isIn κ x1 h_x1 1 (inr_b (Or.inr rfl)) 999 (inr_d rfl) s0) rfl (fun r4 s5 h_r4 w_s5 => ?_)
    refine q_if_eq d_X12_mark_23 (inr_b h_r4) (fun c6 => ?_) (fun c6 => ?_)
    · refine q_iconst d_X12_mark_38 ?_
      exact q_ireti d_X12_mark_39 rfl (inr_d rfl) w_s5
    · refine q_aload_n d_X12_mark_26 rfl ?_
      refine q_getR (n := 1) d_X12_mark_27 hA.1 fi_12_7 rfl (Nat.le_of_ble_eq_true rfl) ?_
      refine q_bipush d_X12_mark_30 rfl ?_
      refine q_iaload (m := 1732) d_X12_mark_32 hA.2.1 (by decide) rfl (fun g7 => ?_)
      refine q_bipush d_X12_mark_33 rfl ?_
      refine q_icmp_ne d_X12_mark_35 (w_s5 _ _) (inr_d rfl) (fun c8 => ?_) (fun c8 => ?_)
      · refine q_iconst d_X12_mark_38 ?_
        exact q_ireti d_X12_mark_39 rfl (inr_d rfl) w_s5
      · refine q_aload_n d_X12_mark_40 rfl ?_
        refine q_getR (n := 1) d_X12_mark_41 hA.1 fi_12_7 rfl (Nat.le_of_ble_eq_true rfl) ?_
        refine q_sipush d_X12_mark_44 rfl ?_
        refine q_aload_n d_X12_mark_47 rfl ?_
        refine q_getR (n := 1) d_X12_mark_48 hA.1 fi_12_7 rfl (Nat.le_of_ble_eq_true rfl) ?_
        refine q_bipush d_X12_mark_51 rfl ?_
        refine q_iaload (m := 1732) d_X12_mark_53 hA.2.1 (by decide) rfl (fun g9 => ?_)
        refine q_iadd d_X12_mark_54 ?_
        refine q_iload_n (x := x1) d_X12_mark_55 rfl ?_
        refine q_iastore (m := 1732) d_X12_mark_56 hA.2.1 (by decide) rfl h_x1 w_s5 (fun g10 s11 w_s11 => ?_)
        refine q_aload_n d_X12_mark_57 rfl ?_
        refine q_getR (n := 1) d_X12_mark_58 hA.1 fi_12_7 rfl (Nat.le_of_ble_eq_true rfl) ?_
        refine q_bipush d_X12_mark_61 rfl ?_
        refine q_dup2 d_X12_mark_63 rfl rfl ?_
        refine q_iaload (m := 1732) d_X12_mark_64 hA.2.1 (by decide) rfl (fun g12 => ?_)
        refine q_iconst d_X12_mark_65 ?_
        refine q_iadd d_X12_mark_66 ?_
        refine q_iastore (m := 1732) d_X12_mark_67 hA.2.1 (by decide) rfl (inr_wr _) w_s11 (fun g13 s14 w_s14 => ?_)
        refine q_aload_n d_X12_mark_68 rfl ?_
        refine q_getR (n := 1) d_X12_mark_69 hA.1 fi_12_7 rfl (Nat.le_of_ble_eq_true rfl) ?_
        refine q_bipush d_X12_mark_72 rfl ?_
        refine q_iaload (m := 1732) d_X12_mark_74 hA.2.1 (by decide) rfl (fun g15 => ?_)
        exact q_ireti d_X12_mark_75 rfl (w_s14 _ _) w_s14
abbrev R_X12_marked : Room := { frames := 0, cells := 0, slots := 0, locals := 0 }
noncomputable def f_X12_marked_4 (a : Nat) (k34 : Int → Res) (s0 : Mem) : Nat → Int → Int → Res
  | 0, _, _ => none
  | n + 1, x1, x2 =>
    gd ((0 : Int) ≤ 64 ∧ (64 : Int) < 1732) (if x2 < s0 (a + 1) 64 then (gd ((0 : Int) ≤ wr (242 + x2) ∧ wr (242 + x2) < 1732) (f_X12_marked_4 a k34 s0 n (wr (x1 + (s0 (a + 1) (wr (242 + x2))))) (wr (x2 + 1)))) else (k34 x1))
noncomputable def f_X12_marked (a : Nat) (s0 : Mem) : Res :=
  jn (fun (v1 : Int) => some (v1, s0)) fun j34 => f_X12_marked_4 a j34 s0 FU 0 0
set_option maxHeartbeats 4000000 in
set_option maxRecDepth 10000 in
theorem l_X12_marked_4 (κ : Kp) (a : Nat) (hA : At12 κ a) (k34 : Int → Res) (s0 : Mem) (w_s0 : WF s0) (hk34 : ∀ (z1 : Int) (h_z1 : InR z1), EO κ M_X12_marked R_X12_marked 34 [none, some (vi z1), none] [] s0 (k34 z1)) : ∀ (n : Nat) (x1 : Int) (h_x1 : InR x1) (x2 : Int) (h_x2 : InR x2), EO κ M_X12_marked R_X12_marked 4 [some (vr κ a), some (vi x1), some (vi x2)] [] s0 (f_X12_marked_4 a k34 s0 n x1 x2) := by
  intro n
  induction n with
  | zero => exact fun _ _ _ _ => q_none
  | succ n ih =>
    intro x1 h_x1 x2 h_x2
    rw [f_X12_marked_4]
    refine q_iload_n (x := x2) d_X12_marked_4 rfl ?_
    refine q_aload_n d_X12_marked_5 rfl ?_
    refine q_getR (n := 1) d_X12_marked_6 hA.1 fi_12_7 rfl (Nat.le_of_ble_eq_true rfl) ?_
    refine q_bipush d_X12_marked_9 rfl ?_
    refine q_iaload (m := 1732) d_X12_marked_11 hA.2.1 (by decide) rfl (fun g2 => ?_)
    refine q_icmp_ge d_X12_marked_12 h_x2 (w_s0 _ _) (fun c3 => ?_) (fun c3 => ?_)
    · refine q_iload_n (x := x1) d_X12_marked_15 rfl ?_
      refine q_aload_n d_X12_marked_16 rfl ?_
      refine q_getR (n := 1) d_X12_marked_17 hA.1 fi_12_7 rfl (Nat.le_of_ble_eq_true rfl) ?_
      refine q_sipush d_X12_marked_20 rfl ?_
      refine q_iload_n (x := x2) d_X12_marked_23 rfl ?_
      refine q_iadd d_X12_marked_24 ?_
      refine q_iaload (m := 1732) d_X12_marked_25 hA.2.1 (by decide) rfl (fun g4 => ?_)
      refine q_iadd d_X12_marked_26 ?_
      refine q_istore_n d_X12_marked_27 rfl ?_
      refine q_iinc (x := x2) d_X12_marked_28 rfl rfl ?_
      refine q_goto d_X12_marked_31 ?_
      refine q_sub (ls' := [some (vr κ a), some (vi (wr (x1 + (s0 (a + 1) (wr (242 + x2)))))), some (vi (wr (x2 + 1)))]) ⟨rfl, rfl, rfl, trivial⟩ ?_
      exact ih (wr (x1 + (s0 (a + 1) (wr (242 + x2))))) (inr_wr _) (wr (x2 + 1)) (inr_wr _)
    · refine q_sub (ls' := [none, some (vi x1), none]) ⟨rfl, trivial⟩ ?_
      exact hk34 x1 h_x1
set_option maxHeartbeats 4000000 in
set_option maxRecDepth 10000 in
theorem c_X12_marked (κ : Kp) (a : Nat) (hA : At12 κ a) (s0 : Mem) : ∀ r σ', f_X12_marked a s0 = some (r, σ') → Ct κ M_X12_marked R_X12_marked [vr κ a] s0 r σ' := by
  intro r σ' ho
  refine Ct.of (by decide) (Nat.le_of_ble_eq_true rfl) (cat_ok rfl) (fun w_s0 => ?_) ⟨rfl, rfl⟩
  refine q_ent (ls' := [some (vr κ a), none, none]) (o := f_X12_marked a s0) ⟨rfl, trivial⟩ ?_ ho
  unfold f_X12_marked
  refine q_iconst d_X12_marked_0 ?_
  refine q_istore_n d_X12_marked_1 rfl ?_
  refine q_iconst d_X12_marked_2 ?_
  refine q_istore_n d_X12_marked_3 rfl ?_
  refine q_jn (α := Int → Res) (fun j34 => ∀ (v1 : Int) (h_v1 : InR v1), EO κ M_X12_marked R_X12_marked 34 [none, some (vi v1), none] [] s0 (j34 v1)) ?_ (fun j34 hj34 => ?_)
  · intro v1 h_v1
    refine q_iload_n (x := v1) d_X12_marked_34 rfl ?_
    exact q_ireti d_X12_marked_35 rfl h_v1 w_s0
  refine q_sub (ls' := [some (vr κ a), some (vi 0), some (vi 0)]) ⟨rfl, rfl, rfl, trivial⟩ ?_
  exact l_X12_marked_4 κ a hA j34 s0 w_s0 hj34 FU 0 (inr_b (Or.inl rfl)) 0 (inr_b (Or.inl rfl))

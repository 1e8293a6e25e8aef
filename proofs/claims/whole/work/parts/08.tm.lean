abbrev R_X4_has : Room := { frames := 0, cells := 0, slots := 0, locals := 0 }
noncomputable def f_X4_has (a : Nat) (x1 : Int) (s0 : Mem) : Res :=
  if x1 < 0 then (some (0, s0)) else (if x1 < s0 a 8 then (some (1, s0)) else (some (0, s0)))
set_option maxHeartbeats 4000000 in
set_option maxRecDepth 10000 in
theorem c_X4_has (κ : Kp) (a : Nat) (hA : At4 κ a) (x1 : Int) (h_x1 : InR x1) (s0 : Mem) : ∀ r σ', f_X4_has a x1 s0 = some (r, σ') → Ct κ M_X4_has R_X4_has [vr κ a, vi x1] s0 r σ' := by
  intro r σ' ho
  refine Ct.of (by decide) (Nat.le_of_ble_eq_true rfl) (cat_ok rfl) (fun w_s0 => ?_) ⟨rfl, rfl⟩
  refine q_ent (ls' := [some (vr κ a), some (vi x1)]) (o := f_X4_has a x1 s0) ⟨rfl, rfl, trivial⟩ ?_ ho
  unfold f_X4_has
  refine q_iload_n (x := x1) d_X4_has_0 rfl ?_
  refine q_if_lt d_X4_has_1 h_x1 (fun c1 => ?_) (fun c1 => ?_)
  · refine q_iconst d_X4_has_16 ?_
    exact q_iretz d_X4_has_17 rfl (Or.inl rfl) w_s0
  · refine q_iload_n (x := x1) d_X4_has_4 rfl ?_
    refine q_aload_n d_X4_has_5 rfl ?_
    refine q_getI (k := 8) (j := 8) d_X4_has_6 hA.1 fi_4_47 rfl rfl ?_
    refine q_icmp_ge d_X4_has_9 h_x1 (w_s0 _ _) (fun c2 => ?_) (fun c2 => ?_)
    · refine q_iconst d_X4_has_12 ?_
      refine q_goto d_X4_has_13 ?_
      exact q_iretz d_X4_has_17 rfl (Or.inr rfl) w_s0
    · refine q_iconst d_X4_has_16 ?_
      exact q_iretz d_X4_has_17 rfl (Or.inl rfl) w_s0
abbrev R_X11_within : Room := { frames := 0, cells := 0, slots := 0, locals := 0 }
noncomputable def f_X11_within (x0 : Int) (x1 : Int) (x2 : Int) (s0 : Mem) : Res :=
  if x0 < x1 then (some (0, s0)) else (if x2 < x0 then (some (0, s0)) else (some (1, s0)))
set_option maxHeartbeats 4000000 in
set_option maxRecDepth 10000 in
theorem c_X11_within (κ : Kp) (x0 : Int) (h_x0 : InR x0) (x1 : Int) (h_x1 : InR x1) (x2 : Int) (h_x2 : InR x2) (s0 : Mem) : ∀ r σ', f_X11_within x0 x1 x2 s0 = some (r, σ') → Ct κ M_X11_within R_X11_within [vi x0, vi x1, vi x2] s0 r σ' := by
  intro r σ' ho
  refine Ct.of (by decide) (Nat.le_of_ble_eq_true rfl) (cat_ok rfl) (fun w_s0 => ?_) ⟨rfl, rfl⟩
  refine q_ent (ls' := [some (vi x0), some (vi x1), some (vi x2)]) (o := f_X11_within x0 x1 x2 s0) ⟨rfl, rfl, rfl, trivial⟩ ?_ ho
  unfold f_X11_within
  refine q_iload_n (x := x0) d_X11_within_0 rfl ?_
  refine q_iload_n (x := x1) d_X11_within_1 rfl ?_
  refine q_icmp_lt d_X11_within_2 h_x0 h_x1 (fun c1 => ?_) (fun c1 => ?_)
  · refine q_iconst d_X11_within_14 ?_
    exact q_iretz d_X11_within_15 rfl (Or.inl rfl) w_s0
  · refine q_iload_n (x := x0) d_X11_within_5 rfl ?_
    refine q_iload_n (x := x2) d_X11_within_6 rfl ?_
    refine q_icmp_gt d_X11_within_7 h_x0 h_x2 (fun c2 => ?_) (fun c2 => ?_)
    · refine q_iconst d_X11_within_14 ?_
      exact q_iretz d_X11_within_15 rfl (Or.inl rfl) w_s0
    · refine q_iconst d_X11_within_10 ?_
      refine q_goto d_X11_within_11 ?_
      exact q_iretz d_X11_within_15 rfl (Or.inr rfl) w_s0
abbrev R_X4_stuckIn : Room := { frames := 0, cells := 0, slots := 0, locals := 0 }
noncomputable def f_X4_stuckIn (a : Nat) (x1 : Int) (s0 : Mem) : Res :=
  gd ((0 : Int) ≤ x1 ∧ x1 < 10) (gd ((0 : Int) ≤ x1 ∧ x1 < 10) (some (wr ((s0 (a + 4) x1) + (s0 (a + 5) x1)), s0)))
set_option maxHeartbeats 4000000 in
set_option maxRecDepth 10000 in
theorem c_X4_stuckIn (κ : Kp) (a : Nat) (hA : At4 κ a) (x1 : Int) (h_x1 : InR x1) (s0 : Mem) : ∀ r σ', f_X4_stuckIn a x1 s0 = some (r, σ') → Ct κ M_X4_stuckIn R_X4_stuckIn [vr κ a, vi x1] s0 r σ' := by
  intro r σ' ho
  refine Ct.of (by decide) (Nat.le_of_ble_eq_true rfl) (cat_ok rfl) (fun w_s0 => ?_) ⟨rfl, rfl⟩
  refine q_ent (ls' := [some (vr κ a), some (vi x1)]) (o := f_X4_stuckIn a x1 s0) ⟨rfl, rfl, trivial⟩ ?_ ho
  unfold f_X4_stuckIn
  refine q_aload_n d_X4_stuckIn_0 rfl ?_
  refine q_getR (n := 4) d_X4_stuckIn_1 hA.1 fi_4_21 rfl (Nat.le_of_ble_eq_true rfl) ?_
  refine q_iload_n (x := x1) d_X4_stuckIn_4 rfl ?_
  refine q_iaload (m := 10) d_X4_stuckIn_5 hA.2.2.2.2.1 (by decide) rfl (fun g1 => ?_)
  refine q_aload_n d_X4_stuckIn_6 rfl ?_
  refine q_getR (n := 5) d_X4_stuckIn_7 hA.1 fi_4_24 rfl (Nat.le_of_ble_eq_true rfl) ?_
  refine q_iload_n (x := x1) d_X4_stuckIn_10 rfl ?_
  refine q_iaload (m := 10) d_X4_stuckIn_11 hA.2.2.2.2.2.1 (by decide) rfl (fun g2 => ?_)
  refine q_iadd d_X4_stuckIn_12 ?_
  exact q_ireti d_X4_stuckIn_13 rfl (inr_wr _) w_s0
abbrev R_X4_lean : Room := { frames := 1, cells := 0, slots := 0, locals := 30 }
noncomputable def f_X4_lean (a : Nat) (x1 : Int) (s0 : Mem) : Res :=
  gd ((0 : Int) ≤ x1 ∧ x1 < 10) (gd ((0 : Int) ≤ x1 ∧ x1 < 10) (some (mab (wr ((s0 (a + 4) x1) - (s0 (a + 5) x1))), s0)))
set_option maxHeartbeats 4000000 in
set_option maxRecDepth 10000 in
theorem c_X4_lean (κ : Kp) (a : Nat) (hA : At4 κ a) (x1 : Int) (h_x1 : InR x1) (s0 : Mem) : ∀ r σ', f_X4_lean a x1 s0 = some (r, σ') → Ct κ M_X4_lean R_X4_lean [vr κ a, vi x1] s0 r σ' := by
  intro r σ' ho
  refine Ct.of (by decide) (Nat.le_of_ble_eq_true rfl) (cat_ok rfl) (fun w_s0 => ?_) ⟨rfl, rfl⟩
  refine q_ent (ls' := [some (vr κ a), some (vi x1)]) (o := f_X4_lean a x1 s0) ⟨rfl, rfl, trivial⟩ ?_ ho
  unfold f_X4_lean
  refine q_aload_n d_X4_lean_0 rfl ?_
  refine q_getR (n := 4) d_X4_lean_1 hA.1 fi_4_21 rfl (Nat.le_of_ble_eq_true rfl) ?_
  refine q_iload_n (x := x1) d_X4_lean_4 rfl ?_
  refine q_iaload (m := 10) d_X4_lean_5 hA.2.2.2.2.1 (by decide) rfl (fun g1 => ?_)
  refine q_aload_n d_X4_lean_6 rfl ?_
  refine q_getR (n := 5) d_X4_lean_7 hA.1 fi_4_24 rfl (Nat.le_of_ble_eq_true rfl) ?_
  refine q_iload_n (x := x1) d_X4_lean_10 rfl ?_
  refine q_iaload (m := 10) d_X4_lean_11 hA.2.2.2.2.2.1 (by decide) rfl (fun g2 => ?_)
  refine q_isub d_X4_lean_12 ?_
  refine q_mabs d_X4_lean_13 cv_4_80 mw_abs ⟨by decide, Nat.le_of_ble_eq_true rfl⟩ (inr_wr _) ?_
  exact q_ireti d_X4_lean_16 rfl (inr_mab _) w_s0
abbrev R_X2_see : Room := { frames := 2, cells := 0, slots := 0, locals := 51 }
noncomputable def f_X2_see (a : Nat) (a1 : Nat) (x2 : Int) (s0 : Mem) : Res :=
  bd (f_X4_has a1 x2 s0) fun r1 s2 => gd ((0 : Int) ≤ 0 ∧ (0 : Int) < 10) (lm (mup s2 (a + 5) 0 (s2 a1 11)) fun s4 => gd ((0 : Int) ≤ 1 ∧ (1 : Int) < 10) (lm (mup s4 (a + 5) 1 (s4 a1 12)) fun s6 => gd ((0 : Int) ≤ 2 ∧ (2 : Int) < 10) (lm (mup s6 (a + 5) 2 (s6 a1 10)) fun s8 => gd ((24 : Int) ≠ 0) (gd ((0 : Int) ≤ 7 ∧ (7 : Int) < 10) (lm (mup s8 (a + 5) 7 (Int.tmod (s8 a1 14) 24)) fun s11 => jn (fun y12 => jn (fun y13 s14 => gd ((0 : Int) ≤ 3 ∧ (3 : Int) < 10) (lm (mup s14 (a + 5) 3 y13) fun s16 => jn (fun y17 => gd ((0 : Int) ≤ 4 ∧ (4 : Int) < 10) (lm (mup s16 (a + 5) 4 y17) fun s19 => jn (fun y20 => gd ((0 : Int) ≤ 5 ∧ (5 : Int) < 10) (lm (mup s19 (a + 5) 5 y20) fun s22 => gd ((0 : Int) ≤ 6 ∧ (6 : Int) < 10) (lm (mup s22 (a + 5) 6 y12) fun s24 => jn (fun y25 s26 => gd ((0 : Int) ≤ 8 ∧ (8 : Int) < 10) (lm (mup s26 (a + 5) 8 y25) fun s28 => jn (fun y29 s30 => gd ((0 : Int) ≤ 9 ∧ (9 : Int) < 10) (lm (mup s30 (a + 5) 9 y29) fun s32 => some (0, s32))) fun j186 => if r1 = 0 then (j186 0 s28) else (bd (f_X4_lean a1 x2 s28) fun r34 s35 => j186 r34 s35))) fun j166 => if r1 = 0 then (j166 0 s24) else (bd (f_X4_stuckIn a1 x2 s24) fun r37 s38 => j166 r37 s38)))) fun j137 => if r1 = 0 then (j137 0) else (gd ((0 : Int) ≤ x2 ∧ x2 < 10) (j137 (s19 (a1 + 2) x2))))) fun j117 => if r1 = 0 then (j117 0) else (gd ((0 : Int) ≤ x2 ∧ x2 < 10) (j117 (s16 (a1 + 1) x2))))) fun j97 => jn (fun s43 => j97 0 s43) fun j96 => if r1 = 0 then (j96 s11) else (bd (f_X11_within y12 0 15 s11) fun r45 s46 => if r45 = 0 then (j96 s46) else (gd ((0 : Int) ≤ y12 ∧ y12 < 16) (j97 (s46 (a1 + 8) y12) s46)))) fun j64 => if r1 = 0 then (j64 0) else (gd ((0 : Int) ≤ x2 ∧ x2 < 10) (j64 (s11 (a1 + 3) x2))))))))
set_option maxHeartbeats 4000000 in
set_option maxRecDepth 10000 in
theorem c_X2_see (κ : Kp) (a : Nat) (hA : At2 κ a) (a1 : Nat) (hA1 : At4 κ a1) (x2 : Int) (h_x2 : InR x2) (s0 : Mem) : ∀ r σ', f_X2_see a a1 x2 s0 = some (r, σ') → Ct κ M_X2_see R_X2_see [vr κ a, vr κ a1, vi x2] s0 r σ' := by
  intro r σ' ho
  refine Ct.of (by decide) (Nat.le_of_ble_eq_true rfl) (cat_ok rfl) (fun w_s0 => ?_) ⟨rfl, rfl⟩
  refine q_ent (ls' := [some (vr κ a), some (vr κ a1), some (vi x2), none, none]) (o := f_X2_see a a1 x2 s0) ⟨rfl, rfl, rfl, trivial⟩ ?_ ho
  unfold f_X2_see
  refine q_aload_n d_X2_see_0 rfl ?_
  refine q_iload_n (x := x2) d_X2_see_1 rfl ?_
  refine q_callZ (R' := R_X4_has) (runV (As := [vi x2]) (rest := []) d_X2_see_2.1 cv_2_65 rfl hA1.1 rfl rfl ⟨rfl, rfl, by decide, by decide⟩ (Nat.le_of_ble_eq_true rfl) w_s0 rfl) d_X2_see_2.2 (c_X4_has κ a1 hA1 x2 h_x2 s0) rfl (fun r1 s2 h_r1 w_s2 => ?_)
  refine q_istore_n d_X2_see_5 rfl ?_
  refine q_aload_n d_X2_see_6 rfl ?_
  refine q_getR (n := 5) d_X2_see_7 hA.1 fi_2_24 rfl (Nat.le_of_ble_eq_true rfl) ?_
  refine q_iconst d_X2_see_10 ?_
  refine q_aload_n d_X2_see_11 rfl ?_
  refine q_getI (k := 11) (j := 11) d_X2_see_12 hA1.1 fi_2_71 rfl rfl ?_
  refine q_iastore (m := 10) d_X2_see_15 hA.2.2.2.2.2.1 (by decide) rfl (w_s2 _ _) w_s2 (fun g3 s4 w_s4 => ?_)
  refine q_aload_n d_X2_see_16 rfl ?_
  refine q_getR (n := 5) d_X2_see_17 hA.1 fi_2_24 rfl (Nat.le_of_ble_eq_true rfl) ?_
  refine q_iconst d_X2_see_20 ?_
  refine q_aload_n d_X2_see_21 rfl ?_
  refine q_getI (k := 12) (j := 12) d_X2_see_22 hA1.1 fi_2_74 rfl rfl ?_
  refine q_iastore (m := 10) d_X2_see_25 hA.2.2.2.2.2.1 (by decide) rfl (w_s4 _ _) w_s4 (fun g5 s6 w_s6 => ?_)
  refine q_aload_n d_X2_see_26 rfl ?_
  refine q_getR (n := 5) d_X2_see_27 hA.1 fi_2_24 rfl (Nat.le_of_ble_eq_true rfl) ?_
  refine q_iconst d_X2_see_30 ?_
  refine q_aload_n d_X2_see_31 rfl ?_
  refine q_getI (k := 10) (j := 10) d_X2_see_32 hA1.1 fi_2_77 rfl rfl ?_
  refine q_iastore (m := 10) d_X2_see_35 hA.2.2.2.2.2.1 (by decide) rfl (w_s6 _ _) w_s6 (fun g7 s8 w_s8 => ?_)
  refine q_aload_n d_X2_see_36 rfl ?_
  refine q_getR (n := 5) d_X2_see_37 hA.1 fi_2_24 rfl (Nat.le_of_ble_eq_true rfl) ?_
  refine q_bipush d_X2_see_40 rfl ?_
  refine q_aload_n d_X2_see_42 rfl ?_
  refine q_getI (k := 14) (j := 14) d_X2_see_43 hA1.1 fi_2_80 rfl rfl ?_
  refine q_bipush d_X2_see_46 rfl ?_
  refine q_irem d_X2_see_48 (w_s8 _ _) (inr_d rfl) (fun g9 => ?_)
  refine q_iastore (m := 10) d_X2_see_49 hA.2.2.2.2.2.1 (by decide) rfl (inr_tmod (w_s8 _ _) (inr_d rfl)) w_s8 (fun g10 s11 w_s11 => ?_)
  refine q_iload_n (x := r1) d_X2_see_50 rfl ?_
  refine q_jn (α := Int → Res) (fun j64 => ∀ (y12 : Int) (h_y12 : InR y12), EO κ M_X2_see R_X2_see 64 [some (vr κ a), some (vr κ a1), some (vi x2), some (vi r1), none] [vi y12] s11 (j64 y12)) ?_ (fun j64 hj64 => ?_)
  · intro y12 h_y12
    refine q_istore d_X2_see_64 rfl ?_
    refine q_aload_n d_X2_see_66 rfl ?_
    refine q_getR (n := 5) d_X2_see_67 hA.1 fi_2_24 rfl (Nat.le_of_ble_eq_true rfl) ?_
    refine q_iconst d_X2_see_70 ?_
    refine q_iload_n (x := r1) d_X2_see_71 rfl ?_
    refine q_jn (α := Int → Mem → Res) (fun j97 => ∀ (y13 : Int) (h_y13 : InR y13) (s14 : Mem) (w_s14 : WF s14), EO κ M_X2_see R_X2_see 97 [some (vr κ a), some (vr κ a1), some (vi x2), some (vi r1), some (vi y12)] [vi y13, vi 3, vr κ (a + 5)] s14 (j97 y13 s14)) ?_ (fun j97 hj97 => ?_)
    · intro y13 h_y13 s14 w_s14
      refine q_iastore (m := 10) d_X2_see_97 hA.2.2.2.2.2.1 (by decide) rfl h_y13 w_s14 (fun g15 s16 w_s16 => ?_)
      refine q_aload_n d_X2_see_98 rfl ?_
      refine q_getR (n := 5) d_X2_see_99 hA.1 fi_2_24 rfl (Nat.le_of_ble_eq_true rfl) ?_
      refine q_iconst d_X2_see_102 ?_
      refine q_iload_n (x := r1) d_X2_see_103 rfl ?_
      refine q_jn (α := Int → Res) (fun j117 => ∀ (y17 : Int) (h_y17 : InR y17), EO κ M_X2_see R_X2_see 117 [some (vr κ a), some (vr κ a1), some (vi x2), some (vi r1), some (vi y12)] [vi y17, vi 4, vr κ (a + 5)] s16 (j117 y17)) ?_ (fun j117 hj117 => ?_)
      · intro y17 h_y17
        refine q_iastore (m := 10) d_X2_see_117 hA.2.2.2.2.2.1 (by decide) rfl h_y17 w_s16 (fun g18 s19 w_s19 => ?_)
        refine q_aload_n d_X2_see_118 rfl ?_
        refine q_getR (n := 5) d_X2_see_119 hA.1 fi_2_24 rfl (Nat.le_of_ble_eq_true rfl) ?_
        refine q_iconst d_X2_see_122 ?_
        refine q_iload_n (x := r1) d_X2_see_123 rfl ?_
        refine q_jn (α := Int → Res) (fun j137 => ∀ (y20 : Int) (h_y20 : InR y20), EO κ M_X2_see R_X2_see 137 [some (vr κ a), some (vr κ a1), some (vi x2), some (vi r1), some (vi y12)] [vi y20, vi 5, vr κ (a + 5)] s19 (j137 y20)) ?_ (fun j137 hj137 => ?_)
        · intro y20 h_y20
          refine q_iastore (m := 10) d_X2_see_137 hA.2.2.2.2.2.1 (by decide) rfl h_y20 w_s19 (fun g21 s22 w_s22 => ?_)
          refine q_aload_n d_X2_see_138 rfl ?_
          refine q_getR (n := 5) d_X2_see_139 hA.1 fi_2_24 rfl (Nat.le_of_ble_eq_true rfl) ?_
          refine q_bipush d_X2_see_142 rfl ?_
          refine q_iload (x := y12) d_X2_see_144 rfl ?_
          refine q_iastore (m := 10) d_X2_see_146 hA.2.2.2.2.2.1 (by decide) rfl h_y12 w_s22 (fun g23 s24 w_s24 => ?_)
          refine q_aload_n d_X2_see_147 rfl ?_
          refine q_getR (n := 5) d_X2_see_148 hA.1 fi_2_24 rfl (Nat.le_of_ble_eq_true rfl) ?_
          refine q_bipush d_X2_see_151 rfl ?_
          refine q_iload_n (x := r1) d_X2_see_153 rfl ?_
          refine q_jn (α := Int → Mem → Res) (fun j166 => ∀ (y25 : Int) (h_y25 : InR y25) (s26 : Mem) (w_s26 : WF s26), EO κ M_X2_see R_X2_see 166 [some (vr κ a), some (vr κ a1), some (vi x2), some (vi r1), none] [vi y25, vi 8, vr κ (a + 5)] s26 (j166 y25 s26)) ?_ (fun j166 hj166 => ?_)
          · intro y25 h_y25 s26 w_s26
            refine q_iastore (m := 10) d_X2_see_166 hA.2.2.2.2.2.1 (by decide) rfl h_y25 w_s26 (fun g27 s28 w_s28 => ?_)
            refine q_aload_n d_X2_see_167 rfl ?_
            refine q_getR (n := 5) d_X2_see_168 hA.1 fi_2_24 rfl (Nat.le_of_ble_eq_true rfl) ?_
            refine q_bipush d_X2_see_171 rfl ?_
            refine q_iload_n (x := r1) d_X2_see_173 rfl ?_
            refine q_jn (α := Int → Mem → Res) (fun j186 => ∀ (y29 : Int) (h_y29 : InR y29) (s30 : Mem) (w_s30 : WF s30), EO κ M_X2_see R_X2_see 186 [none, none, none, none, none] [vi y29, vi 9, vr κ (a + 5)] s30 (j186 y29 s30)) ?_ (fun j186 hj186 => ?_)
            · intro y29 h_y29 s30 w_s30
              refine q_iastore (m := 10) d_X2_see_186 hA.2.2.2.2.2.1 (by decide) rfl h_y29 w_s30 (fun g31 s32 w_s32 => ?_)
              exact q_vret d_X2_see_187 rfl w_s32
            refine q_if_eq d_X2_see_174 (inr_b h_r1) (fun c33 => ?_) (fun c33 => ?_)
            · refine q_iconst d_X2_see_185 ?_
              refine q_sub (ls' := [none, none, none, none, none]) trivial ?_
              exact hj186 0 (inr_b (Or.inl rfl)) s28 w_s28
            · refine q_aload_n d_X2_see_177 rfl ?_
              refine q_iload_n (x := x2) d_X2_see_178 rfl ?_
              refine q_callI (R' := R_X4_lean) (runV (As := [vi x2]) (rest := [vi 9, vr κ (a + 5)]) d_X2_see_179.1 cv_2_102 rfl hA1.1 rfl rfl ⟨rfl, rfl, by decide, by decide⟩ (Nat.le_of_ble_eq_true rfl) w_s28 rfl) d_X2_see_179.2 (c_X4_lean κ a1 hA1 x2 h_x2 s28) rfl (fun r34 s35 h_r34 w_s35 => ?_)
              refine q_goto d_X2_see_182 ?_
              refine q_sub (ls' := [none, none, none, none, none]) trivial ?_
              exact hj186 r34 h_r34 s35 w_s35
          refine q_if_eq d_X2_see_154 (inr_b h_r1) (fun c36 => ?_) (fun c36 => ?_)
          · refine q_iconst d_X2_see_165 ?_
            refine q_sub (ls' := [some (vr κ a), some (vr κ a1), some (vi x2), some (vi r1), none]) ⟨rfl, rfl, rfl, rfl, trivial⟩ ?_
            exact hj166 0 (inr_b (Or.inl rfl)) s24 w_s24
          · refine q_aload_n d_X2_see_157 rfl ?_
            refine q_iload_n (x := x2) d_X2_see_158 rfl ?_
            refine q_callI (R' := R_X4_stuckIn) (runV (As := [vi x2]) (rest := [vi 8, vr κ (a + 5)]) d_X2_see_159.1 cv_2_99 rfl hA1.1 rfl rfl ⟨rfl, rfl, by decide, by decide⟩ (Nat.le_of_ble_eq_true rfl) w_s24 rfl) d_X2_see_159.2 (c_X4_stuckIn κ a1 hA1 x2 h_x2 s24) rfl (fun r37 s38 h_r37 w_s38 => ?_)
            refine q_goto d_X2_see_162 ?_
            refine q_sub (ls' := [some (vr κ a), some (vr κ a1), some (vi x2), some (vi r1), none]) ⟨rfl, rfl, rfl, rfl, trivial⟩ ?_
            exact hj166 r37 h_r37 s38 w_s38
        refine q_if_eq d_X2_see_124 (inr_b h_r1) (fun c39 => ?_) (fun c39 => ?_)
        · refine q_iconst d_X2_see_136 ?_
          refine q_sub (ls' := [some (vr κ a), some (vr κ a1), some (vi x2), some (vi r1), some (vi y12)]) ⟨rfl, rfl, rfl, rfl, rfl, trivial⟩ ?_
          exact hj137 0 (inr_b (Or.inl rfl))
        · refine q_aload_n d_X2_see_127 rfl ?_
          refine q_getR (n := 2) d_X2_see_128 hA1.1 fi_2_96 rfl (Nat.le_of_ble_eq_true rfl) ?_
          refine q_iload_n (x := x2) d_X2_see_131 rfl ?_
          refine q_iaload (m := 10) d_X2_see_132 hA1.2.2.1 (by decide) rfl (fun g40 => ?_)
          refine q_goto d_X2_see_133 ?_
          refine q_sub (ls' := [some (vr κ a), some (vr κ a1), some (vi x2), some (vi r1), some (vi y12)]) ⟨rfl, rfl, rfl, rfl, rfl, trivial⟩ ?_
          exact hj137 (s19 (a1 + 2) x2) (w_s19 _ _)
      refine q_if_eq d_X2_see_104 (inr_b h_r1) (fun c41 => ?_) (fun c41 => ?_)
      · refine q_iconst d_X2_see_116 ?_
        refine q_sub (ls' := [some (vr κ a), some (vr κ a1), some (vi x2), some (vi r1), some (vi y12)]) ⟨rfl, rfl, rfl, rfl, rfl, trivial⟩ ?_
        exact hj117 0 (inr_b (Or.inl rfl))
      · refine q_aload_n d_X2_see_107 rfl ?_
        refine q_getR (n := 1) d_X2_see_108 hA1.1 fi_2_93 rfl (Nat.le_of_ble_eq_true rfl) ?_
        refine q_iload_n (x := x2) d_X2_see_111 rfl ?_
        refine q_iaload (m := 10) d_X2_see_112 hA1.2.1 (by decide) rfl (fun g42 => ?_)
        refine q_goto d_X2_see_113 ?_
        refine q_sub (ls' := [some (vr κ a), some (vr κ a1), some (vi x2), some (vi r1), some (vi y12)]) ⟨rfl, rfl, rfl, rfl, rfl, trivial⟩ ?_
        exact hj117 (s16 (a1 + 1) x2) (w_s16 _ _)
    refine q_jn (α := Mem → Res) (fun j96 => ∀ (s43 : Mem) (w_s43 : WF s43), EO κ M_X2_see R_X2_see 96 [some (vr κ a), some (vr κ a1), some (vi x2), some (vi r1), some (vi y12)] [vi 3, vr κ (a + 5)] s43 (j96 s43)) ?_ (fun j96 hj96 => ?_)
    · intro s43 w_s43
      refine q_iconst d_X2_see_96 ?_
      refine q_sub (ls' := [some (vr κ a), some (vr κ a1), some (vi x2), some (vi r1), some (vi y12)]) ⟨rfl, rfl, rfl, rfl, rfl, trivial⟩ ?_
      exact hj97 0 (inr_b (Or.inl rfl)) s43 w_s43
    refine q_if_eq d_X2_see_72 (inr_b h_r1) (fun c44 => ?_) (fun c44 => ?_)
    · refine q_sub (ls' := [some (vr κ a), some (vr κ a1), some (vi x2), some (vi r1), some (vi y12)]) ⟨rfl, rfl, rfl, rfl, rfl, trivial⟩ ?_
      exact hj96 s11 w_s11
    · refine q_iload (x := y12) d_X2_see_75 rfl ?_
      refine q_iconst d_X2_see_77 ?_
      refine q_bipush d_X2_see_78 rfl ?_
      refine q_callZ (R' := R_X11_within) (runN (As := [vi y12, vi 0, vi 15]) (rest := [vi 3, vr κ (a + 5)]) d_X2_see_80.1 cv_2_86 rfl ⟨rfl, rfl, by decide, by decide⟩ (Nat.le_of_ble_eq_true rfl) w_s11 rfl) d_X2_see_80.2 (c_X11_within κ y12 h_y12 0 (inr_b (Or.inl rfl)) 15 (inr_d rfl) s11) rfl (fun r45 s46 h_r45 w_s46 => ?_)
      refine q_if_eq d_X2_see_83 (inr_b h_r45) (fun c47 => ?_) (fun c47 => ?_)
      · refine q_sub (ls' := [some (vr κ a), some (vr κ a1), some (vi x2), some (vi r1), some (vi y12)]) ⟨rfl, rfl, rfl, rfl, rfl, trivial⟩ ?_
        exact hj96 s46 w_s46
      · refine q_aload_n d_X2_see_86 rfl ?_
        refine q_getR (n := 8) d_X2_see_87 hA1.1 fi_2_90 rfl (Nat.le_of_ble_eq_true rfl) ?_
        refine q_iload (x := y12) d_X2_see_90 rfl ?_
        refine q_iaload (m := 16) d_X2_see_92 hA1.2.2.2.2.2.2.2.2 (by decide) rfl (fun g48 => ?_)
        refine q_goto d_X2_see_93 ?_
        refine q_sub (ls' := [some (vr κ a), some (vr κ a1), some (vi x2), some (vi r1), some (vi y12)]) ⟨rfl, rfl, rfl, rfl, rfl, trivial⟩ ?_
        exact hj97 (s46 (a1 + 8) y12) (w_s46 _ _) s46 w_s46
  refine q_if_eq d_X2_see_51 (inr_b h_r1) (fun c49 => ?_) (fun c49 => ?_)
  · refine q_iconst d_X2_see_63 ?_
    refine q_sub (ls' := [some (vr κ a), some (vr κ a1), some (vi x2), some (vi r1), none]) ⟨rfl, rfl, rfl, rfl, trivial⟩ ?_
    exact hj64 0 (inr_b (Or.inl rfl))
  · refine q_aload_n d_X2_see_54 rfl ?_
    refine q_getR (n := 3) d_X2_see_55 hA1.1 fi_2_83 rfl (Nat.le_of_ble_eq_true rfl) ?_
    refine q_iload_n (x := x2) d_X2_see_58 rfl ?_
    refine q_iaload (m := 10) d_X2_see_59 hA1.2.2.2.1 (by decide) rfl (fun g50 => ?_)
    refine q_goto d_X2_see_60 ?_
    refine q_sub (ls' := [some (vr κ a), some (vr κ a1), some (vi x2), some (vi r1), none]) ⟨rfl, rfl, rfl, rfl, trivial⟩ ?_
    exact hj64 (s11 (a1 + 3) x2) (w_s11 _ _)
abbrev R_X2_unsaid : Room := { frames := 0, cells := 0, slots := 0, locals := 0 }
noncomputable def f_X2_unsaid (a : Nat) (x1 : Int) (s0 : Mem) : Res :=
  if x1 = 10 then (gd ((0 : Int) ≤ 3 ∧ (3 : Int) < 10) (gd ((0 : Int) ≤ 0 ∧ (0 : Int) < 10) (some (wr ((s0 (a + 5) 3) - (wr (2 * (s0 (a + 5) 0)))), s0)))) else (if x1 = 11 then (gd ((0 : Int) ≤ 4 ∧ (4 : Int) < 10) (some (wr (40 + (s0 (a + 5) 4)), s0))) else (if x1 = 12 then (gd ((0 : Int) ≤ 4 ∧ (4 : Int) < 10) (some (wr (10 * (s0 (a + 5) 4)), s0))) else (some (5, s0))))
set_option maxHeartbeats 4000000 in
set_option maxRecDepth 10000 in
theorem c_X2_unsaid (κ : Kp) (a : Nat) (hA : At2 κ a) (x1 : Int) (h_x1 : InR x1) (s0 : Mem) : ∀ r σ', f_X2_unsaid a x1 s0 = some (r, σ') → Ct κ M_X2_unsaid R_X2_unsaid [vr κ a, vi x1] s0 r σ' := by
  intro r σ' ho
  refine Ct.of (by decide) (Nat.le_of_ble_eq_true rfl) (cat_ok rfl) (fun w_s0 => ?_) ⟨rfl, rfl⟩
  refine q_ent (ls' := [some (vr κ a), some (vi x1)]) (o := f_X2_unsaid a x1 s0) ⟨rfl, rfl, trivial⟩ ?_ ho
  unfold f_X2_unsaid
  refine q_iload_n (x := x1) d_X2_unsaid_0 rfl ?_
  refine q_ite (fun c1 => ?_) (fun c1 => ?_)
  · refine q_tswC (tgt := 28) d_X2_unsaid_1 h_x1 c1 (by decide) (by decide) rfl (by decide) ?_
    refine q_aload_n d_X2_unsaid_28 rfl ?_
    refine q_getR (n := 5) d_X2_unsaid_29 hA.1 fi_2_24 rfl (Nat.le_of_ble_eq_true rfl) ?_
    refine q_iconst d_X2_unsaid_32 ?_
    refine q_iaload (m := 10) d_X2_unsaid_33 hA.2.2.2.2.2.1 (by decide) rfl (fun g2 => ?_)
    refine q_iconst d_X2_unsaid_34 ?_
    refine q_aload_n d_X2_unsaid_35 rfl ?_
    refine q_getR (n := 5) d_X2_unsaid_36 hA.1 fi_2_24 rfl (Nat.le_of_ble_eq_true rfl) ?_
    refine q_iconst d_X2_unsaid_39 ?_
    refine q_iaload (m := 10) d_X2_unsaid_40 hA.2.2.2.2.2.1 (by decide) rfl (fun g3 => ?_)
    refine q_imul d_X2_unsaid_41 ?_
    refine q_isub d_X2_unsaid_42 ?_
    exact q_ireti d_X2_unsaid_43 rfl (inr_wr _) w_s0
  refine q_ite (fun c4 => ?_) (fun c4 => ?_)
  · refine q_tswC (tgt := 44) d_X2_unsaid_1 h_x1 c4 (by decide) (by decide) rfl (by decide) ?_
    refine q_bipush d_X2_unsaid_44 rfl ?_
    refine q_aload_n d_X2_unsaid_46 rfl ?_
    refine q_getR (n := 5) d_X2_unsaid_47 hA.1 fi_2_24 rfl (Nat.le_of_ble_eq_true rfl) ?_
    refine q_iconst d_X2_unsaid_50 ?_
    refine q_iaload (m := 10) d_X2_unsaid_51 hA.2.2.2.2.2.1 (by decide) rfl (fun g5 => ?_)
    refine q_iadd d_X2_unsaid_52 ?_
    exact q_ireti d_X2_unsaid_53 rfl (inr_wr _) w_s0
  refine q_ite (fun c6 => ?_) (fun c6 => ?_)
  · refine q_tswC (tgt := 54) d_X2_unsaid_1 h_x1 c6 (by decide) (by decide) rfl (by decide) ?_
    refine q_bipush d_X2_unsaid_54 rfl ?_
    refine q_aload_n d_X2_unsaid_56 rfl ?_
    refine q_getR (n := 5) d_X2_unsaid_57 hA.1 fi_2_24 rfl (Nat.le_of_ble_eq_true rfl) ?_
    refine q_iconst d_X2_unsaid_60 ?_
    refine q_iaload (m := 10) d_X2_unsaid_61 hA.2.2.2.2.2.1 (by decide) rfl (fun g7 => ?_)
    refine q_imul d_X2_unsaid_62 ?_
    exact q_ireti d_X2_unsaid_63 rfl (inr_wr _) w_s0
  refine q_tswD (tgt := 64) d_X2_unsaid_1 h_x1 (by omega) (by decide) ?_
  refine q_iconst d_X2_unsaid_64 ?_
  exact q_ireti d_X2_unsaid_65 rfl (inr_d rfl) w_s0
abbrev R_X2_asked : Room := { frames := 0, cells := 0, slots := 0, locals := 0 }
noncomputable def f_X2_asked (a : Nat) (x1 : Int) (s0 : Mem) : Res :=
  if x1 < 0 then (some (0, s0)) else (if x1 < 10 then (gd ((0 : Int) ≤ x1 ∧ x1 < 10) (some (s0 (a + 5) x1, s0))) else (some (0, s0)))
set_option maxHeartbeats 4000000 in
set_option maxRecDepth 10000 in
theorem c_X2_asked (κ : Kp) (a : Nat) (hA : At2 κ a) (x1 : Int) (h_x1 : InR x1) (s0 : Mem) : ∀ r σ', f_X2_asked a x1 s0 = some (r, σ') → Ct κ M_X2_asked R_X2_asked [vr κ a, vi x1] s0 r σ' := by
  intro r σ' ho
  refine Ct.of (by decide) (Nat.le_of_ble_eq_true rfl) (cat_ok rfl) (fun w_s0 => ?_) ⟨rfl, rfl⟩
  refine q_ent (ls' := [some (vr κ a), some (vi x1)]) (o := f_X2_asked a x1 s0) ⟨rfl, rfl, trivial⟩ ?_ ho
  unfold f_X2_asked
  refine q_iload_n (x := x1) d_X2_asked_0 rfl ?_
  refine q_if_lt d_X2_asked_1 h_x1 (fun c1 => ?_) (fun c1 => ?_)
  · refine q_iconst d_X2_asked_19 ?_
    exact q_ireti d_X2_asked_20 rfl (inr_b (Or.inl rfl)) w_s0
  · refine q_iload_n (x := x1) d_X2_asked_4 rfl ?_
    refine q_bipush d_X2_asked_5 rfl ?_
    refine q_icmp_ge d_X2_asked_7 h_x1 (inr_d rfl) (fun c2 => ?_) (fun c2 => ?_)
    · refine q_aload_n d_X2_asked_10 rfl ?_
      refine q_getR (n := 5) d_X2_asked_11 hA.1 fi_2_24 rfl (Nat.le_of_ble_eq_true rfl) ?_
      refine q_iload_n (x := x1) d_X2_asked_14 rfl ?_
      refine q_iaload (m := 10) d_X2_asked_15 hA.2.2.2.2.2.1 (by decide) rfl (fun g3 => ?_)
      refine q_goto d_X2_asked_16 ?_
      exact q_ireti d_X2_asked_20 rfl (w_s0 _ _) w_s0
    · refine q_iconst d_X2_asked_19 ?_
      exact q_ireti d_X2_asked_20 rfl (inr_b (Or.inl rfl)) w_s0
abbrev R_X2_joined : Room := { frames := 0, cells := 0, slots := 0, locals := 0 }
noncomputable def f_X2_joined (x0 : Int) (x1 : Int) (x2 : Int) (s0 : Mem) : Res :=
  if x0 = 15 then (some (ior x1 x2, s0)) else (if x0 = 42 then (some (wr (x1 * x2), s0)) else (if x0 = 43 then (some (wr (x1 + x2), s0)) else (if x0 = 45 then (some (wr (x1 - x2), s0)) else (if x0 = 47 then (if x2 = 0 then (some (0, s0)) else (gd (x2 ≠ 0) (some (wr (Int.tdiv x1 x2), s0)))) else (if x0 = 60 then (if x1 < x2 then (some (1, s0)) else (some (0, s0))) else (if x0 = 61 then (if x1 = x2 then (some (1, s0)) else (some (0, s0))) else (if x0 = 62 then (if x2 < x1 then (some (1, s0)) else (some (0, s0))) else (some (iand x1 x2, s0)))))))))
set_option maxHeartbeats 4000000 in
set_option maxRecDepth 10000 in
theorem c_X2_joined (κ : Kp) (x0 : Int) (h_x0 : InR x0) (x1 : Int) (h_x1 : InR x1) (x2 : Int) (h_x2 : InR x2) (s0 : Mem) : ∀ r σ', f_X2_joined x0 x1 x2 s0 = some (r, σ') → Ct κ M_X2_joined R_X2_joined [vi x0, vi x1, vi x2] s0 r σ' := by
  intro r σ' ho
  refine Ct.of (by decide) (Nat.le_of_ble_eq_true rfl) (cat_ok rfl) (fun w_s0 => ?_) ⟨rfl, rfl⟩
  refine q_ent (ls' := [some (vi x0), some (vi x1), some (vi x2)]) (o := f_X2_joined x0 x1 x2 s0) ⟨rfl, rfl, rfl, trivial⟩ ?_ ho
  unfold f_X2_joined
  refine q_iload_n (x := x0) d_X2_joined_0 rfl ?_
  refine q_ite (fun c1 => ?_) (fun c1 => ?_)
  · refine q_lsw (tgt := 133) (off := 132) d_X2_joined_1 h_x0 (by decide) (by rw [c1]; rfl) (by decide) ?_
    refine q_iload_n (x := x1) d_X2_joined_133 rfl ?_
    refine q_iload_n (x := x2) d_X2_joined_134 rfl ?_
    refine q_ior d_X2_joined_135 ?_
    exact q_ireti d_X2_joined_136 rfl (inr_i32 _) w_s0
  refine q_ite (fun c2 => ?_) (fun c2 => ?_)
  · refine q_lsw (tgt := 84) (off := 83) d_X2_joined_1 h_x0 (by decide) (by rw [c2]; rfl) (by decide) ?_
    refine q_iload_n (x := x1) d_X2_joined_84 rfl ?_
    refine q_iload_n (x := x2) d_X2_joined_85 rfl ?_
    refine q_imul d_X2_joined_86 ?_
    exact q_ireti d_X2_joined_87 rfl (inr_wr _) w_s0
  refine q_ite (fun c3 => ?_) (fun c3 => ?_)
  · refine q_lsw (tgt := 76) (off := 75) d_X2_joined_1 h_x0 (by decide) (by rw [c3]; rfl) (by decide) ?_
    refine q_iload_n (x := x1) d_X2_joined_76 rfl ?_
    refine q_iload_n (x := x2) d_X2_joined_77 rfl ?_
    refine q_iadd d_X2_joined_78 ?_
    exact q_ireti d_X2_joined_79 rfl (inr_wr _) w_s0
  refine q_ite (fun c4 => ?_) (fun c4 => ?_)
  · refine q_lsw (tgt := 80) (off := 79) d_X2_joined_1 h_x0 (by decide) (by rw [c4]; rfl) (by decide) ?_
    refine q_iload_n (x := x1) d_X2_joined_80 rfl ?_
    refine q_iload_n (x := x2) d_X2_joined_81 rfl ?_
    refine q_isub d_X2_joined_82 ?_
    exact q_ireti d_X2_joined_83 rfl (inr_wr _) w_s0
  refine q_ite (fun c5 => ?_) (fun c5 => ?_)
  · refine q_lsw (tgt := 88) (off := 87) d_X2_joined_1 h_x0 (by decide) (by rw [c5]; rfl) (by decide) ?_
    refine q_iload_n (x := x2) d_X2_joined_88 rfl ?_
    refine q_if_ne d_X2_joined_89 h_x2 (fun c6 => ?_) (fun c6 => ?_)
    · refine q_iconst d_X2_joined_92 ?_
      refine q_goto d_X2_joined_93 ?_
      exact q_ireti d_X2_joined_99 rfl (inr_b (Or.inl rfl)) w_s0
    · refine q_iload_n (x := x1) d_X2_joined_96 rfl ?_
      refine q_iload_n (x := x2) d_X2_joined_97 rfl ?_
      refine q_idiv d_X2_joined_98 h_x1 h_x2 (fun g7 => ?_)
      exact q_ireti d_X2_joined_99 rfl (inr_wr _) w_s0
  refine q_ite (fun c8 => ?_) (fun c8 => ?_)
  · refine q_lsw (tgt := 100) (off := 99) d_X2_joined_1 h_x0 (by decide) (by rw [c8]; rfl) (by decide) ?_
    refine q_iload_n (x := x1) d_X2_joined_100 rfl ?_
    refine q_iload_n (x := x2) d_X2_joined_101 rfl ?_
    refine q_icmp_ge d_X2_joined_102 h_x1 h_x2 (fun c9 => ?_) (fun c9 => ?_)
    · refine q_iconst d_X2_joined_105 ?_
      refine q_goto d_X2_joined_106 ?_
      exact q_ireti d_X2_joined_110 rfl (inr_b (Or.inr rfl)) w_s0
    · refine q_iconst d_X2_joined_109 ?_
      exact q_ireti d_X2_joined_110 rfl (inr_b (Or.inl rfl)) w_s0
  refine q_ite (fun c10 => ?_) (fun c10 => ?_)
  · refine q_lsw (tgt := 111) (off := 110) d_X2_joined_1 h_x0 (by decide) (by rw [c10]; rfl) (by decide) ?_
    refine q_iload_n (x := x1) d_X2_joined_111 rfl ?_
    refine q_iload_n (x := x2) d_X2_joined_112 rfl ?_
    refine q_icmp_ne d_X2_joined_113 h_x1 h_x2 (fun c11 => ?_) (fun c11 => ?_)
    · refine q_iconst d_X2_joined_116 ?_
      refine q_goto d_X2_joined_117 ?_
      exact q_ireti d_X2_joined_121 rfl (inr_b (Or.inr rfl)) w_s0
    · refine q_iconst d_X2_joined_120 ?_
      exact q_ireti d_X2_joined_121 rfl (inr_b (Or.inl rfl)) w_s0
  refine q_ite (fun c12 => ?_) (fun c12 => ?_)
  · refine q_lsw (tgt := 122) (off := 121) d_X2_joined_1 h_x0 (by decide) (by rw [c12]; rfl) (by decide) ?_
    refine q_iload_n (x := x1) d_X2_joined_122 rfl ?_
    refine q_iload_n (x := x2) d_X2_joined_123 rfl ?_
    refine q_icmp_le d_X2_joined_124 h_x1 h_x2 (fun c13 => ?_) (fun c13 => ?_)
    · refine q_iconst d_X2_joined_127 ?_
      refine q_goto d_X2_joined_128 ?_
      exact q_ireti d_X2_joined_132 rfl (inr_b (Or.inr rfl)) w_s0
    · refine q_iconst d_X2_joined_131 ?_
      exact q_ireti d_X2_joined_132 rfl (inr_b (Or.inl rfl)) w_s0
  refine q_lsw (tgt := 137) (off := 136) d_X2_joined_1 h_x0 (by decide) (by
    show Op.lookupswitch.offset [(15, 132), (42, 83), (43, 75), (45, 79), (47, 87), (60, 99), (61, 110), (62, 121)] 136 x0 = 136
    rw [Op.lookupswitch.offset_cons, if_neg (fun q => c1 q.symm), Op.lookupswitch.offset_cons, if_neg (fun q => c2 q.symm), Op.lookupswitch.offset_cons, if_neg (fun q => c3 q.symm), Op.lookupswitch.offset_cons, if_neg (fun q => c4 q.symm), Op.lookupswitch.offset_cons, if_neg (fun q => c5 q.symm), Op.lookupswitch.offset_cons, if_neg (fun q => c8 q.symm), Op.lookupswitch.offset_cons, if_neg (fun q => c10 q.symm), Op.lookupswitch.offset_cons, if_neg (fun q => c12 q.symm), Op.lookupswitch.offset_nil]) (by decide) ?_
  refine q_iload_n (x := x1) d_X2_joined_137 rfl ?_
  refine q_iload_n (x := x2) d_X2_joined_138 rfl ?_
  refine q_iand d_X2_joined_139 ?_
  exact q_ireti d_X2_joined_140 rfl (inr_i32 _) w_s0
abbrev R_X2_value : Room := { frames := 1, cells := 0, slots := 0, locals := 22 }
noncomputable def f_X2_value_12 (a : Nat) (p2 : Int) : Nat → Int → Int → Mem → Res
  | 0, _, _, _ => none
  | n + 1, x3, x4, s0 =>
    if x4 < p2 then (if x4 < 400 then (gd ((0 : Int) ≤ x4 ∧ x4 < 400) (jn (fun v6 s7 => f_X2_value_12 a p2 n v6 (wr (x4 + 1)) s7) fun j161 => if s0 (a + 4) x4 < 20000 then (if x3 < 32 then (jn (fun y10 s11 => gd ((0 : Int) ≤ x3 ∧ x3 < 32) (lm (mup s11 (a + 6) x3 y10) fun s13 => j161 (wr (x3 + 1)) s13)) fun j82 => if s0 (a + 4) x4 < 10000 then (j82 (s0 (a + 4) x4) s0) else (bd (f_X2_asked a (wr ((s0 (a + 4) x4) - 10000)) s0) fun r15 s16 => j82 r15 s16)) else (j161 x3 s0)) else (if s0 (a + 4) x4 = 20017 then (if 0 < x3 then (gd ((0 : Int) ≤ wr (x3 - 1) ∧ wr (x3 - 1) < 32) (gd ((0 : Int) ≤ wr (x3 - 1) ∧ wr (x3 - 1) < 32) (lm (mup s0 (a + 6) (wr (x3 - 1)) (wr (1 - (s0 (a + 6) (wr (x3 - 1)))))) fun s21 => j161 x3 s21))) else (j161 x3 s0)) else (if 1 < x3 then (gd ((0 : Int) ≤ wr ((wr (x3 + (-1))) - 1) ∧ wr ((wr (x3 + (-1))) - 1) < 32) (gd ((0 : Int) ≤ wr (x3 + (-1)) ∧ wr (x3 + (-1)) < 32) (bd (f_X2_joined (wr ((s0 (a + 4) x4) - 20000)) (s0 (a + 6) (wr ((wr (x3 + (-1))) - 1))) (s0 (a + 6) (wr (x3 + (-1)))) s0) fun r25 s26 => gd ((0 : Int) ≤ wr ((wr (x3 + (-1))) - 1) ∧ wr ((wr (x3 + (-1))) - 1) < 32) (lm (mup s26 (a + 6) (wr ((wr (x3 + (-1))) - 1)) r25) fun s28 => j161 (wr (x3 + (-1))) s28)))) else (j161 x3 s0))))) else (gd ((0 : Int) ≤ 0 ∧ (0 : Int) < 32) (some (s0 (a + 6) 0, s0)))) else (gd ((0 : Int) ≤ 0 ∧ (0 : Int) < 32) (some (s0 (a + 6) 0, s0)))
noncomputable def f_X2_value (a : Nat) (x1 : Int) (x2 : Int) (s0 : Mem) : Res :=
  gd ((0 : Int) ≤ 0 ∧ (0 : Int) < 32) (lm (mup s0 (a + 6) 0 0) fun s2 => f_X2_value_12 a x2 FU 0 x1 s2)
set_option maxHeartbeats 4000000 in
set_option maxRecDepth 10000 in
theorem l_X2_value_12 (κ : Kp) (a : Nat) (hA : At2 κ a) (p2 : Int) (h_p2 : InR p2)   : ∀ (n : Nat) (x3 : Int) (h_x3 : InR x3) (x4 : Int) (h_x4 : InR x4) (s0 : Mem) (w_s0 : WF s0), EO κ M_X2_value R_X2_value 12 [some (vr κ a), none, some (vi p2), some (vi x3), some (vi x4), none] [] s0 (f_X2_value_12 a p2 n x3 x4 s0) := by
  intro n
  induction n with
  | zero => exact fun _ _ _ _ _ _ => q_none
  | succ n ih =>
    intro x3 h_x3 x4 h_x4 s0 w_s0
    rw [f_X2_value_12]
    refine q_iload (x := x4) d_X2_value_12 rfl ?_
    refine q_iload_n (x := p2) d_X2_value_14 rfl ?_
    refine q_icmp_ge d_X2_value_15 h_x4 h_p2 (fun c3 => ?_) (fun c3 => ?_)
    · refine q_iload (x := x4) d_X2_value_18 rfl ?_
      refine q_aload_n d_X2_value_20 rfl ?_
      refine q_getR (n := 4) d_X2_value_21 hA.1 fi_2_21 rfl (Nat.le_of_ble_eq_true rfl) ?_
      refine q_alen (m := 400) d_X2_value_24 hA.2.2.2.2.1 rfl ?_
      refine q_icmp_ge d_X2_value_25 h_x4 (inr_d rfl) (fun c4 => ?_) (fun c4 => ?_)
      · refine q_aload_n d_X2_value_28 rfl ?_
        refine q_getR (n := 4) d_X2_value_29 hA.1 fi_2_21 rfl (Nat.le_of_ble_eq_true rfl) ?_
        refine q_iload (x := x4) d_X2_value_32 rfl ?_
        refine q_iaload (m := 400) d_X2_value_34 hA.2.2.2.2.1 (by decide) rfl (fun g5 => ?_)
        refine q_istore d_X2_value_35 rfl ?_
        refine q_iload (x := s0 (a + 4) x4) d_X2_value_37 rfl ?_
        refine q_sipush d_X2_value_39 rfl ?_
        refine q_jn (α := Int → Mem → Res) (fun j161 => ∀ (v6 : Int) (h_v6 : InR v6) (s7 : Mem) (w_s7 : WF s7), EO κ M_X2_value R_X2_value 161 [some (vr κ a), none, some (vi p2), some (vi v6), some (vi x4), none] [] s7 (j161 v6 s7)) ?_ (fun j161 hj161 => ?_)
        · intro v6 h_v6 s7 w_s7
          refine q_iinc (x := x4) d_X2_value_161 rfl rfl ?_
          refine q_goto d_X2_value_164 ?_
          refine q_sub (ls' := [some (vr κ a), none, some (vi p2), some (vi v6), some (vi (wr (x4 + 1))), none]) ⟨rfl, rfl, rfl, rfl, trivial⟩ ?_
          exact ih v6 h_v6 (wr (x4 + 1)) (inr_wr _) s7 w_s7
        refine q_icmp_ge d_X2_value_42 (w_s0 _ _) (inr_d rfl) (fun c8 => ?_) (fun c8 => ?_)
        · refine q_iload_n (x := x3) d_X2_value_45 rfl ?_
          refine q_aload_n d_X2_value_46 rfl ?_
          refine q_getR (n := 6) d_X2_value_47 hA.1 fi_2_27 rfl (Nat.le_of_ble_eq_true rfl) ?_
          refine q_alen (m := 32) d_X2_value_50 hA.2.2.2.2.2.2 rfl ?_
          refine q_icmp_ge d_X2_value_51 h_x3 (inr_d rfl) (fun c9 => ?_) (fun c9 => ?_)
          · refine q_aload_n d_X2_value_54 rfl ?_
            refine q_getR (n := 6) d_X2_value_55 hA.1 fi_2_27 rfl (Nat.le_of_ble_eq_true rfl) ?_
            refine q_iload_n (x := x3) d_X2_value_58 rfl ?_
            refine q_iload (x := s0 (a + 4) x4) d_X2_value_59 rfl ?_
            refine q_sipush d_X2_value_61 rfl ?_
            refine q_jn (α := Int → Mem → Res) (fun j82 => ∀ (y10 : Int) (h_y10 : InR y10) (s11 : Mem) (w_s11 : WF s11), EO κ M_X2_value R_X2_value 82 [some (vr κ a), none, some (vi p2), some (vi x3), some (vi x4), none] [vi y10, vi x3, vr κ (a + 6)] s11 (j82 y10 s11)) ?_ (fun j82 hj82 => ?_)
            · intro y10 h_y10 s11 w_s11
              refine q_iastore (m := 32) d_X2_value_82 hA.2.2.2.2.2.2 (by decide) rfl h_y10 w_s11 (fun g12 s13 w_s13 => ?_)
              refine q_iinc (x := x3) d_X2_value_83 rfl rfl ?_
              refine q_goto d_X2_value_86 ?_
              refine q_sub (ls' := [some (vr κ a), none, some (vi p2), some (vi (wr (x3 + 1))), some (vi x4), none]) ⟨rfl, rfl, rfl, rfl, trivial⟩ ?_
              exact hj161 (wr (x3 + 1)) (inr_wr _) s13 w_s13
            refine q_icmp_ge d_X2_value_64 (w_s0 _ _) (inr_d rfl) (fun c14 => ?_) (fun c14 => ?_)
            · refine q_iload (x := s0 (a + 4) x4) d_X2_value_67 rfl ?_
              refine q_goto d_X2_value_69 ?_
              refine q_sub (ls' := [some (vr κ a), none, some (vi p2), some (vi x3), some (vi x4), none]) ⟨rfl, rfl, rfl, rfl, trivial⟩ ?_
              exact hj82 (s0 (a + 4) x4) (w_s0 _ _) s0 w_s0
            · refine q_aload_n d_X2_value_72 rfl ?_
              refine q_iload (x := s0 (a + 4) x4) d_X2_value_73 rfl ?_
              refine q_sipush d_X2_value_75 rfl ?_
              refine q_isub d_X2_value_78 ?_
              refine q_callI (R' := R_X2_asked) (runV (As := [vi (wr ((s0 (a + 4) x4) - 10000))]) (rest := [vi x3, vr κ (a + 6)]) d_X2_value_79.1 cv_2_105 rfl hA.1 rfl rfl ⟨rfl, rfl, by decide, by decide⟩ (Nat.le_of_ble_eq_true rfl) w_s0 rfl) d_X2_value_79.2 (c_X2_asked κ a hA (wr ((s0 (a + 4) x4) - 10000)) (inr_wr _) s0) rfl (fun r15 s16 h_r15 w_s16 => ?_)
              refine q_sub (ls' := [some (vr κ a), none, some (vi p2), some (vi x3), some (vi x4), none]) ⟨rfl, rfl, rfl, rfl, trivial⟩ ?_
              exact hj82 r15 h_r15 s16 w_s16
          · refine q_sub (ls' := [some (vr κ a), none, some (vi p2), some (vi x3), some (vi x4), none]) ⟨rfl, rfl, rfl, rfl, trivial⟩ ?_
            exact hj161 x3 h_x3 s0 w_s0
        · refine q_iload (x := s0 (a + 4) x4) d_X2_value_89 rfl ?_
          refine q_sipush d_X2_value_91 rfl ?_
          refine q_icmp_ne d_X2_value_94 (w_s0 _ _) (inr_d rfl) (fun c17 => ?_) (fun c17 => ?_)
          · refine q_iload_n (x := x3) d_X2_value_97 rfl ?_
            refine q_if_le d_X2_value_98 h_x3 (fun c18 => ?_) (fun c18 => ?_)
            · refine q_aload_n d_X2_value_101 rfl ?_
              refine q_getR (n := 6) d_X2_value_102 hA.1 fi_2_27 rfl (Nat.le_of_ble_eq_true rfl) ?_
              refine q_iload_n (x := x3) d_X2_value_105 rfl ?_
              refine q_iconst d_X2_value_106 ?_
              refine q_isub d_X2_value_107 ?_
              refine q_iconst d_X2_value_108 ?_
              refine q_aload_n d_X2_value_109 rfl ?_
              refine q_getR (n := 6) d_X2_value_110 hA.1 fi_2_27 rfl (Nat.le_of_ble_eq_true rfl) ?_
              refine q_iload_n (x := x3) d_X2_value_113 rfl ?_
              refine q_iconst d_X2_value_114 ?_
              refine q_isub d_X2_value_115 ?_
              refine q_iaload (m := 32) d_X2_value_116 hA.2.2.2.2.2.2 (by decide) rfl (fun g19 => ?_)
              refine q_isub d_X2_value_117 ?_
              refine q_iastore (m := 32) d_X2_value_118 hA.2.2.2.2.2.2 (by decide) rfl (inr_wr _) w_s0 (fun g20 s21 w_s21 => ?_)
              refine q_goto d_X2_value_119 ?_
              refine q_sub (ls' := [some (vr κ a), none, some (vi p2), some (vi x3), some (vi x4), none]) ⟨rfl, rfl, rfl, rfl, trivial⟩ ?_
              exact hj161 x3 h_x3 s21 w_s21
            · refine q_sub (ls' := [some (vr κ a), none, some (vi p2), some (vi x3), some (vi x4), none]) ⟨rfl, rfl, rfl, rfl, trivial⟩ ?_
              exact hj161 x3 h_x3 s0 w_s0
          · refine q_iload_n (x := x3) d_X2_value_122 rfl ?_
            refine q_iconst d_X2_value_123 ?_
            refine q_icmp_le d_X2_value_124 h_x3 (inr_b (Or.inr rfl)) (fun c22 => ?_) (fun c22 => ?_)
            · refine q_iinc (x := x3) d_X2_value_127 rfl rfl ?_
              refine q_aload_n d_X2_value_130 rfl ?_
              refine q_getR (n := 6) d_X2_value_131 hA.1 fi_2_27 rfl (Nat.le_of_ble_eq_true rfl) ?_
              refine q_iload_n (x := wr (x3 + (-1))) d_X2_value_134 rfl ?_
              refine q_iconst d_X2_value_135 ?_
              refine q_isub d_X2_value_136 ?_
              refine q_iload (x := s0 (a + 4) x4) d_X2_value_137 rfl ?_
              refine q_sipush d_X2_value_139 rfl ?_
              refine q_isub d_X2_value_142 ?_
              refine q_aload_n d_X2_value_143 rfl ?_
              refine q_getR (n := 6) d_X2_value_144 hA.1 fi_2_27 rfl (Nat.le_of_ble_eq_true rfl) ?_
              refine q_iload_n (x := wr (x3 + (-1))) d_X2_value_147 rfl ?_
              refine q_iconst d_X2_value_148 ?_
              refine q_isub d_X2_value_149 ?_
              refine q_iaload (m := 32) d_X2_value_150 hA.2.2.2.2.2.2 (by decide) rfl (fun g23 => ?_)
              refine q_aload_n d_X2_value_151 rfl ?_
              refine q_getR (n := 6) d_X2_value_152 hA.1 fi_2_27 rfl (Nat.le_of_ble_eq_true rfl) ?_
              refine q_iload_n (x := wr (x3 + (-1))) d_X2_value_155 rfl ?_
              refine q_iaload (m := 32) d_X2_value_156 hA.2.2.2.2.2.2 (by decide) rfl (fun g24 => ?_)
              refine q_callI (R' := R_X2_joined) (runS (As := [vi (wr ((s0 (a + 4) x4) - 20000)), vi (s0 (a + 6) (wr ((wr (x3 + (-1))) - 1))), vi (s0 (a + 6) (wr (x3 + (-1))))]) (rest := [vi (wr ((wr (x3 + (-1))) - 1)), vr κ (a + 6)]) d_X2_value_157.1 cv_2_108 rfl ⟨rfl, rfl, by decide, by decide⟩ (Nat.le_of_ble_eq_true rfl) w_s0 rfl) d_X2_value_157.2 (c_X2_joined κ (wr ((s0 (a + 4) x4) - 20000)) (inr_wr _) (s0 (a + 6) (wr ((wr (x3 + (-1))) - 1))) (w_s0 _ _) (s0 (a + 6) (wr (x3 + (-1)))) (w_s0 _ _) s0) rfl (fun r25 s26 h_r25 w_s26 => ?_)
              refine q_iastore (m := 32) d_X2_value_160 hA.2.2.2.2.2.2 (by decide) rfl h_r25 w_s26 (fun g27 s28 w_s28 => ?_)
              refine q_sub (ls' := [some (vr κ a), none, some (vi p2), some (vi (wr (x3 + (-1)))), some (vi x4), none]) ⟨rfl, rfl, rfl, rfl, trivial⟩ ?_
              exact hj161 (wr (x3 + (-1))) (inr_wr _) s28 w_s28
            · refine q_sub (ls' := [some (vr κ a), none, some (vi p2), some (vi x3), some (vi x4), none]) ⟨rfl, rfl, rfl, rfl, trivial⟩ ?_
              exact hj161 x3 h_x3 s0 w_s0
      · refine q_aload_n d_X2_value_167 rfl ?_
        refine q_getR (n := 6) d_X2_value_168 hA.1 fi_2_27 rfl (Nat.le_of_ble_eq_true rfl) ?_
        refine q_iconst d_X2_value_171 ?_
        refine q_iaload (m := 32) d_X2_value_172 hA.2.2.2.2.2.2 (by decide) rfl (fun g29 => ?_)
        exact q_ireti d_X2_value_173 rfl (w_s0 _ _) w_s0
    · refine q_aload_n d_X2_value_167 rfl ?_
      refine q_getR (n := 6) d_X2_value_168 hA.1 fi_2_27 rfl (Nat.le_of_ble_eq_true rfl) ?_
      refine q_iconst d_X2_value_171 ?_
      refine q_iaload (m := 32) d_X2_value_172 hA.2.2.2.2.2.2 (by decide) rfl (fun g30 => ?_)
      exact q_ireti d_X2_value_173 rfl (w_s0 _ _) w_s0
set_option maxHeartbeats 4000000 in
set_option maxRecDepth 10000 in
theorem c_X2_value (κ : Kp) (a : Nat) (hA : At2 κ a) (x1 : Int) (h_x1 : InR x1) (x2 : Int) (h_x2 : InR x2) (s0 : Mem) : ∀ r σ', f_X2_value a x1 x2 s0 = some (r, σ') → Ct κ M_X2_value R_X2_value [vr κ a, vi x1, vi x2] s0 r σ' := by
  intro r σ' ho
  refine Ct.of (by decide) (Nat.le_of_ble_eq_true rfl) (cat_ok rfl) (fun w_s0 => ?_) ⟨rfl, rfl⟩
  refine q_ent (ls' := [some (vr κ a), some (vi x1), some (vi x2), none, none, none]) (o := f_X2_value a x1 x2 s0) ⟨rfl, rfl, rfl, trivial⟩ ?_ ho
  unfold f_X2_value
  refine q_iconst d_X2_value_0 ?_
  refine q_istore_n d_X2_value_1 rfl ?_
  refine q_aload_n d_X2_value_2 rfl ?_
  refine q_getR (n := 6) d_X2_value_3 hA.1 fi_2_27 rfl (Nat.le_of_ble_eq_true rfl) ?_
  refine q_iconst d_X2_value_6 ?_
  refine q_iconst d_X2_value_7 ?_
  refine q_iastore (m := 32) d_X2_value_8 hA.2.2.2.2.2.2 (by decide) rfl (inr_b (Or.inl rfl)) w_s0 (fun g1 s2 w_s2 => ?_)
  refine q_iload_n (x := x1) d_X2_value_9 rfl ?_
  refine q_istore d_X2_value_10 rfl ?_
  refine q_sub (ls' := [some (vr κ a), none, some (vi x2), some (vi 0), some (vi x1), none]) ⟨rfl, rfl, rfl, rfl, trivial⟩ ?_
  exact l_X2_value_12 κ a hA x2 h_x2   FU 0 (inr_b (Or.inl rfl)) x1 h_x1 s2 w_s2
abbrev R_X2_held : Room := { frames := 1, cells := 0, slots := 0, locals := 30 }
noncomputable def f_X2_held (x0 : Int) (x1 : Int) (x2 : Int) (s0 : Mem) : Res :=
  some (mmx x1 (mmn x2 x0), s0)
set_option maxHeartbeats 4000000 in
set_option maxRecDepth 10000 in
theorem c_X2_held (κ : Kp) (x0 : Int) (h_x0 : InR x0) (x1 : Int) (h_x1 : InR x1) (x2 : Int) (h_x2 : InR x2) (s0 : Mem) : ∀ r σ', f_X2_held x0 x1 x2 s0 = some (r, σ') → Ct κ M_X2_held R_X2_held [vi x0, vi x1, vi x2] s0 r σ' := by
  intro r σ' ho
  refine Ct.of (by decide) (Nat.le_of_ble_eq_true rfl) (cat_ok rfl) (fun w_s0 => ?_) ⟨rfl, rfl⟩
  refine q_ent (ls' := [some (vi x0), some (vi x1), some (vi x2)]) (o := f_X2_held x0 x1 x2 s0) ⟨rfl, rfl, rfl, trivial⟩ ?_ ho
  unfold f_X2_held
  refine q_iload_n (x := x1) d_X2_held_0 rfl ?_
  refine q_iload_n (x := x2) d_X2_held_1 rfl ?_
  refine q_iload_n (x := x0) d_X2_held_2 rfl ?_
  refine q_mmin d_X2_held_3 cv_2_57 mw_min ⟨by decide, Nat.le_of_ble_eq_true rfl⟩ h_x2 h_x0 ?_
  refine q_mmax d_X2_held_6 cv_2_62 mw_max ⟨by decide, Nat.le_of_ble_eq_true rfl⟩ h_x1 (inr_mmn h_x2 h_x0) ?_
  exact q_ireti d_X2_held_9 rfl (inr_mmx h_x1 (inr_mmn h_x2 h_x0)) w_s0
abbrev R_X2_tells : Room := { frames := 3, cells := 0, slots := 0, locals := 75 }
noncomputable def f_X2_tells_19 (a : Nat) (p1 : Int) (p4 : Int) (k110 : Int → Mem → Res) (k77 : Int → Int → Mem → Res) : Nat → Int → Int → Mem → Res
  | 0, _, _, _ => none
  | n + 1, x5, x6, s0 =>
    if x6 < s0 a 4 then (gd ((0 : Int) ≤ x6 ∧ x6 < 16) (jn (fun s23 => gd ((0 : Int) ≤ x6 ∧ x6 < 16) (f_X2_tells_19 a p1 p4 k110 k77 n (s23 (a + 3) x6) (wr (x6 + 1)) s23)) fun j95 => if s0 (a + 1) x6 = p1 then (gd ((0 : Int) ≤ x6 ∧ x6 < 16) (gd ((0 : Int) ≤ x6 ∧ x6 < 16) (if s0 (a + 2) x6 = s0 (a + 3) x6 then (k77 x5 x6 s0) else (gd ((0 : Int) ≤ x6 ∧ x6 < 16) (gd ((0 : Int) ≤ x6 ∧ x6 < 16) (bd (f_X2_value a (s0 (a + 2) x6) (s0 (a + 3) x6) s0) fun r31 s32 => if r31 = 0 then (j95 s32) else (k77 x5 x6 s32))))))) else (j95 s0))) else (k110 p4 s0)
noncomputable def f_X2_tells (a : Nat) (x1 : Int) (a2 : Nat) (x3 : Int) (s0 : Mem) : Res :=
  bd (f_X2_see a a2 x3 s0) fun r1 s2 => bd (f_X2_unsaid a x1 s2) fun r3 s4 => jn (fun v5 s6 => if x1 = 11 then (bd (f_X2_held v5 0 100 s6) fun r8 s9 => some (r8, s9)) else (if x1 = 12 then (bd (f_X2_held v5 1 999 s6) fun r11 s12 => some (r11, s12)) else (bd (f_X2_held v5 0 99 s6) fun r13 s14 => some (r13, s14)))) fun j110 => jn (fun v15 v16 s17 => gd ((0 : Int) ≤ v16 ∧ v16 < 16) (bd (f_X2_value a v15 (s17 (a + 2) v16) s17) fun r19 s20 => j110 r19 s20)) fun j77 => f_X2_tells_19 a x1 r3 j110 j77 FU 0 0 s4
set_option maxHeartbeats 4000000 in
set_option maxRecDepth 10000 in
theorem l_X2_tells_19 (κ : Kp) (a : Nat) (hA : At2 κ a) (p1 : Int) (h_p1 : InR p1) (p4 : Int) (h_p4 : InR p4) (k110 : Int → Mem → Res) (k77 : Int → Int → Mem → Res) (hk110 : ∀ (z4 : Int) (h_z4 : InR z4) (sz : Mem) (w_sz : WF sz), EO κ M_X2_tells R_X2_tells 110 [none, some (vi p1), none, none, some (vi z4), none, none] [] sz (k110 z4 sz)) (hk77 : ∀ (z5 : Int) (h_z5 : InR z5) (z6 : Int) (h_z6 : InR z6) (sz : Mem) (w_sz : WF sz), EO κ M_X2_tells R_X2_tells 77 [some (vr κ a), some (vi p1), none, none, none, some (vi z5), some (vi z6)] [] sz (k77 z5 z6 sz)) : ∀ (n : Nat) (x5 : Int) (h_x5 : InR x5) (x6 : Int) (h_x6 : InR x6) (s0 : Mem) (w_s0 : WF s0), EO κ M_X2_tells R_X2_tells 19 [some (vr κ a), some (vi p1), none, none, some (vi p4), some (vi x5), some (vi x6)] [] s0 (f_X2_tells_19 a p1 p4 k110 k77 n x5 x6 s0) := by
  intro n
  induction n with
  | zero => exact fun _ _ _ _ _ _ => q_none
  | succ n ih =>
    intro x5 h_x5 x6 h_x6 s0 w_s0
    rw [f_X2_tells_19]
    refine q_iload (x := x6) d_X2_tells_19 rfl ?_
    refine q_aload_n d_X2_tells_21 rfl ?_
    refine q_getI (k := 4) (j := 4) d_X2_tells_22 hA.1 fi_2_34 rfl rfl ?_
    refine q_icmp_ge d_X2_tells_25 h_x6 (w_s0 _ _) (fun c21 => ?_) (fun c21 => ?_)
    · refine q_aload_n d_X2_tells_28 rfl ?_
      refine q_getR (n := 1) d_X2_tells_29 hA.1 fi_2_9 rfl (Nat.le_of_ble_eq_true rfl) ?_
      refine q_iload (x := x6) d_X2_tells_32 rfl ?_
      refine q_iaload (m := 16) d_X2_tells_34 hA.2.1 (by decide) rfl (fun g22 => ?_)
      refine q_iload_n (x := p1) d_X2_tells_35 rfl ?_
      refine q_jn (α := Mem → Res) (fun j95 => ∀ (s23 : Mem) (w_s23 : WF s23), EO κ M_X2_tells R_X2_tells 95 [some (vr κ a), some (vi p1), none, none, some (vi p4), none, some (vi x6)] [] s23 (j95 s23)) ?_ (fun j95 hj95 => ?_)
      · intro s23 w_s23
        refine q_aload_n d_X2_tells_95 rfl ?_
        refine q_getR (n := 3) d_X2_tells_96 hA.1 fi_2_18 rfl (Nat.le_of_ble_eq_true rfl) ?_
        refine q_iload (x := x6) d_X2_tells_99 rfl ?_
        refine q_iaload (m := 16) d_X2_tells_101 hA.2.2.2.1 (by decide) rfl (fun g24 => ?_)
        refine q_istore d_X2_tells_102 rfl ?_
        refine q_iinc (x := x6) d_X2_tells_104 rfl rfl ?_
        refine q_goto d_X2_tells_107 ?_
        refine q_sub (ls' := [some (vr κ a), some (vi p1), none, none, some (vi p4), some (vi (s23 (a + 3) x6)), some (vi (wr (x6 + 1)))]) ⟨rfl, rfl, rfl, rfl, rfl, trivial⟩ ?_
        exact ih (s23 (a + 3) x6) (w_s23 _ _) (wr (x6 + 1)) (inr_wr _) s23 w_s23
      refine q_icmp_ne d_X2_tells_36 (w_s0 _ _) h_p1 (fun c25 => ?_) (fun c25 => ?_)
      · refine q_aload_n d_X2_tells_39 rfl ?_
        refine q_getR (n := 2) d_X2_tells_40 hA.1 fi_2_15 rfl (Nat.le_of_ble_eq_true rfl) ?_
        refine q_iload (x := x6) d_X2_tells_43 rfl ?_
        refine q_iaload (m := 16) d_X2_tells_45 hA.2.2.1 (by decide) rfl (fun g26 => ?_)
        refine q_aload_n d_X2_tells_46 rfl ?_
        refine q_getR (n := 3) d_X2_tells_47 hA.1 fi_2_18 rfl (Nat.le_of_ble_eq_true rfl) ?_
        refine q_iload (x := x6) d_X2_tells_50 rfl ?_
        refine q_iaload (m := 16) d_X2_tells_52 hA.2.2.2.1 (by decide) rfl (fun g27 => ?_)
        refine q_icmp_eq d_X2_tells_53 (w_s0 _ _) (w_s0 _ _) (fun c28 => ?_) (fun c28 => ?_)
        · refine q_sub (ls' := [some (vr κ a), some (vi p1), none, none, none, some (vi x5), some (vi x6)]) ⟨rfl, rfl, rfl, rfl, trivial⟩ ?_
          exact hk77 x5 h_x5 x6 h_x6 s0 w_s0
        · refine q_aload_n d_X2_tells_56 rfl ?_
          refine q_aload_n d_X2_tells_57 rfl ?_
          refine q_getR (n := 2) d_X2_tells_58 hA.1 fi_2_15 rfl (Nat.le_of_ble_eq_true rfl) ?_
          refine q_iload (x := x6) d_X2_tells_61 rfl ?_
          refine q_iaload (m := 16) d_X2_tells_63 hA.2.2.1 (by decide) rfl (fun g29 => ?_)
          refine q_aload_n d_X2_tells_64 rfl ?_
          refine q_getR (n := 3) d_X2_tells_65 hA.1 fi_2_18 rfl (Nat.le_of_ble_eq_true rfl) ?_
          refine q_iload (x := x6) d_X2_tells_68 rfl ?_
          refine q_iaload (m := 16) d_X2_tells_70 hA.2.2.2.1 (by decide) rfl (fun g30 => ?_)
          refine q_callI (R' := R_X2_value) (runV (As := [vi (s0 (a + 2) x6), vi (s0 (a + 3) x6)]) (rest := []) d_X2_tells_71.1 cv_2_49 rfl hA.1 rfl rfl ⟨rfl, rfl, by decide, by decide⟩ (Nat.le_of_ble_eq_true rfl) w_s0 rfl) d_X2_tells_71.2 (c_X2_value κ a hA (s0 (a + 2) x6) (w_s0 _ _) (s0 (a + 3) x6) (w_s0 _ _) s0) rfl (fun r31 s32 h_r31 w_s32 => ?_)
          refine q_if_eq d_X2_tells_74 h_r31 (fun c33 => ?_) (fun c33 => ?_)
          · refine q_sub (ls' := [some (vr κ a), some (vi p1), none, none, some (vi p4), none, some (vi x6)]) ⟨rfl, rfl, rfl, rfl, trivial⟩ ?_
            exact hj95 s32 w_s32
          · refine q_sub (ls' := [some (vr κ a), some (vi p1), none, none, none, some (vi x5), some (vi x6)]) ⟨rfl, rfl, rfl, rfl, trivial⟩ ?_
            exact hk77 x5 h_x5 x6 h_x6 s32 w_s32
      · refine q_sub (ls' := [some (vr κ a), some (vi p1), none, none, some (vi p4), none, some (vi x6)]) ⟨rfl, rfl, rfl, rfl, trivial⟩ ?_
        exact hj95 s0 w_s0
    · refine q_sub (ls' := [none, some (vi p1), none, none, some (vi p4), none, none]) ⟨rfl, rfl, trivial⟩ ?_
      exact hk110 p4 h_p4 s0 w_s0
set_option maxHeartbeats 4000000 in
set_option maxRecDepth 10000 in
theorem c_X2_tells (κ : Kp) (a : Nat) (hA : At2 κ a) (x1 : Int) (h_x1 : InR x1) (a2 : Nat) (hA2 : At4 κ a2) (x3 : Int) (h_x3 : InR x3) (s0 : Mem) : ∀ r σ', f_X2_tells a x1 a2 x3 s0 = some (r, σ') → Ct κ M_X2_tells R_X2_tells [vr κ a, vi x1, vr κ a2, vi x3] s0 r σ' := by
  intro r σ' ho
  refine Ct.of (by decide) (Nat.le_of_ble_eq_true rfl) (cat_ok rfl) (fun w_s0 => ?_) ⟨rfl, rfl⟩
  refine q_ent (ls' := [some (vr κ a), some (vi x1), some (vr κ a2), some (vi x3), none, none, none]) (o := f_X2_tells a x1 a2 x3 s0) ⟨rfl, rfl, rfl, rfl, trivial⟩ ?_ ho
  unfold f_X2_tells
  refine q_aload_n d_X2_tells_0 rfl ?_
  refine q_aload_n d_X2_tells_1 rfl ?_
  refine q_iload_n (x := x3) d_X2_tells_2 rfl ?_
  refine q_callV (R' := R_X2_see) (runV (As := [vr κ a2, vi x3]) (rest := []) d_X2_tells_3.1 cv_2_41 rfl hA.1 rfl rfl ⟨rfl, rfl, by decide, by decide⟩ (Nat.le_of_ble_eq_true rfl) w_s0 rfl) d_X2_tells_3.2 (c_X2_see κ a hA a2 hA2 x3 h_x3 s0) rfl (fun r1 s2 w_s2 => ?_)
  refine q_aload_n d_X2_tells_6 rfl ?_
  refine q_iload_n (x := x1) d_X2_tells_7 rfl ?_
  refine q_callI (R' := R_X2_unsaid) (runV (As := [vi x1]) (rest := []) d_X2_tells_8.1 cv_2_45 rfl hA.1 rfl rfl ⟨rfl, rfl, by decide, by decide⟩ (Nat.le_of_ble_eq_true rfl) w_s2 rfl) d_X2_tells_8.2 (c_X2_unsaid κ a hA x1 h_x1 s2) rfl (fun r3 s4 h_r3 w_s4 => ?_)
  refine q_istore d_X2_tells_11 rfl ?_
  refine q_iconst d_X2_tells_13 ?_
  refine q_istore d_X2_tells_14 rfl ?_
  refine q_iconst d_X2_tells_16 ?_
  refine q_istore d_X2_tells_17 rfl ?_
  refine q_jn (α := Int → Mem → Res) (fun j110 => ∀ (v5 : Int) (h_v5 : InR v5) (s6 : Mem) (w_s6 : WF s6), EO κ M_X2_tells R_X2_tells 110 [none, some (vi x1), none, none, some (vi v5), none, none] [] s6 (j110 v5 s6)) ?_ (fun j110 hj110 => ?_)
  · intro v5 h_v5 s6 w_s6
    refine q_iload_n (x := x1) d_X2_tells_110 rfl ?_
    refine q_ite (fun c7 => ?_) (fun c7 => ?_)
    · refine q_lsw (tgt := 136) (off := 25) d_X2_tells_111 h_x1 (by decide) (by rw [c7]; rfl) (by decide) ?_
      refine q_iload (x := v5) d_X2_tells_136 rfl ?_
      refine q_iconst d_X2_tells_138 ?_
      refine q_bipush d_X2_tells_139 rfl ?_
      refine q_callI (R' := R_X2_held) (runS (As := [vi v5, vi 0, vi 100]) (rest := []) d_X2_tells_141.1 cv_2_53 rfl ⟨rfl, rfl, by decide, by decide⟩ (Nat.le_of_ble_eq_true rfl) w_s6 rfl) d_X2_tells_141.2 (c_X2_held κ v5 h_v5 0 (inr_b (Or.inl rfl)) 100 (inr_d rfl) s6) rfl (fun r8 s9 h_r8 w_s9 => ?_)
      exact q_ireti d_X2_tells_144 rfl h_r8 w_s9
    refine q_ite (fun c10 => ?_) (fun c10 => ?_)
    · refine q_lsw (tgt := 145) (off := 34) d_X2_tells_111 h_x1 (by decide) (by rw [c10]; rfl) (by decide) ?_
      refine q_iload (x := v5) d_X2_tells_145 rfl ?_
      refine q_iconst d_X2_tells_147 ?_
      refine q_sipush d_X2_tells_148 rfl ?_
      refine q_callI (R' := R_X2_held) (runS (As := [vi v5, vi 1, vi 999]) (rest := []) d_X2_tells_151.1 cv_2_53 rfl ⟨rfl, rfl, by decide, by decide⟩ (Nat.le_of_ble_eq_true rfl) w_s6 rfl) d_X2_tells_151.2 (c_X2_held κ v5 h_v5 1 (inr_b (Or.inr rfl)) 999 (inr_d rfl) s6) rfl (fun r11 s12 h_r11 w_s12 => ?_)
      exact q_ireti d_X2_tells_154 rfl h_r11 w_s12
    refine q_lsw (tgt := 155) (off := 44) d_X2_tells_111 h_x1 (by decide) (by
    show Op.lookupswitch.offset [(11, 25), (12, 34)] 44 x1 = 44
    rw [Op.lookupswitch.offset_cons, if_neg (fun q => c7 q.symm), Op.lookupswitch.offset_cons, if_neg (fun q => c10 q.symm), Op.lookupswitch.offset_nil]) (by decide) ?_
    refine q_iload (x := v5) d_X2_tells_155 rfl ?_
    refine q_iconst d_X2_tells_157 ?_
    refine q_bipush d_X2_tells_158 rfl ?_
    refine q_callI (R' := R_X2_held) (runS (As := [vi v5, vi 0, vi 99]) (rest := []) d_X2_tells_160.1 cv_2_53 rfl ⟨rfl, rfl, by decide, by decide⟩ (Nat.le_of_ble_eq_true rfl) w_s6 rfl) d_X2_tells_160.2 (c_X2_held κ v5 h_v5 0 (inr_b (Or.inl rfl)) 99 (inr_d rfl) s6) rfl (fun r13 s14 h_r13 w_s14 => ?_)
    exact q_ireti d_X2_tells_163 rfl h_r13 w_s14
  refine q_jn (α := Int → Int → Mem → Res) (fun j77 => ∀ (v15 : Int) (h_v15 : InR v15) (v16 : Int) (h_v16 : InR v16) (s17 : Mem) (w_s17 : WF s17), EO κ M_X2_tells R_X2_tells 77 [some (vr κ a), some (vi x1), none, none, none, some (vi v15), some (vi v16)] [] s17 (j77 v15 v16 s17)) ?_ (fun j77 hj77 => ?_)
  · intro v15 h_v15 v16 h_v16 s17 w_s17
    refine q_aload_n d_X2_tells_77 rfl ?_
    refine q_iload (x := v15) d_X2_tells_78 rfl ?_
    refine q_aload_n d_X2_tells_80 rfl ?_
    refine q_getR (n := 2) d_X2_tells_81 hA.1 fi_2_15 rfl (Nat.le_of_ble_eq_true rfl) ?_
    refine q_iload (x := v16) d_X2_tells_84 rfl ?_
    refine q_iaload (m := 16) d_X2_tells_86 hA.2.2.1 (by decide) rfl (fun g18 => ?_)
    refine q_callI (R' := R_X2_value) (runV (As := [vi v15, vi (s17 (a + 2) v16)]) (rest := []) d_X2_tells_87.1 cv_2_49 rfl hA.1 rfl rfl ⟨rfl, rfl, by decide, by decide⟩ (Nat.le_of_ble_eq_true rfl) w_s17 rfl) d_X2_tells_87.2 (c_X2_value κ a hA v15 h_v15 (s17 (a + 2) v16) (w_s17 _ _) s17) rfl (fun r19 s20 h_r19 w_s20 => ?_)
    refine q_istore d_X2_tells_90 rfl ?_
    refine q_goto d_X2_tells_92 ?_
    refine q_sub (ls' := [none, some (vi x1), none, none, some (vi r19), none, none]) ⟨rfl, rfl, trivial⟩ ?_
    exact hj110 r19 h_r19 s20 w_s20
  refine q_sub (ls' := [some (vr κ a), some (vi x1), none, none, some (vi r3), some (vi 0), some (vi 0)]) ⟨rfl, rfl, rfl, rfl, rfl, trivial⟩ ?_
  exact l_X2_tells_19 κ a hA x1 h_x1 r3 h_r3 j110 j77 hj110 hj77 FU 0 (inr_b (Or.inl rfl)) 0 (inr_b (Or.inl rfl)) s4 w_s4
abbrev R_X11_copy : Room := { frames := 1, cells := 0, slots := 0, locals := 60 }
noncomputable def f_X11_copy (a0 n0 : Nat) (a1 n1 : Nat) (s0 : Mem) : Res :=
  gd (((0 : Int) ≤ 0 ∧ (0 : Int) ≤ 0 ∧ (0 : Int) ≤ mmn (n0 : Int) (n1 : Int)) ∧ (0 : Int) + (mmn (n0 : Int) (n1 : Int)) ≤ (n0 : Int) ∧ (0 : Int) + (mmn (n0 : Int) (n1 : Int)) ≤ (n1 : Int)) (lm (mcp s0 a0 0 a1 0 (mmn (n0 : Int) (n1 : Int))) fun s1 => some (0, s1))
set_option maxHeartbeats 4000000 in
set_option maxRecDepth 10000 in
theorem c_X11_copy (κ : Kp) (a0 n0 : Nat) (hA0 : kd κ a0 = (1, n0)) (hn0 : n0 ≤ 100000) (a1 n1 : Nat) (hA1 : kd κ a1 = (1, n1)) (hn1 : n1 ≤ 100000) (s0 : Mem) : ∀ r σ', f_X11_copy a0 n0 a1 n1 s0 = some (r, σ') → Ct κ M_X11_copy R_X11_copy [vr κ a0, vr κ a1] s0 r σ' := by
  intro r σ' ho
  refine Ct.of (by decide) (Nat.le_of_ble_eq_true rfl) (cat_ok rfl) (fun w_s0 => ?_) ⟨rfl, rfl⟩
  refine q_ent (ls' := [some (vr κ a0), some (vr κ a1)]) (o := f_X11_copy a0 n0 a1 n1 s0) ⟨rfl, rfl, trivial⟩ ?_ ho
  unfold f_X11_copy
  refine q_aload_n d_X11_copy_0 rfl ?_
  refine q_iconst d_X11_copy_1 ?_
  refine q_aload_n d_X11_copy_2 rfl ?_
  refine q_iconst d_X11_copy_3 ?_
  refine q_aload_n d_X11_copy_4 rfl ?_
  refine q_alen (m := (n0 : Int)) d_X11_copy_5 hA0 rfl ?_
  refine q_aload_n d_X11_copy_6 rfl ?_
  refine q_alen (m := (n1 : Int)) d_X11_copy_7 hA1 rfl ?_
  refine q_mmin d_X11_copy_8 cv_11_349 mw_min ⟨by decide, Nat.le_of_ble_eq_true rfl⟩ (inr_n hn0) (inr_n hn1) ?_
  refine q_copyi (m0 := (n0 : Int)) (m1 := (n1 : Int)) d_X11_copy_11 cv_11_354 cp_w ⟨by decide, by decide +kernel⟩ hA0 hA1 hn0 hn1 rfl rfl w_s0 (fun s1 w_s1 => ?_)
  exact q_vret d_X11_copy_14 rfl w_s1
abbrev R_X4_become : Room := { frames := 2, cells := 0, slots := 0, locals := 81 }
noncomputable def f_X4_become (a : Nat) (a1 : Nat) (s0 : Mem) : Res :=
  bd (f_X11_copy (a1 + 1) 10 (a + 1) 10 s0) fun r1 s2 => bd (f_X11_copy (a1 + 2) 10 (a + 2) 10 s2) fun r3 s4 => bd (f_X11_copy (a1 + 3) 10 (a + 3) 10 s4) fun r5 s6 => bd (f_X11_copy (a1 + 4) 10 (a + 4) 10 s6) fun r7 s8 => bd (f_X11_copy (a1 + 5) 10 (a + 5) 10 s8) fun r9 s10 => bd (f_X11_copy (a1 + 6) 10 (a + 6) 10 s10) fun r11 s12 => bd (f_X11_copy (a1 + 7) 10 (a + 7) 10 s12) fun r13 s14 => bd (f_X11_copy (a1 + 8) 16 (a + 8) 16 s14) fun r15 s16 => lm (mup s16 a 8 (s16 a1 8)) fun s17 => lm (mup s17 a 9 (s17 a1 9)) fun s18 => lm (mup s18 a 10 (s18 a1 10)) fun s19 => lm (mup s19 a 11 (s19 a1 11)) fun s20 => lm (mup s20 a 12 (s20 a1 12)) fun s21 => lm (mup s21 a 13 (s21 a1 13)) fun s22 => lm (mup s22 a 14 (s22 a1 14)) fun s23 => lm (mup s23 a 15 (s23 a1 15)) fun s24 => lm (mup s24 a 16 (s24 a1 16)) fun s25 => some (0, s25)
set_option maxHeartbeats 4000000 in
set_option maxRecDepth 10000 in
theorem c_X4_become (κ : Kp) (a : Nat) (hA : At4 κ a) (a1 : Nat) (hA1 : At4 κ a1) (s0 : Mem) : ∀ r σ', f_X4_become a a1 s0 = some (r, σ') → Ct κ M_X4_become R_X4_become [vr κ a, vr κ a1] s0 r σ' := by
  intro r σ' ho
  refine Ct.of (by decide) (Nat.le_of_ble_eq_true rfl) (cat_ok rfl) (fun w_s0 => ?_) ⟨rfl, rfl⟩
  refine q_ent (ls' := [some (vr κ a), some (vr κ a1)]) (o := f_X4_become a a1 s0) ⟨rfl, rfl, trivial⟩ ?_ ho
  unfold f_X4_become
  refine q_aload_n d_X4_become_0 rfl ?_
  refine q_getR (n := 1) d_X4_become_1 hA1.1 fi_4_9 rfl (Nat.le_of_ble_eq_true rfl) ?_
  refine q_aload_n d_X4_become_4 rfl ?_
  refine q_getR (n := 1) d_X4_become_5 hA.1 fi_4_9 rfl (Nat.le_of_ble_eq_true rfl) ?_
  refine q_callV (R' := R_X11_copy) (runN (As := [vr κ (a1 + 1), vr κ (a + 1)]) (rest := []) d_X4_become_8.1 cv_4_43 rfl ⟨rfl, rfl, by decide, by decide⟩ (Nat.le_of_ble_eq_true rfl) w_s0 rfl) d_X4_become_8.2 (c_X11_copy κ (a1 + 1) 10 hA1.2.1 (by decide) (a + 1) 10 hA.2.1 (by decide) s0) rfl (fun r1 s2 w_s2 => ?_)
  refine q_aload_n d_X4_become_11 rfl ?_
  refine q_getR (n := 2) d_X4_become_12 hA1.1 fi_4_15 rfl (Nat.le_of_ble_eq_true rfl) ?_
  refine q_aload_n d_X4_become_15 rfl ?_
  refine q_getR (n := 2) d_X4_become_16 hA.1 fi_4_15 rfl (Nat.le_of_ble_eq_true rfl) ?_
  refine q_callV (R' := R_X11_copy) (runN (As := [vr κ (a1 + 2), vr κ (a + 2)]) (rest := []) d_X4_become_19.1 cv_4_43 rfl ⟨rfl, rfl, by decide, by decide⟩ (Nat.le_of_ble_eq_true rfl) w_s2 rfl) d_X4_become_19.2 (c_X11_copy κ (a1 + 2) 10 hA1.2.2.1 (by decide) (a + 2) 10 hA.2.2.1 (by decide) s2) rfl (fun r3 s4 w_s4 => ?_)
  refine q_aload_n d_X4_become_22 rfl ?_
  refine q_getR (n := 3) d_X4_become_23 hA1.1 fi_4_18 rfl (Nat.le_of_ble_eq_true rfl) ?_
  refine q_aload_n d_X4_become_26 rfl ?_
  refine q_getR (n := 3) d_X4_become_27 hA.1 fi_4_18 rfl (Nat.le_of_ble_eq_true rfl) ?_
  refine q_callV (R' := R_X11_copy) (runN (As := [vr κ (a1 + 3), vr κ (a + 3)]) (rest := []) d_X4_become_30.1 cv_4_43 rfl ⟨rfl, rfl, by decide, by decide⟩ (Nat.le_of_ble_eq_true rfl) w_s4 rfl) d_X4_become_30.2 (c_X11_copy κ (a1 + 3) 10 hA1.2.2.2.1 (by decide) (a + 3) 10 hA.2.2.2.1 (by decide) s4) rfl (fun r5 s6 w_s6 => ?_)
  refine q_aload_n d_X4_become_33 rfl ?_
  refine q_getR (n := 4) d_X4_become_34 hA1.1 fi_4_21 rfl (Nat.le_of_ble_eq_true rfl) ?_
  refine q_aload_n d_X4_become_37 rfl ?_
  refine q_getR (n := 4) d_X4_become_38 hA.1 fi_4_21 rfl (Nat.le_of_ble_eq_true rfl) ?_
  refine q_callV (R' := R_X11_copy) (runN (As := [vr κ (a1 + 4), vr κ (a + 4)]) (rest := []) d_X4_become_41.1 cv_4_43 rfl ⟨rfl, rfl, by decide, by decide⟩ (Nat.le_of_ble_eq_true rfl) w_s6 rfl) d_X4_become_41.2 (c_X11_copy κ (a1 + 4) 10 hA1.2.2.2.2.1 (by decide) (a + 4) 10 hA.2.2.2.2.1 (by decide) s6) rfl (fun r7 s8 w_s8 => ?_)
  refine q_aload_n d_X4_become_44 rfl ?_
  refine q_getR (n := 5) d_X4_become_45 hA1.1 fi_4_24 rfl (Nat.le_of_ble_eq_true rfl) ?_
  refine q_aload_n d_X4_become_48 rfl ?_
  refine q_getR (n := 5) d_X4_become_49 hA.1 fi_4_24 rfl (Nat.le_of_ble_eq_true rfl) ?_
  refine q_callV (R' := R_X11_copy) (runN (As := [vr κ (a1 + 5), vr κ (a + 5)]) (rest := []) d_X4_become_52.1 cv_4_43 rfl ⟨rfl, rfl, by decide, by decide⟩ (Nat.le_of_ble_eq_true rfl) w_s8 rfl) d_X4_become_52.2 (c_X11_copy κ (a1 + 5) 10 hA1.2.2.2.2.2.1 (by decide) (a + 5) 10 hA.2.2.2.2.2.1 (by decide) s8) rfl (fun r9 s10 w_s10 => ?_)
  refine q_aload_n d_X4_become_55 rfl ?_
  refine q_getR (n := 6) d_X4_become_56 hA1.1 fi_4_27 rfl (Nat.le_of_ble_eq_true rfl) ?_
  refine q_aload_n d_X4_become_59 rfl ?_
  refine q_getR (n := 6) d_X4_become_60 hA.1 fi_4_27 rfl (Nat.le_of_ble_eq_true rfl) ?_
  refine q_callV (R' := R_X11_copy) (runN (As := [vr κ (a1 + 6), vr κ (a + 6)]) (rest := []) d_X4_become_63.1 cv_4_43 rfl ⟨rfl, rfl, by decide, by decide⟩ (Nat.le_of_ble_eq_true rfl) w_s10 rfl) d_X4_become_63.2 (c_X11_copy κ (a1 + 6) 10 hA1.2.2.2.2.2.2.1 (by decide) (a + 6) 10 hA.2.2.2.2.2.2.1 (by decide) s10) rfl (fun r11 s12 w_s12 => ?_)
  refine q_aload_n d_X4_become_66 rfl ?_
  refine q_getR (n := 7) d_X4_become_67 hA1.1 fi_4_30 rfl (Nat.le_of_ble_eq_true rfl) ?_
  refine q_aload_n d_X4_become_70 rfl ?_
  refine q_getR (n := 7) d_X4_become_71 hA.1 fi_4_30 rfl (Nat.le_of_ble_eq_true rfl) ?_
  refine q_callV (R' := R_X11_copy) (runN (As := [vr κ (a1 + 7), vr κ (a + 7)]) (rest := []) d_X4_become_74.1 cv_4_43 rfl ⟨rfl, rfl, by decide, by decide⟩ (Nat.le_of_ble_eq_true rfl) w_s12 rfl) d_X4_become_74.2 (c_X11_copy κ (a1 + 7) 10 hA1.2.2.2.2.2.2.2.1 (by decide) (a + 7) 10 hA.2.2.2.2.2.2.2.1 (by decide) s12) rfl (fun r13 s14 w_s14 => ?_)
  refine q_aload_n d_X4_become_77 rfl ?_
  refine q_getR (n := 8) d_X4_become_78 hA1.1 fi_4_33 rfl (Nat.le_of_ble_eq_true rfl) ?_
  refine q_aload_n d_X4_become_81 rfl ?_
  refine q_getR (n := 8) d_X4_become_82 hA.1 fi_4_33 rfl (Nat.le_of_ble_eq_true rfl) ?_
  refine q_callV (R' := R_X11_copy) (runN (As := [vr κ (a1 + 8), vr κ (a + 8)]) (rest := []) d_X4_become_85.1 cv_4_43 rfl ⟨rfl, rfl, by decide, by decide⟩ (Nat.le_of_ble_eq_true rfl) w_s14 rfl) d_X4_become_85.2 (c_X11_copy κ (a1 + 8) 16 hA1.2.2.2.2.2.2.2.2 (by decide) (a + 8) 16 hA.2.2.2.2.2.2.2.2 (by decide) s14) rfl (fun r15 s16 w_s16 => ?_)
  refine q_aload_n d_X4_become_88 rfl ?_
  refine q_aload_n d_X4_become_89 rfl ?_
  refine q_getI (k := 8) (j := 8) d_X4_become_90 hA1.1 fi_4_47 rfl rfl ?_
  refine q_putI (k := 8) (j := 8) d_X4_become_93 hA.1 fp_4_47 rfl rfl (w_s16 _ _) w_s16 (fun s17 w_s17 => ?_)
  refine q_aload_n d_X4_become_96 rfl ?_
  refine q_aload_n d_X4_become_97 rfl ?_
  refine q_getI (k := 9) (j := 9) d_X4_become_98 hA1.1 fi_4_50 rfl rfl ?_
  refine q_putI (k := 9) (j := 9) d_X4_become_101 hA.1 fp_4_50 rfl rfl (w_s17 _ _) w_s17 (fun s18 w_s18 => ?_)
  refine q_aload_n d_X4_become_104 rfl ?_
  refine q_aload_n d_X4_become_105 rfl ?_
  refine q_getI (k := 10) (j := 10) d_X4_become_106 hA1.1 fi_4_53 rfl rfl ?_
  refine q_putI (k := 10) (j := 10) d_X4_become_109 hA.1 fp_4_53 rfl rfl (w_s18 _ _) w_s18 (fun s19 w_s19 => ?_)
  refine q_aload_n d_X4_become_112 rfl ?_
  refine q_aload_n d_X4_become_113 rfl ?_
  refine q_getI (k := 11) (j := 11) d_X4_become_114 hA1.1 fi_4_36 rfl rfl ?_
  refine q_putI (k := 11) (j := 11) d_X4_become_117 hA.1 fp_4_36 rfl rfl (w_s19 _ _) w_s19 (fun s20 w_s20 => ?_)
  refine q_aload_n d_X4_become_120 rfl ?_
  refine q_aload_n d_X4_become_121 rfl ?_
  refine q_getI (k := 12) (j := 12) d_X4_become_122 hA1.1 fi_4_40 rfl rfl ?_
  refine q_putI (k := 12) (j := 12) d_X4_become_125 hA.1 fp_4_40 rfl rfl (w_s20 _ _) w_s20 (fun s21 w_s21 => ?_)
  refine q_aload_n d_X4_become_128 rfl ?_
  refine q_aload_n d_X4_become_129 rfl ?_
  refine q_getI (k := 13) (j := 13) d_X4_become_130 hA1.1 fi_4_56 rfl rfl ?_
  refine q_putI (k := 13) (j := 13) d_X4_become_133 hA.1 fp_4_56 rfl rfl (w_s21 _ _) w_s21 (fun s22 w_s22 => ?_)
  refine q_aload_n d_X4_become_136 rfl ?_
  refine q_aload_n d_X4_become_137 rfl ?_
  refine q_getI (k := 14) (j := 14) d_X4_become_138 hA1.1 fi_4_59 rfl rfl ?_
  refine q_putI (k := 14) (j := 14) d_X4_become_141 hA.1 fp_4_59 rfl rfl (w_s22 _ _) w_s22 (fun s23 w_s23 => ?_)
  refine q_aload_n d_X4_become_144 rfl ?_
  refine q_aload_n d_X4_become_145 rfl ?_
  refine q_getI (k := 15) (j := 15) d_X4_become_146 hA1.1 fi_4_62 rfl rfl ?_
  refine q_putI (k := 15) (j := 15) d_X4_become_149 hA.1 fp_4_62 rfl rfl (w_s23 _ _) w_s23 (fun s24 w_s24 => ?_)
  refine q_aload_n d_X4_become_152 rfl ?_
  refine q_aload_n d_X4_become_153 rfl ?_
  refine q_getI (k := 16) (j := 16) d_X4_become_154 hA1.1 fi_4_65 rfl rfl ?_
  refine q_putI (k := 16) (j := 16) d_X4_become_157 hA.1 fp_4_65 rfl rfl (w_s24 _ _) w_s24 (fun s25 w_s25 => ?_)
  exact q_vret d_X4_become_160 rfl w_s25
abbrev R_X5_keep : Room := { frames := 3, cells := 0, slots := 0, locals := 102 }
noncomputable def f_X5_keep (a : Nat) (a1 : Nat) (s0 : Mem) : Res :=
  jn (fun s1 => gd ((6 : Int) ≠ 0) (gd ((0 : Int) ≤ Int.tmod (wr ((s1 a 1) + (s1 a 2))) 6 ∧ Int.tmod (wr ((s1 a 1) + (s1 a 2))) 6 < 6) (bd (f_X4_become ((a + 1) + 1 + 9 * (Int.tmod (wr ((s1 a 1) + (s1 a 2))) 6).toNat) a1 s1) fun r4 s5 => lm (mup s5 a 2 (wr ((s5 a 2) + 1))) fun s6 => some (0, s6)))) fun j32 => if s0 a 2 = 6 then (gd ((6 : Int) ≠ 0) (lm (mup s0 a 1 (Int.tmod (wr ((s0 a 1) + 1)) 6)) fun s9 => lm (mup s9 a 2 (wr ((s9 a 2) - 1))) fun s10 => j32 s10)) else (j32 s0)
set_option maxHeartbeats 4000000 in
set_option maxRecDepth 10000 in
theorem c_X5_keep (κ : Kp) (a : Nat) (hA : At5 κ a) (a1 : Nat) (hA1 : At4 κ a1) (s0 : Mem) : ∀ r σ', f_X5_keep a a1 s0 = some (r, σ') → Ct κ M_X5_keep R_X5_keep [vr κ a, vr κ a1] s0 r σ' := by
  intro r σ' ho
  refine Ct.of (by decide) (Nat.le_of_ble_eq_true rfl) (cat_ok rfl) (fun w_s0 => ?_) ⟨rfl, rfl⟩
  refine q_ent (ls' := [some (vr κ a), some (vr κ a1)]) (o := f_X5_keep a a1 s0) ⟨rfl, rfl, trivial⟩ ?_ ho
  unfold f_X5_keep
  refine q_aload_n d_X5_keep_0 rfl ?_
  refine q_getI (k := 2) (j := 2) d_X5_keep_1 hA.1 fi_5_18 rfl rfl ?_
  refine q_bipush d_X5_keep_4 rfl ?_
  refine q_jn (α := Mem → Res) (fun j32 => ∀ (s1 : Mem) (w_s1 : WF s1), EO κ M_X5_keep R_X5_keep 32 [some (vr κ a), some (vr κ a1)] [] s1 (j32 s1)) ?_ (fun j32 hj32 => ?_)
  · intro s1 w_s1
    refine q_aload_n d_X5_keep_32 rfl ?_
    refine q_getR (n := 1) d_X5_keep_33 hA.1 fi_5_11 rfl (Nat.le_of_ble_eq_true rfl) ?_
    refine q_aload_n d_X5_keep_36 rfl ?_
    refine q_getI (k := 1) (j := 1) d_X5_keep_37 hA.1 fi_5_22 rfl rfl ?_
    refine q_aload_n d_X5_keep_40 rfl ?_
    refine q_getI (k := 2) (j := 2) d_X5_keep_41 hA.1 fi_5_18 rfl rfl ?_
    refine q_iadd d_X5_keep_44 ?_
    refine q_bipush d_X5_keep_45 rfl ?_
    refine q_irem d_X5_keep_47 (inr_wr _) (inr_d rfl) (fun g2 => ?_)
    refine q_aaload (m := 6) d_X5_keep_48 hA.2.1 (by decide) (by decide) rfl (fun g3 => ?_)
    refine q_aload_n d_X5_keep_49 rfl ?_
    refine q_callV (R' := R_X4_become) (runV (As := [vr κ a1]) (rest := []) d_X5_keep_50.1 cv_5_25 rfl (hA.2.2 _ (toNat_lt g3)).1 rfl rfl ⟨rfl, rfl, by decide, by decide⟩ (Nat.le_of_ble_eq_true rfl) w_s1 rfl) d_X5_keep_50.2 (c_X4_become κ ((a + 1) + 1 + 9 * (Int.tmod (wr ((s1 a 1) + (s1 a 2))) 6).toNat) (hA.2.2 _ (toNat_lt g3)) a1 hA1 s1) rfl (fun r4 s5 w_s5 => ?_)
    refine q_aload_n d_X5_keep_53 rfl ?_
    refine q_dup d_X5_keep_54 rfl ?_
    refine q_getI (k := 2) (j := 2) d_X5_keep_55 hA.1 fi_5_18 rfl rfl ?_
    refine q_iconst d_X5_keep_58 ?_
    refine q_iadd d_X5_keep_59 ?_
    refine q_putI (k := 2) (j := 2) d_X5_keep_60 hA.1 fp_5_18 rfl rfl (inr_wr _) w_s5 (fun s6 w_s6 => ?_)
    exact q_vret d_X5_keep_63 rfl w_s6
  refine q_icmp_ne d_X5_keep_6 (w_s0 _ _) (inr_d rfl) (fun c7 => ?_) (fun c7 => ?_)
  · refine q_aload_n d_X5_keep_9 rfl ?_
    refine q_aload_n d_X5_keep_10 rfl ?_
    refine q_getI (k := 1) (j := 1) d_X5_keep_11 hA.1 fi_5_22 rfl rfl ?_
    refine q_iconst d_X5_keep_14 ?_
    refine q_iadd d_X5_keep_15 ?_
    refine q_bipush d_X5_keep_16 rfl ?_
    refine q_irem d_X5_keep_18 (inr_wr _) (inr_d rfl) (fun g8 => ?_)
    refine q_putI (k := 1) (j := 1) d_X5_keep_19 hA.1 fp_5_22 rfl rfl (inr_tmod (inr_wr _) (inr_d rfl)) w_s0 (fun s9 w_s9 => ?_)
    refine q_aload_n d_X5_keep_22 rfl ?_
    refine q_dup d_X5_keep_23 rfl ?_
    refine q_getI (k := 2) (j := 2) d_X5_keep_24 hA.1 fi_5_18 rfl rfl ?_
    refine q_iconst d_X5_keep_27 ?_
    refine q_isub d_X5_keep_28 ?_
    refine q_putI (k := 2) (j := 2) d_X5_keep_29 hA.1 fp_5_18 rfl rfl (inr_wr _) w_s9 (fun s10 w_s10 => ?_)
    refine q_sub (ls' := [some (vr κ a), some (vr κ a1)]) ⟨rfl, rfl, trivial⟩ ?_
    exact hj32 s10 w_s10
  · refine q_sub (ls' := [some (vr κ a), some (vr κ a1)]) ⟨rfl, rfl, trivial⟩ ?_
    exact hj32 s0 w_s0

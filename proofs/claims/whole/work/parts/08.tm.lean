abbrev R_X4_has : Room := { frames := 0, cells := 0, slots := 0, locals := 0 }
noncomputable def f_X4_has (a : Nat) (x1 : Int) (s0 : Mem) : Res :=
  if x1 < 0 then (some (0, s0)) else (if x1 < s0 a 8 then (some (1, s0)) else (some (0, s0)))
set_option maxHeartbeats 4000000 in
set_option maxRecDepth 10000 in
theorem c_X4_has (κ : Kp) (a : Nat) (hA : At4 κ a) (x1 : Int) (h_x1 : InR x1) (s0 : Mem) : ∀ r σ', f_X4_has a x1 s0 = some (r, σ') → Ct κ M_X4_has R_X4_has [vr κ a, vi x1] s0 r σ' := by
  intro r σ' ho
  refine Ct.of (by decide) (Nat.le_of_ble_eq_true rfl) (cat_ok rfl) (fun w_s0 => ?_) ⟨rfl, rfl⟩
  refine q_ent (ls' := [some (vr κ a), some (vi x1)]) (o := f_X4_has a x1 s0) ⟨rfl, rfl, trivial⟩ ?_ ho
  unfold f_X4_has
  refine q_iload_n (x := x1) d_X4_has_0 rfl ?_
  refine q_if_lt d_X4_has_1 h_x1 (fun c1 => ?_) (fun c1 => ?_)
  · refine q_iconst d_X4_has_16 ?_
    exact q_iretz d_X4_has_17 rfl (Or.inl rfl) w_s0
  · refine q_iload_n (x := x1) d_X4_has_4 rfl ?_
    refine q_aload_n d_X4_has_5 rfl ?_
    refine q_getI d_X4_has_6 hA.1 fi_4_47 rfl ?_
    refine q_icmp_ge d_X4_has_9 h_x1 (w_s0 _ _) (fun c2 => ?_) (fun c2 => ?_)
    · refine q_iconst d_X4_has_12 ?_
      refine q_goto d_X4_has_13 ?_
      exact q_iretz d_X4_has_17 rfl (Or.inr rfl) w_s0
    · refine q_iconst d_X4_has_16 ?_
      exact q_iretz d_X4_has_17 rfl (Or.inl rfl) w_s0
abbrev R_X11_within : Room := { frames := 0, cells := 0, slots := 0, locals := 0 }
noncomputable def f_X11_within (x0 : Int) (x1 : Int) (x2 : Int) (s0 : Mem) : Res :=
  if x0 < x1 then (some (0, s0)) else (if x2 < x0 then (some (0, s0)) else (some (1, s0)))
set_option maxHeartbeats 4000000 in
set_option maxRecDepth 10000 in
theorem c_X11_within (κ : Kp) (x0 : Int) (h_x0 : InR x0) (x1 : Int) (h_x1 : InR x1) (x2 : Int) (h_x2 : InR x2) (s0 : Mem) : ∀ r σ', f_X11_within x0 x1 x2 s0 = some (r, σ') → Ct κ M_X11_within R_X11_within [vi x0, vi x1, vi x2] s0 r σ' := by
  intro r σ' ho
  refine Ct.of (by decide) (Nat.le_of_ble_eq_true rfl) (cat_ok rfl) (fun w_s0 => ?_) ⟨rfl, rfl⟩
  refine q_ent (ls' := [some (vi x0), some (vi x1), some (vi x2)]) (o := f_X11_within x0 x1 x2 s0) ⟨rfl, rfl, rfl, trivial⟩ ?_ ho
  unfold f_X11_within
  refine q_iload_n (x := x0) d_X11_within_0 rfl ?_
  refine q_iload_n (x := x1) d_X11_within_1 rfl ?_
  refine q_icmp_lt d_X11_within_2 h_x0 h_x1 (fun c1 => ?_) (fun c1 => ?_)
  · refine q_iconst d_X11_within_14 ?_
    exact q_iretz d_X11_within_15 rfl (Or.inl rfl) w_s0
  · refine q_iload_n (x := x0) d_X11_within_5 rfl ?_
    refine q_iload_n (x := x2) d_X11_within_6 rfl ?_
    refine q_icmp_gt d_X11_within_7 h_x0 h_x2 (fun c2 => ?_) (fun c2 => ?_)
    · refine q_iconst d_X11_within_14 ?_
      exact q_iretz d_X11_within_15 rfl (Or.inl rfl) w_s0
    · refine q_iconst d_X11_within_10 ?_
      refine q_goto d_X11_within_11 ?_
      exact q_iretz d_X11_within_15 rfl (Or.inr rfl) w_s0
abbrev R_X4_stuckIn : Room := { frames := 0, cells := 0, slots := 0, locals := 0 }
noncomputable def f_X4_stuckIn (a : Nat) (x1 : Int) (s0 : Mem) : Res :=
  gd (0 ≤ x1 ∧ x1 < 10) (gd (0 ≤ x1 ∧ x1 < 10) (some (wr ((s0 (a + 4) x1) + (s0 (a + 5) x1)), s0)))
set_option maxHeartbeats 4000000 in
set_option maxRecDepth 10000 in
theorem c_X4_stuckIn (κ : Kp) (a : Nat) (hA : At4 κ a) (x1 : Int) (h_x1 : InR x1) (s0 : Mem) : ∀ r σ', f_X4_stuckIn a x1 s0 = some (r, σ') → Ct κ M_X4_stuckIn R_X4_stuckIn [vr κ a, vi x1] s0 r σ' := by
  intro r σ' ho
  refine Ct.of (by decide) (Nat.le_of_ble_eq_true rfl) (cat_ok rfl) (fun w_s0 => ?_) ⟨rfl, rfl⟩
  refine q_ent (ls' := [some (vr κ a), some (vi x1)]) (o := f_X4_stuckIn a x1 s0) ⟨rfl, rfl, trivial⟩ ?_ ho
  unfold f_X4_stuckIn
  refine q_aload_n d_X4_stuckIn_0 rfl ?_
  refine q_getR (n := 4) d_X4_stuckIn_1 hA.1 fi_4_21 rfl (Nat.le_of_ble_eq_true rfl) ?_
  refine q_iload_n (x := x1) d_X4_stuckIn_4 rfl ?_
  refine q_iaload (m := 10) d_X4_stuckIn_5 hA.2.2.2.2.1 (by decide) rfl (fun g1 => ?_)
  refine q_aload_n d_X4_stuckIn_6 rfl ?_
  refine q_getR (n := 5) d_X4_stuckIn_7 hA.1 fi_4_24 rfl (Nat.le_of_ble_eq_true rfl) ?_
  refine q_iload_n (x := x1) d_X4_stuckIn_10 rfl ?_
  refine q_iaload (m := 10) d_X4_stuckIn_11 hA.2.2.2.2.2.1 (by decide) rfl (fun g2 => ?_)
  refine q_iadd d_X4_stuckIn_12 ?_
  exact q_ireti d_X4_stuckIn_13 rfl (inr_wr _) w_s0
abbrev R_X4_lean : Room := { frames := 1, cells := 0, slots := 0, locals := 30 }
noncomputable def f_X4_lean (a : Nat) (x1 : Int) (s0 : Mem) : Res :=
  gd (0 ≤ x1 ∧ x1 < 10) (gd (0 ≤ x1 ∧ x1 < 10) (some (mab (wr ((s0 (a + 4) x1) - (s0 (a + 5) x1))), s0)))
set_option maxHeartbeats 4000000 in
set_option maxRecDepth 10000 in
theorem c_X4_lean (κ : Kp) (a : Nat) (hA : At4 κ a) (x1 : Int) (h_x1 : InR x1) (s0 : Mem) : ∀ r σ', f_X4_lean a x1 s0 = some (r, σ') → Ct κ M_X4_lean R_X4_lean [vr κ a, vi x1] s0 r σ' := by
  intro r σ' ho
  refine Ct.of (by decide) (Nat.le_of_ble_eq_true rfl) (cat_ok rfl) (fun w_s0 => ?_) ⟨rfl, rfl⟩
  refine q_ent (ls' := [some (vr κ a), some (vi x1)]) (o := f_X4_lean a x1 s0) ⟨rfl, rfl, trivial⟩ ?_ ho
  unfold f_X4_lean
  refine q_aload_n d_X4_lean_0 rfl ?_
  refine q_getR (n := 4) d_X4_lean_1 hA.1 fi_4_21 rfl (Nat.le_of_ble_eq_true rfl) ?_
  refine q_iload_n (x := x1) d_X4_lean_4 rfl ?_
  refine q_iaload (m := 10) d_X4_lean_5 hA.2.2.2.2.1 (by decide) rfl (fun g1 => ?_)
  refine q_aload_n d_X4_lean_6 rfl ?_
  refine q_getR (n := 5) d_X4_lean_7 hA.1 fi_4_24 rfl (Nat.le_of_ble_eq_true rfl) ?_
  refine q_iload_n (x := x1) d_X4_lean_10 rfl ?_
  refine q_iaload (m := 10) d_X4_lean_11 hA.2.2.2.2.2.1 (by decide) rfl (fun g2 => ?_)
  refine q_isub d_X4_lean_12 ?_
  refine q_mabs d_X4_lean_13 cv_4_80 mw_abs ⟨by decide, Nat.le_of_ble_eq_true rfl⟩ (inr_wr _) ?_
  exact q_ireti d_X4_lean_16 rfl (inr_mab _) w_s0
abbrev R_X2_see : Room := { frames := 2, cells := 0, slots := 0, locals := 51 }
noncomputable def f_X2_see (a : Nat) (a1 : Nat) (x2 : Int) (s0 : Mem) : Res :=
  bd (f_X4_has a1 x2 s0) fun r1 s2 => gd (0 ≤ 0 ∧ 0 < 10) (lm (mup s2 (a + 5) 0 (s2 a1 11)) fun s4 => gd (0 ≤ 1 ∧ 1 < 10) (lm (mup s4 (a + 5) 1 (s4 a1 12)) fun s6 => gd (0 ≤ 2 ∧ 2 < 10) (lm (mup s6 (a + 5) 2 (s6 a1 10)) fun s8 => gd (24 ≠ 0) (gd (0 ≤ 7 ∧ 7 < 10) (lm (mup s8 (a + 5) 7 (Int.tmod (s8 a1 14) 24)) fun s11 => jn (fun y12 => jn (fun y13 s14 => gd (0 ≤ 3 ∧ 3 < 10) (lm (mup s14 (a + 5) 3 y13) fun s16 => jn (fun y17 => gd (0 ≤ 4 ∧ 4 < 10) (lm (mup s16 (a + 5) 4 y17) fun s19 => jn (fun y20 => gd (0 ≤ 5 ∧ 5 < 10) (lm (mup s19 (a + 5) 5 y20) fun s22 => gd (0 ≤ 6 ∧ 6 < 10) (lm (mup s22 (a + 5) 6 y12) fun s24 => jn (fun y25 s26 => gd (0 ≤ 8 ∧ 8 < 10) (lm (mup s26 (a + 5) 8 y25) fun s28 => jn (fun y29 s30 => gd (0 ≤ 9 ∧ 9 < 10) (lm (mup s30 (a + 5) 9 y29) fun s32 => some (0, s32))) fun j186 => if r1 = 0 then (j186 0 s28) else (bd (f_X4_lean a1 x2 s28) fun r34 s35 => j186 r34 s35))) fun j166 => if r1 = 0 then (j166 0 s24) else (bd (f_X4_stuckIn a1 x2 s24) fun r37 s38 => j166 r37 s38)))) fun j137 => if r1 = 0 then (j137 0) else (gd (0 ≤ x2 ∧ x2 < 10) (j137 (s19 (a1 + 2) x2))))) fun j117 => if r1 = 0 then (j117 0) else (gd (0 ≤ x2 ∧ x2 < 10) (j117 (s16 (a1 + 1) x2))))) fun j97 => jn (fun s43 => j97 0 s43) fun j96 => if r1 = 0 then (j96 s11) else (bd (f_X11_within y12 0 15 s11) fun r45 s46 => if r45 = 0 then (j96 s46) else (gd (0 ≤ y12 ∧ y12 < 16) (j97 (s46 (a1 + 8) y12) s46)))) fun j64 => if r1 = 0 then (j64 0) else (gd (0 ≤ x2 ∧ x2 < 10) (j64 (s11 (a1 + 3) x2))))))))
set_option maxHeartbeats 4000000 in
set_option maxRecDepth 10000 in
theorem c_X2_see (κ : Kp) (a : Nat) (hA : At2 κ a) (a1 : Nat) (hA1 : At4 κ a1) (x2 : Int) (h_x2 : InR x2) (s0 : Mem) : ∀ r σ', f_X2_see a a1 x2 s0 = some (r, σ') → Ct κ M_X2_see R_X2_see [vr κ a, vr κ a1, vi x2] s0 r σ' := by
  intro r σ' ho
  refine Ct.of (by decide) (Nat.le_of_ble_eq_true rfl) (cat_ok rfl) (fun w_s0 => ?_) ⟨rfl, rfl⟩
  refine q_ent (ls' := [some (vr κ a), some (vr κ a1), some (vi x2), none, none]) (o := f_X2_see a a1 x2 s0) ⟨rfl, rfl, rfl, trivial⟩ ?_ ho
  unfold f_X2_see
  refine q_aload_n d_X2_see_0 rfl ?_
  refine q_iload_n (x := x2) d_X2_see_1 rfl ?_
  refine q_callZ (R' := R_X4_has) (runV (As := [vi x2]) (rest := []) d_X2_see_2.1 cv_2_65 rfl hA1.1 rfl rfl ⟨rfl, rfl, by decide, by decide⟩ (Nat.le_of_ble_eq_true rfl) w_s0 rfl) d_X2_see_2.2 (c_X4_has κ a1 hA1 x2 h_x2 s0) rfl (fun r1 s2 h_r1 w_s2 => ?_)
  refine q_istore_n d_X2_see_5 rfl ?_
  refine q_aload_n d_X2_see_6 rfl ?_
  refine q_getR (n := 5) d_X2_see_7 hA.1 fi_2_24 rfl (Nat.le_of_ble_eq_true rfl) ?_
  refine q_iconst d_X2_see_10 ?_
  refine q_aload_n d_X2_see_11 rfl ?_
  refine q_getI d_X2_see_12 hA1.1 fi_2_71 rfl ?_
  refine q_iastore (m := 10) d_X2_see_15 hA.2.2.2.2.2.1 (by decide) rfl (w_s2 _ _) w_s2 (fun g3 s4 w_s4 => ?_)
  refine q_aload_n d_X2_see_16 rfl ?_
  refine q_getR (n := 5) d_X2_see_17 hA.1 fi_2_24 rfl (Nat.le_of_ble_eq_true rfl) ?_
  refine q_iconst d_X2_see_20 ?_
  refine q_aload_n d_X2_see_21 rfl ?_
  refine q_getI d_X2_see_22 hA1.1 fi_2_74 rfl ?_
  refine q_iastore (m := 10) d_X2_see_25 hA.2.2.2.2.2.1 (by decide) rfl (w_s4 _ _) w_s4 (fun g5 s6 w_s6 => ?_)
  refine q_aload_n d_X2_see_26 rfl ?_
  refine q_getR (n := 5) d_X2_see_27 hA.1 fi_2_24 rfl (Nat.le_of_ble_eq_true rfl) ?_
  refine q_iconst d_X2_see_30 ?_
  refine q_aload_n d_X2_see_31 rfl ?_
  refine q_getI d_X2_see_32 hA1.1 fi_2_77 rfl ?_
  refine q_iastore (m := 10) d_X2_see_35 hA.2.2.2.2.2.1 (by decide) rfl (w_s6 _ _) w_s6 (fun g7 s8 w_s8 => ?_)
  refine q_aload_n d_X2_see_36 rfl ?_
  refine q_getR (n := 5) d_X2_see_37 hA.1 fi_2_24 rfl (Nat.le_of_ble_eq_true rfl) ?_
  refine q_bipush d_X2_see_40 rfl ?_
  refine q_aload_n d_X2_see_42 rfl ?_
  refine q_getI d_X2_see_43 hA1.1 fi_2_80 rfl ?_
  refine q_bipush d_X2_see_46 rfl ?_
  refine q_irem d_X2_see_48 (w_s8 _ _) (inr_d rfl) (fun g9 => ?_)
  refine q_iastore (m := 10) d_X2_see_49 hA.2.2.2.2.2.1 (by decide) rfl (inr_tmod (w_s8 _ _) (inr_d rfl)) w_s8 (fun g10 s11 w_s11 => ?_)
  refine q_iload_n (x := r1) d_X2_see_50 rfl ?_
  refine q_jn (α := Int → Res) (fun j64 => ∀ (y12 : Int) (h_y12 : InR y12), EO κ M_X2_see R_X2_see 64 [some (vr κ a), some (vr κ a1), some (vi x2), some (vi r1), none] [vi y12] s11 (j64 y12)) ?_ (fun j64 hj64 => ?_)
  · intro y12 h_y12
    refine q_istore d_X2_see_64 rfl ?_
    refine q_aload_n d_X2_see_66 rfl ?_
    refine q_getR (n := 5) d_X2_see_67 hA.1 fi_2_24 rfl (Nat.le_of_ble_eq_true rfl) ?_
    refine q_iconst d_X2_see_70 ?_
    refine q_iload_n (x := r1) d_X2_see_71 rfl ?_
    refine q_jn (α := Int → Mem → Res) (fun j97 => ∀ (y13 : Int) (h_y13 : InR y13) (s14 : Mem) (w_s14 : WF s14), EO κ M_X2_see R_X2_see 97 [some (vr κ a), some (vr κ a1), some (vi x2), some (vi r1), some (vi y12)] [vi y13, vi 3, vr κ (a + 5)] s14 (j97 y13 s14)) ?_ (fun j97 hj97 => ?_)
    · intro y13 h_y13 s14 w_s14
      refine q_iastore (m := 10) d_X2_see_97 hA.2.2.2.2.2.1 (by decide) rfl h_y13 w_s14 (fun g15 s16 w_s16 => ?_)
      refine q_aload_n d_X2_see_98 rfl ?_
      refine q_getR (n := 5) d_X2_see_99 hA.1 fi_2_24 rfl (Nat.le_of_ble_eq_true rfl) ?_
      refine q_iconst d_X2_see_102 ?_
      refine q_iload_n (x := r1) d_X2_see_103 rfl ?_
      refine q_jn (α := Int → Res) (fun j117 => ∀ (y17 : Int) (h_y17 : InR y17), EO κ M_X2_see R_X2_see 117 [some (vr κ a), some (vr κ a1), some (vi x2), some (vi r1), some (vi y12)] [vi y17, vi 4, vr κ (a + 5)] s16 (j117 y17)) ?_ (fun j117 hj117 => ?_)
      · intro y17 h_y17
        refine q_iastore (m := 10) d_X2_see_117 hA.2.2.2.2.2.1 (by decide) rfl h_y17 w_s16 (fun g18 s19 w_s19 => ?_)
        refine q_aload_n d_X2_see_118 rfl ?_
        refine q_getR (n := 5) d_X2_see_119 hA.1 fi_2_24 rfl (Nat.le_of_ble_eq_true rfl) ?_
        refine q_iconst d_X2_see_122 ?_
        refine q_iload_n (x := r1) d_X2_see_123 rfl ?_
        refine q_jn (α := Int → Res) (fun j137 => ∀ (y20 : Int) (h_y20 : InR y20), EO κ M_X2_see R_X2_see 137 [some (vr κ a), some (vr κ a1), some (vi x2), some (vi r1), some (vi y12)] [vi y20, vi 5, vr κ (a + 5)] s19 (j137 y20)) ?_ (fun j137 hj137 => ?_)
        · intro y20 h_y20
          refine q_iastore (m := 10) d_X2_see_137 hA.2.2.2.2.2.1 (by decide) rfl h_y20 w_s19 (fun g21 s22 w_s22 => ?_)
          refine q_aload_n d_X2_see_138 rfl ?_
          refine q_getR (n := 5) d_X2_see_139 hA.1 fi_2_24 rfl (Nat.le_of_ble_eq_true rfl) ?_
          refine q_bipush d_X2_see_142 rfl ?_
          refine q_iload (x := y12) d_X2_see_144 rfl ?_
          refine q_iastore (m := 10) d_X2_see_146 hA.2.2.2.2.2.1 (by decide) rfl h_y12 w_s22 (fun g23 s24 w_s24 => ?_)
          refine q_aload_n d_X2_see_147 rfl ?_
          refine q_getR (n := 5) d_X2_see_148 hA.1 fi_2_24 rfl (Nat.le_of_ble_eq_true rfl) ?_
          refine q_bipush d_X2_see_151 rfl ?_
          refine q_iload_n (x := r1) d_X2_see_153 rfl ?_
          refine q_jn (α := Int → Mem → Res) (fun j166 => ∀ (y25 : Int) (h_y25 : InR y25) (s26 : Mem) (w_s26 : WF s26), EO κ M_X2_see R_X2_see 166 [some (vr κ a), some (vr κ a1), some (vi x2), some (vi r1), none] [vi y25, vi 8, vr κ (a + 5)] s26 (j166 y25 s26)) ?_ (fun j166 hj166 => ?_)
          · intro y25 h_y25 s26 w_s26
            refine q_iastore (m := 10) d_X2_see_166 hA.2.2.2.2.2.1 (by decide) rfl h_y25 w_s26 (fun g27 s28 w_s28 => ?_)
            refine q_aload_n d_X2_see_167 rfl ?_
            refine q_getR (n := 5) d_X2_see_168 hA.1 fi_2_24 rfl (Nat.le_of_ble_eq_true rfl) ?_
            refine q_bipush d_X2_see_171 rfl ?_
            refine q_iload_n (x := r1) d_X2_see_173 rfl ?_
            refine q_jn (α := Int → Mem → Res) (fun j186 => ∀ (y29 : Int) (h_y29 : InR y29) (s30 : Mem) (w_s30 : WF s30), EO κ M_X2_see R_X2_see 186 [none, none, none, none, none] [vi y29, vi 9, vr κ (a + 5)] s30 (j186 y29 s30)) ?_ (fun j186 hj186 => ?_)
            · intro y29 h_y29 s30 w_s30
              refine q_iastore (m := 10) d_X2_see_186 hA.2.2.2.2.2.1 (by decide) rfl h_y29 w_s30 (fun g31 s32 w_s32 => ?_)
              exact q_vret d_X2_see_187 rfl w_s32
            refine q_if_eq d_X2_see_174 (inr_b h_r1) (fun c33 => ?_) (fun c33 => ?_)
            · refine q_iconst d_X2_see_185 ?_
              refine q_sub (ls' := [none, none, none, none, none]) trivial ?_
              exact hj186 0 (inr_b (Or.inl rfl)) s28 w_s28
            · refine q_aload_n d_X2_see_177 rfl ?_
              refine q_iload_n (x := x2) d_X2_see_178 rfl ?_
              refine q_callI (R' := R_X4_lean) (runV (As := [vi x2]) (rest := [vi 9, vr κ (a + 5)]) d_X2_see_179.1 cv_2_102 rfl hA1.1 rfl rfl ⟨rfl, rfl, by decide, by decide⟩ (Nat.le_of_ble_eq_true rfl) w_s28 rfl) d_X2_see_179.2 (c_X4_lean κ a1 hA1 x2 h_x2 s28) rfl (fun r34 s35 h_r34 w_s35 => ?_)
              refine q_goto d_X2_see_182 ?_
              refine q_sub (ls' := [none, none, none, none, none]) trivial ?_
              exact hj186 r34 h_r34 s35 w_s35
          refine q_if_eq d_X2_see_154 (inr_b h_r1) (fun c36 => ?_) (fun c36 => ?_)
          · refine q_iconst d_X2_see_165 ?_
            refine q_sub (ls' := [some (vr κ a), some (vr κ a1), some (vi x2), some (vi r1), none]) ⟨rfl, rfl, rfl, rfl, trivial⟩ ?_
            exact hj166 0 (inr_b (Or.inl rfl)) s24 w_s24
          · refine q_aload_n d_X2_see_157 rfl ?_
            refine q_iload_n (x := x2) d_X2_see_158 rfl ?_
            refine q_callI (R' := R_X4_stuckIn) (runV (As := [vi x2]) (rest := [vi 8, vr κ (a + 5)]) d_X2_see_159.1 cv_2_99 rfl hA1.1 rfl rfl ⟨rfl, rfl, by decide, by decide⟩ (Nat.le_of_ble_eq_true rfl) w_s24 rfl) d_X2_see_159.2 (c_X4_stuckIn κ a1 hA1 x2 h_x2 s24) rfl (fun r37 s38 h_r37 w_s38 => ?_)
            refine q_goto d_X2_see_162 ?_
            refine q_sub (ls' := [some (vr κ a), some (vr κ a1), some (vi x2), some (vi r1), none]) ⟨rfl, rfl, rfl, rfl, trivial⟩ ?_
            exact hj166 r37 h_r37 s38 w_s38
        refine q_if_eq d_X2_see_124 (inr_b h_r1) (fun c39 => ?_) (fun c39 => ?_)
        · refine q_iconst d_X2_see_136 ?_
          refine q_sub (ls' := [some (vr κ a), some (vr κ a1), some (vi x2), some (vi r1), some (vi y12)]) ⟨rfl, rfl, rfl, rfl, rfl, trivial⟩ ?_
          exact hj137 0 (inr_b (Or.inl rfl))
        · refine q_aload_n d_X2_see_127 rfl ?_
          refine q_getR (n := 2) d_X2_see_128 hA1.1 fi_2_96 rfl (Nat.le_of_ble_eq_true rfl) ?_
          refine q_iload_n (x := x2) d_X2_see_131 rfl ?_
          refine q_iaload (m := 10) d_X2_see_132 hA1.2.2.1 (by decide) rfl (fun g40 => ?_)
          refine q_goto d_X2_see_133 ?_
          refine q_sub (ls' := [some (vr κ a), some (vr κ a1), some (vi x2), some (vi r1), some (vi y12)]) ⟨rfl, rfl, rfl, rfl, rfl, trivial⟩ ?_
          exact hj137 (s19 (a1 + 2) x2) (w_s19 _ _)
      refine q_if_eq d_X2_see_104 (inr_b h_r1) (fun c41 => ?_) (fun c41 => ?_)
      · refine q_iconst d_X2_see_116 ?_
        refine q_sub (ls' := [some (vr κ a), some (vr κ a1), some (vi x2), some (vi r1), some (vi y12)]) ⟨rfl, rfl, rfl, rfl, rfl, trivial⟩ ?_
        exact hj117 0 (inr_b (Or.inl rfl))
      · refine q_aload_n d_X2_see_107 rfl ?_
        refine q_getR (n := 1) d_X2_see_108 hA1.1 fi_2_93 rfl (Nat.le_of_ble_eq_true rfl) ?_
        refine q_iload_n (x := x2) d_X2_see_111 rfl ?_
        refine q_iaload (m := 10) d_X2_see_112 hA1.2.1 (by decide) rfl (fun g42 => ?_)
        refine q_goto d_X2_see_113 ?_
        refine q_sub (ls' := [some (vr κ a), some (vr κ a1), some (vi x2), some (vi r1), some (vi y12)]) ⟨rfl, rfl, rfl, rfl, rfl, trivial⟩ ?_
        exact hj117 (s16 (a1 + 1) x2) (w_s16 _ _)
    refine q_jn (α := Mem → Res) (fun j96 => ∀ (s43 : Mem) (w_s43 : WF s43), EO κ M_X2_see R_X2_see 96 [some (vr κ a), some (vr κ a1), some (vi x2), some (vi r1), some (vi y12)] [vi 3, vr κ (a + 5)] s43 (j96 s43)) ?_ (fun j96 hj96 => ?_)
    · intro s43 w_s43
      refine q_iconst d_X2_see_96 ?_
      refine q_sub (ls' := [some (vr κ a), some (vr κ a1), some (vi x2), some (vi r1), some (vi y12)]) ⟨rfl, rfl, rfl, rfl, rfl, trivial⟩ ?_
      exact hj97 0 (inr_b (Or.inl rfl)) s43 w_s43
    refine q_if_eq d_X2_see_72 (inr_b h_r1) (fun c44 => ?_) (fun c44 => ?_)
    · refine q_sub (ls' := [some (vr κ a), some (vr κ a1), some (vi x2), some (vi r1), some (vi y12)]) ⟨rfl, rfl, rfl, rfl, rfl, trivial⟩ ?_
      exact hj96 s11 w_s11
    · refine q_iload (x := y12) d_X2_see_75 rfl ?_
      refine q_iconst d_X2_see_77 ?_
      refine q_bipush d_X2_see_78 rfl ?_
      refine q_callZ (R' := R_X11_within) (runN (As := [vi y12, vi 0, vi 15]) (rest := [vi 3, vr κ (a + 5)]) d_X2_see_80.1 cv_2_86 rfl ⟨rfl, rfl, by decide, by decide⟩ (Nat.le_of_ble_eq_true rfl) w_s11 rfl) d_X2_see_80.2 (c_X11_within κ y12 h_y12 0 (inr_b (Or.inl rfl)) 15 (inr_d rfl) s11) rfl (fun r45 s46 h_r45 w_s46 => ?_)
      refine q_if_eq d_X2_see_83 (inr_b h_r45) (fun c47 => ?_) (fun c47 => ?_)
      · refine q_sub (ls' := [some (vr κ a), some (vr κ a1), some (vi x2), some (vi r1), some (vi y12)]) ⟨rfl, rfl, rfl, rfl, rfl, trivial⟩ ?_
        exact hj96 s46 w_s46
      · refine q_aload_n d_X2_see_86 rfl ?_
        refine q_getR (n := 8) d_X2_see_87 hA1.1 fi_2_90 rfl (Nat.le_of_ble_eq_true rfl) ?_
        refine q_iload (x := y12) d_X2_see_90 rfl ?_
        refine q_iaload (m := 16) d_X2_see_92 hA1.2.2.2.2.2.2.2.2 (by decide) rfl (fun g48 => ?_)
        refine q_goto d_X2_see_93 ?_
        refine q_sub (ls' := [some (vr κ a), some (vr κ a1), some (vi x2), some (vi r1), some (vi y12)]) ⟨rfl, rfl, rfl, rfl, rfl, trivial⟩ ?_
        exact hj97 (s46 (a1 + 8) y12) (w_s46 _ _) s46 w_s46
  refine q_if_eq d_X2_see_51 (inr_b h_r1) (fun c49 => ?_) (fun c49 => ?_)
  · refine q_iconst d_X2_see_63 ?_
    refine q_sub (ls' := [some (vr κ a), some (vr κ a1), some (vi x2), some (vi r1), none]) ⟨rfl, rfl, rfl, rfl, trivial⟩ ?_
    exact hj64 0 (inr_b (Or.inl rfl))
  · refine q_aload_n d_X2_see_54 rfl ?_
    refine q_getR (n := 3) d_X2_see_55 hA1.1 fi_2_83 rfl (Nat.le_of_ble_eq_true rfl) ?_
    refine q_iload_n (x := x2) d_X2_see_58 rfl ?_
    refine q_iaload (m := 10) d_X2_see_59 hA1.2.2.2.1 (by decide) rfl (fun g50 => ?_)
    refine q_goto d_X2_see_60 ?_
    refine q_sub (ls' := [some (vr κ a), some (vr κ a1), some (vi x2), some (vi r1), none]) ⟨rfl, rfl, rfl, rfl, trivial⟩ ?_
    exact hj64 (s11 (a1 + 3) x2) (w_s11 _ _)
abbrev R_X2_unsaid : Room := { frames := 0, cells := 0, slots := 0, locals := 0 }
noncomputable def f_X2_unsaid (a : Nat) (x1 : Int) (s0 : Mem) : Res :=
  if x1 = 10 then (gd (0 ≤ 3 ∧ 3 < 10) (gd (0 ≤ 0 ∧ 0 < 10) (some (wr ((s0 (a + 5) 3) - (wr (2 * (s0 (a + 5) 0)))), s0)))) else (if x1 = 11 then (gd (0 ≤ 4 ∧ 4 < 10) (some (wr (40 + (s0 (a + 5) 4)), s0))) else (if x1 = 12 then (gd (0 ≤ 4 ∧ 4 < 10) (some (wr (10 * (s0 (a + 5) 4)), s0))) else (some (5, s0))))
set_option maxHeartbeats 4000000 in
set_option maxRecDepth 10000 in
theorem c_X2_unsaid (κ : Kp) (a : Nat) (hA : At2 κ a) (x1 : Int) (h_x1 : InR x1) (s0 : Mem) : ∀ r σ', f_X2_unsaid a x1 s0 = some (r, σ') → Ct κ M_X2_unsaid R_X2_unsaid [vr κ a, vi x1] s0 r σ' := by
  intro r σ' ho
  refine Ct.of (by decide) (Nat.le_of_ble_eq_true rfl) (cat_ok rfl) (fun w_s0 => ?_) ⟨rfl, rfl⟩
  refine q_ent (ls' := [some (vr κ a), some (vi x1)]) (o := f_X2_unsaid a x1 s0) ⟨rfl, rfl, trivial⟩ ?_ ho
  unfold f_X2_unsaid
  refine q_iload_n (x := x1) d_X2_unsaid_0 rfl ?_
  refine q_ite (fun c1 => ?_) (fun c1 => ?_)
  · refine q_tswC (tgt := 28) d_X2_unsaid_1 h_x1 c1 (by decide) (by decide) rfl (by decide) ?_
    refine q_aload_n d_X2_unsaid_28 rfl ?_
    refine q_getR (n := 5) d_X2_unsaid_29 hA.1 fi_2_24 rfl (Nat.le_of_ble_eq_true rfl) ?_
    refine q_iconst d_X2_unsaid_32 ?_
    refine q_iaload (m := 10) d_X2_unsaid_33 hA.2.2.2.2.2.1 (by decide) rfl (fun g2 => ?_)
    refine q_iconst d_X2_unsaid_34 ?_
    refine q_aload_n d_X2_unsaid_35 rfl ?_
    refine q_getR (n := 5) d_X2_unsaid_36 hA.1 fi_2_24 rfl (Nat.le_of_ble_eq_true rfl) ?_
    refine q_iconst d_X2_unsaid_39 ?_
    refine q_iaload (m := 10) d_X2_unsaid_40 hA.2.2.2.2.2.1 (by decide) rfl (fun g3 => ?_)
    refine q_imul d_X2_unsaid_41 ?_
    refine q_isub d_X2_unsaid_42 ?_
    exact q_ireti d_X2_unsaid_43 rfl (inr_wr _) w_s0
  refine q_ite (fun c4 => ?_) (fun c4 => ?_)
  · refine q_tswC (tgt := 44) d_X2_unsaid_1 h_x1 c4 (by decide) (by decide) rfl (by decide) ?_
    refine q_bipush d_X2_unsaid_44 rfl ?_
    refine q_aload_n d_X2_unsaid_46 rfl ?_
    refine q_getR (n := 5) d_X2_unsaid_47 hA.1 fi_2_24 rfl (Nat.le_of_ble_eq_true rfl) ?_
    refine q_iconst d_X2_unsaid_50 ?_
    refine q_iaload (m := 10) d_X2_unsaid_51 hA.2.2.2.2.2.1 (by decide) rfl (fun g5 => ?_)
    refine q_iadd d_X2_unsaid_52 ?_
    exact q_ireti d_X2_unsaid_53 rfl (inr_wr _) w_s0
  refine q_ite (fun c6 => ?_) (fun c6 => ?_)
  · refine q_tswC (tgt := 54) d_X2_unsaid_1 h_x1 c6 (by decide) (by decide) rfl (by decide) ?_
    refine q_bipush d_X2_unsaid_54 rfl ?_
    refine q_aload_n d_X2_unsaid_56 rfl ?_
    refine q_getR (n := 5) d_X2_unsaid_57 hA.1 fi_2_24 rfl (Nat.le_of_ble_eq_true rfl) ?_
    refine q_iconst d_X2_unsaid_60 ?_
    refine q_iaload (m := 10) d_X2_unsaid_61 hA.2.2.2.2.2.1 (by decide) rfl (fun g7 => ?_)
    refine q_imul d_X2_unsaid_62 ?_
    exact q_ireti d_X2_unsaid_63 rfl (inr_wr _) w_s0
  refine q_tswD (tgt := 64) d_X2_unsaid_1 h_x1 (by omega) (by decide) ?_
  refine q_iconst d_X2_unsaid_64 ?_
  exact q_ireti d_X2_unsaid_65 rfl (inr_d rfl) w_s0
abbrev R_X2_asked : Room := { frames := 0, cells := 0, slots := 0, locals := 0 }
noncomputable def f_X2_asked (a : Nat) (x1 : Int) (s0 : Mem) : Res :=
  if x1 < 0 then (some (0, s0)) else (if x1 < 10 then (gd (0 ≤ x1 ∧ x1 < 10) (some (s0 (a + 5) x1, s0))) else (some (0, s0)))
set_option maxHeartbeats 4000000 in
set_option maxRecDepth 10000 in
theorem c_X2_asked (κ : Kp) (a : Nat) (hA : At2 κ a) (x1 : Int) (h_x1 : InR x1) (s0 : Mem) : ∀ r σ', f_X2_asked a x1 s0 = some (r, σ') → Ct κ M_X2_asked R_X2_asked [vr κ a, vi x1] s0 r σ' := by
  intro r σ' ho
  refine Ct.of (by decide) (Nat.le_of_ble_eq_true rfl) (cat_ok rfl) (fun w_s0 => ?_) ⟨rfl, rfl⟩
  refine q_ent (ls' := [some (vr κ a), some (vi x1)]) (o := f_X2_asked a x1 s0) ⟨rfl, rfl, trivial⟩ ?_ ho
  unfold f_X2_asked
  refine q_iload_n (x := x1) d_X2_asked_0 rfl ?_
  refine q_if_lt d_X2_asked_1 h_x1 (fun c1 => ?_) (fun c1 => ?_)
  · refine q_iconst d_X2_asked_19 ?_
    exact q_ireti d_X2_asked_20 rfl (inr_b (Or.inl rfl)) w_s0
  · refine q_iload_n (x := x1) d_X2_asked_4 rfl ?_
    refine q_bipush d_X2_asked_5 rfl ?_
    refine q_icmp_ge d_X2_asked_7 h_x1 (inr_d rfl) (fun c2 => ?_) (fun c2 => ?_)
    · refine q_aload_n d_X2_asked_10 rfl ?_
      refine q_getR (n := 5) d_X2_asked_11 hA.1 fi_2_24 rfl (Nat.le_of_ble_eq_true rfl) ?_
      refine q_iload_n (x := x1) d_X2_asked_14 rfl ?_
      refine q_iaload (m := 10) d_X2_asked_15 hA.2.2.2.2.2.1 (by decide) rfl (fun g3 => ?_)
      refine q_goto d_X2_asked_16 ?_
      exact q_ireti d_X2_asked_20 rfl (w_s0 _ _) w_s0
    · refine q_iconst d_X2_asked_19 ?_
      exact q_ireti d_X2_asked_20 rfl (inr_b (Or.inl rfl)) w_s0
abbrev R_X2_joined : Room := { frames := 0, cells := 0, slots := 0, locals := 0 }
noncomputable def f_X2_joined (x0 : Int) (x1 : Int) (x2 : Int) (s0 : Mem) : Res :=
  if x0 = 15 then (some (ior x1 x2, s0)) else (if x0 = 42 then (some (wr (x1 * x2), s0)) else (if x0 = 43 then (some (wr (x1 + x2), s0)) else (if x0 = 45 then (some (wr (x1 - x2), s0)) else (if x0 = 47 then (if x2 = 0 then (some (0, s0)) else (gd (x2 ≠ 0) (some (wr (Int.tdiv x1 x2), s0)))) else (if x0 = 60 then (if x1 < x2 then (some (1, s0)) else (some (0, s0))) else (if x0 = 61 then (if x1 = x2 then (some (1, s0)) else (some (0, s0))) else (if x0 = 62 then (if x2 < x1 then (some (1, s0)) else (some (0, s0))) else (some (iand x1 x2, s0)))))))))
set_option maxHeartbeats 4000000 in
set_option maxRecDepth 10000 in
theorem c_X2_joined (κ : Kp) (x0 : Int) (h_x0 : InR x0) (x1 : Int) (h_x1 : InR x1) (x2 : Int) (h_x2 : InR x2) (s0 : Mem) : ∀ r σ', f_X2_joined x0 x1 x2 s0 = some (r, σ') → Ct κ M_X2_joined R_X2_joined [vi x0, vi x1, vi x2] s0 r σ' := by
  intro r σ' ho
  refine Ct.of (by decide) (Nat.le_of_ble_eq_true rfl) (cat_ok rfl) (fun w_s0 => ?_) ⟨rfl, rfl⟩
  refine q_ent (ls' := [some (vi x0), some (vi x1), some (vi x2)]) (o := f_X2_joined x0 x1 x2 s0) ⟨rfl, rfl, rfl, trivial⟩ ?_ ho
  unfold f_X2_joined
  refine q_iload_n (x := x0) d_X2_joined_0 rfl ?_
  refine q_ite (fun c1 => ?_) (fun c1 => ?_)
  · refine q_lsw (tgt := 133) (off := 132) d_X2_joined_1 h_x0 (by decide) (by rw [c1]; rfl) (by decide) ?_
    refine q_iload_n (x := x1) d_X2_joined_133 rfl ?_
    refine q_iload_n (x := x2) d_X2_joined_134 rfl ?_
    refine q_ior d_X2_joined_135 ?_
    exact q_ireti d_X2_joined_136 rfl (inr_i32 _) w_s0
  refine q_ite (fun c2 => ?_) (fun c2 => ?_)
  · refine q_lsw (tgt := 84) (off := 83) d_X2_joined_1 h_x0 (by decide) (by rw [c2]; rfl) (by decide) ?_
    refine q_iload_n (x := x1) d_X2_joined_84 rfl ?_
    refine q_iload_n (x := x2) d_X2_joined_85 rfl ?_
    refine q_imul d_X2_joined_86 ?_
    exact q_ireti d_X2_joined_87 rfl (inr_wr _) w_s0
  refine q_ite (fun c3 => ?_) (fun c3 => ?_)
  · refine q_lsw (tgt := 76) (off := 75) d_X2_joined_1 h_x0 (by decide) (by rw [c3]; rfl) (by decide) ?_
    refine q_iload_n (x := x1) d_X2_joined_76 rfl ?_
    refine q_iload_n (x := x2) d_X2_joined_77 rfl ?_
    refine q_iadd d_X2_joined_78 ?_
    exact q_ireti d_X2_joined_79 rfl (inr_wr _) w_s0
  refine q_ite (fun c4 => ?_) (fun c4 => ?_)
  · refine q_lsw (tgt := 80) (off := 79) d_X2_joined_1 h_x0 (by decide) (by rw [c4]; rfl) (by decide) ?_
    refine q_iload_n (x := x1) d_X2_joined_80 rfl ?_
    refine q_iload_n (x := x2) d_X2_joined_81 rfl ?_
    refine q_isub d_X2_joined_82 ?_
    exact q_ireti d_X2_joined_83 rfl (inr_wr _) w_s0
  refine q_ite (fun c5 => ?_) (fun c5 => ?_)
  · refine q_lsw (tgt := 88) (off := 87) d_X2_joined_1 h_x0 (by decide) (by rw [c5]; rfl) (by decide) ?_
    refine q_iload_n (x := x2) d_X2_joined_88 rfl ?_
    refine q_if_ne d_X2_joined_89 h_x2 (fun c6 => ?_) (fun c6 => ?_)
    · refine q_iconst d_X2_joined_92 ?_
      refine q_goto d_X2_joined_93 ?_
      exact q_ireti d_X2_joined_99 rfl (inr_b (Or.inl rfl)) w_s0
    · refine q_iload_n (x := x1) d_X2_joined_96 rfl ?_
      refine q_iload_n (x := x2) d_X2_joined_97 rfl ?_
      refine q_idiv d_X2_joined_98 h_x1 h_x2 (fun g7 => ?_)
      exact q_ireti d_X2_joined_99 rfl (inr_wr _) w_s0
  refine q_ite (fun c8 => ?_) (fun c8 => ?_)
  · refine q_lsw (tgt := 100) (off := 99) d_X2_joined_1 h_x0 (by decide) (by rw [c8]; rfl) (by decide) ?_
    refine q_iload_n (x := x1) d_X2_joined_100 rfl ?_
    refine q_iload_n (x := x2) d_X2_joined_101 rfl ?_
    refine q_icmp_ge d_X2_joined_102 h_x1 h_x2 (fun c9 => ?_) (fun c9 => ?_)
    · refine q_iconst d_X2_joined_105 ?_
      refine q_goto d_X2_joined_106 ?_
      exact q_ireti d_X2_joined_110 rfl (inr_b (Or.inr rfl)) w_s0
    · refine q_iconst d_X2_joined_109 ?_
      exact q_ireti d_X2_joined_110 rfl (inr_b (Or.inl rfl)) w_s0
  refine q_ite (fun c10 => ?_) (fun c10 => ?_)
  · refine q_lsw (tgt := 111) (off := 110) d_X2_joined_1 h_x0 (by decide) (by rw [c10]; rfl) (by decide) ?_
    refine q_iload_n (x := x1) d_X2_joined_111 rfl ?_
    refine q_iload_n (x := x2) d_X2_joined_112 rfl ?_
    refine q_icmp_ne d_X2_joined_113 h_x1 h_x2 (fun c11 => ?_) (fun c11 => ?_)
    · refine q_iconst d_X2_joined_116 ?_
      refine q_goto d_X2_joined_117 ?_
      exact q_ireti d_X2_joined_121 rfl (inr_b (Or.inr rfl)) w_s0
    · refine q_iconst d_X2_joined_120 ?_
      exact q_ireti d_X2_joined_121 rfl (inr_b (Or.inl rfl)) w_s0
  refine q_ite (fun c12 => ?_) (fun c12 => ?_)
  · refine q_lsw (tgt := 122) (off := 121) d_X2_joined_1 h_x0 (by decide) (by rw [c12]; rfl) (by decide) ?_
    refine q_iload_n (x := x1) d_X2_joined_122 rfl ?_
    refine q_iload_n (x := x2) d_X2_joined_123 rfl ?_
    refine q_icmp_le d_X2_joined_124 h_x1 h_x2 (fun c13 => ?_) (fun c13 => ?_)
    · refine q_iconst d_X2_joined_127 ?_
      refine q_goto d_X2_joined_128 ?_
      exact q_ireti d_X2_joined_132 rfl (inr_b (Or.inr rfl)) w_s0
    · refine q_iconst d_X2_joined_131 ?_
      exact q_ireti d_X2_joined_132 rfl (inr_b (Or.inl rfl)) w_s0
  refine q_lsw (tgt := 137) (off := 136) d_X2_joined_1 h_x0 (by decide) (by
    show Op.lookupswitch.offset [(15, 132), (42, 83), (43, 75), (45, 79), (47, 87), (60, 99), (61, 110), (62, 121)] 136 x0 = 136
    rw [Op.lookupswitch.offset_cons, if_neg (fun q => c1 q.symm), Op.lookupswitch.offset_cons, if_neg (fun q => c2 q.symm), Op.lookupswitch.offset_cons, if_neg (fun q => c3 q.symm), Op.lookupswitch.offset_cons, if_neg (fun q => c4 q.symm), Op.lookupswitch.offset_cons, if_neg (fun q => c5 q.symm), Op.lookupswitch.offset_cons, if_neg (fun q => c8 q.symm), Op.lookupswitch.offset_cons, if_neg (fun q => c10 q.symm), Op.lookupswitch.offset_cons, if_neg (fun q => c12 q.symm), Op.lookupswitch.offset_nil]) (by decide) ?_
  refine q_iload_n (x := x1) d_X2_joined_137 rfl ?_
  refine q_iload_n (x := x2) d_X2_joined_138 rfl ?_
  refine q_iand d_X2_joined_139 ?_
  exact q_ireti d_X2_joined_140 rfl (inr_i32 _) w_s0
abbrev R_X2_value : Room := { frames := 1, cells := 0, slots := 0, locals := 22 }
noncomputable def f_X2_value_12 (a : Nat) (p2 : Int) : Nat → Int → Int → Mem → Res
  | 0, _, _, _ => none
  | n + 1, x3, x4, s0 =>
    if x4 < p2 then (if x4 < 400 then (gd (0 ≤ x4 ∧ x4 < 400) (jn (fun v6 s7 => f_X2_value_12 a p2 n v6 (wr (x4 + 1)) s7) fun j161 => if s0 (a + 4) x4 < 20000 then (if x3 < 32 then (jn (fun y10 s11 => gd (0 ≤ x3 ∧ x3 < 32) (lm (mup s11 (a + 6) x3 y10) fun s13 => j161 (wr (x3 + 1)) s13)) fun j82 => if s0 (a + 4) x4 < 10000 then (j82 (s0 (a + 4) x4) s0) else (bd (f_X2_asked a (wr ((s0 (a + 4) x4) - 10000)) s0) fun r15 s16 => j82 r15 s16)) else (j161 x3 s0)) else (if s0 (a + 4) x4 = 20017 then (if 0 < x3 then (gd (0 ≤ wr (x3 - 1) ∧ wr (x3 - 1) < 32) (gd (0 ≤ wr (x3 - 1) ∧ wr (x3 - 1) < 32) (lm (mup s0 (a + 6) (wr (x3 - 1)) (wr (1 - (s0 (a + 6) (wr (x3 - 1)))))) fun s21 => j161 x3 s21))) else (j161 x3 s0)) else (if 1 < x3 then (gd (0 ≤ wr ((wr (x3 + (-1))) - 1) ∧ wr ((wr (x3 + (-1))) - 1) < 32) (gd (0 ≤ wr (x3 + (-1)) ∧ wr (x3 + (-1)) < 32) (bd (f_X2_joined (wr ((s0 (a + 4) x4) - 20000)) (s0 (a + 6) (wr ((wr (x3 + (-1))) - 1))) (s0 (a + 6) (wr (x3 + (-1)))) s0) fun r25 s26 => gd (0 ≤ wr ((wr (x3 + (-1))) - 1) ∧ wr ((wr (x3 + (-1))) - 1) < 32) (lm (mup s26 (a + 6) (wr ((wr (x3 + (-1))) - 1)) r25) fun s28 => j161 (wr (x3 + (-1))) s28)))) else (j161 x3 s0))))) else (gd (0 ≤ 0 ∧ 0 < 32) (some (s0 (a + 6) 0, s0)))) else (gd (0 ≤ 0 ∧ 0 < 32) (some (s0 (a + 6) 0, s0)))
noncomputable def f_X2_value (a : Nat) (x1 : Int) (x2 : Int) (s0 : Mem) : Res :=
  gd (0 ≤ 0 ∧ 0 < 32) (lm (mup s0 (a + 6) 0 0) fun s2 => f_X2_value_12 a x2 FU 0 x1 s2)
set_option maxHeartbeats 4000000 in
set_option maxRecDepth 10000 in
theorem l_X2_value_12 (κ : Kp) (a : Nat) (hA : At2 κ a) (p2 : Int) (h_p2 : InR p2)   : ∀ (n : Nat) (x3 : Int) (h_x3 : InR x3) (x4 : Int) (h_x4 : InR x4) (s0 : Mem) (w_s0 : WF s0), EO κ M_X2_value R_X2_value 12 [some (vr κ a), none, some (vi p2), some (vi x3), some (vi x4), none] [] s0 (f_X2_value_12 a p2 n x3 x4 s0) := by
  intro n
  induction n with
  | zero => exact fun _ _ _ _ _ _ => q_none
  | succ n ih =>
    intro x3 h_x3 x4 h_x4 s0 w_s0
    rw [f_X2_value_12]
    refine q_iload (x := x4) d_X2_value_12 rfl ?_
    refine q_iload_n (x := p2) d_X2_value_14 rfl ?_
    refine q_icmp_ge d_X2_value_15 h_x4 h_p2 (fun c3 => ?_) (fun c3 => ?_)
    · refine q_iload (x := x4) d_X2_value_18 rfl ?_
      refine q_aload_n d_X2_value_20 rfl ?_
      refine q_getR (n := 4) d_X2_value_21 hA.1 fi_2_21 rfl (Nat.le_of_ble_eq_true rfl) ?_
      refine q_alen (m := 400) d_X2_value_24 hA.2.2.2.2.1 rfl ?_
      refine q_icmp_ge d_X2_value_25 h_x4 (inr_d rfl) (fun c4 => ?_) (fun c4 => ?_)
      · refine q_aload_n d_X2_value_28 rfl ?_
        refine q_getR (n := 4) d_X2_value_29 hA.1 fi_2_21 rfl (Nat.le_of_ble_eq_true rfl) ?_
        refine q_iload (x := x4) d_X2_value_32 rfl ?_
        refine q_iaload (m := 400) d_X2_value_34 hA.2.2.2.2.1 (by decide) rfl (fun g5 => ?_)
        refine q_istore d_X2_value_35 rfl ?_
        refine q_iload (x := s0 (a + 4) x4) d_X2_value_37 rfl ?_
        refine q_sipush d_X2_value_39 rfl ?_
        refine q_jn (α := Int → Mem → Res) (fun j161 => ∀ (v6 : Int) (h_v6 : InR v6) (s7 : Mem) (w_s7 : WF s7), EO κ M_X2_value R_X2_value 161 [some (vr κ a), none, some (vi p2), some (vi v6), some (vi x4), none] [] s7 (j161 v6 s7)) ?_ (fun j161 hj161 => ?_)
        · intro v6 h_v6 s7 w_s7
          refine q_iinc (x := x4) d_X2_value_161 rfl rfl ?_
          refine q_goto d_X2_value_164 ?_
          refine q_sub (ls' := [some (vr κ a), none, some (vi p2), some (vi v6), some (vi (wr (x4 + 1))), none]) ⟨rfl, rfl, rfl, rfl, trivial⟩ ?_
          exact ih v6 h_v6 (wr (x4 + 1)) (inr_wr _) s7 w_s7
        refine q_icmp_ge d_X2_value_42 (w_s0 _ _) (inr_d rfl) (fun c8 => ?_) (fun c8 => ?_)
        · refine q_iload_n (x := x3) d_X2_value_45 rfl ?_
          refine q_aload_n d_X2_value_46 rfl ?_
          refine q_getR (n := 6) d_X2_value_47 hA.1 fi_2_27 rfl (Nat.le_of_ble_eq_true rfl) ?_
          refine q_alen (m := 32) d_X2_value_50 hA.2.2.2.2.2.2 rfl ?_
          refine q_icmp_ge d_X2_value_51 h_x3 (inr_d rfl) (fun c9 => ?_) (fun c9 => ?_)
          · refine q_aload_n d_X2_value_54 rfl ?_
            refine q_getR (n := 6) d_X2_value_55 hA.1 fi_2_27 rfl (Nat.le_of_ble_eq_true rfl) ?_
            refine q_iload_n (x := x3) d_X2_value_58 rfl ?_
            refine q_iload (x := s0 (a + 4) x4) d_X2_value_59 rfl ?_
            refine q_sipush d_X2_value_61 rfl ?_
            refine q_jn (α := Int → Mem → Res) (fun j82 => ∀ (y10 : Int) (h_y10 : InR y10) (s11 : Mem) (w_s11 : WF s11), EO κ M_X2_value R_X2_value 82 [some (vr κ a), none, some (vi p2), some (vi x3), some (vi x4), none] [vi y10, vi x3, vr κ (a + 6)] s11 (j82 y10 s11)) ?_ (fun j82 hj82 => ?_)
            · intro y10 h_y10 s11 w_s11
              refine q_iastore (m := 32) d_X2_value_82 hA.2.2.2.2.2.2 (by decide) rfl h_y10 w_s11 (fun g12 s13 w_s13 => ?_)
              refine q_iinc (x := x3) d_X2_value_83 rfl rfl ?_
              refine q_goto d_X2_value_86 ?_
              refine q_sub (ls' := [some (vr κ a), none, some (vi p2), some (vi (wr (x3 + 1))), some (vi x4), none]) ⟨rfl, rfl, rfl, rfl, trivial⟩ ?_
              exact hj161 (wr (x3 + 1)) (inr_wr _) s13 w_s13
            refine q_icmp_ge d_X2_value_64 (w_s0 _ _) (inr_d rfl) (fun c14 => ?_) (fun c14 => ?_)
            · refine q_iload (x := s0 (a + 4) x4) d_X2_value_67 rfl ?_
              refine q_goto d_X2_value_69 ?_
              refine q_sub (ls' := [some (vr κ a), none, some (vi p2), some (vi x3), some (vi x4), none]) ⟨rfl, rfl, rfl, rfl, trivial⟩ ?_
              exact hj82 (s0 (a + 4) x4) (w_s0 _ _) s0 w_s0
            · refine q_aload_n d_X2_value_72 rfl ?_
              refine q_iload (x := s0 (a + 4) x4) d_X2_value_73 rfl ?_
              refine q_sipush d_X2_value_75 rfl ?_
              refine q_isub d_X2_value_78 ?_
              refine q_callI (R' := R_X2_asked) (runV (As := [vi (wr ((s0 (a + 4) x4) - 10000))]) (rest := [vi x3, vr κ (a + 6)]) d_X2_value_79.1 cv_2_105 rfl hA.1 rfl rfl ⟨rfl, rfl, by decide, by decide⟩ (Nat.le_of_ble_eq_true rfl) w_s0 rfl) d_X2_value_79.2 (c_X2_asked κ a hA (wr ((s0 (a + 4) x4) - 10000)) (inr_wr _) s0) rfl (fun r15 s16 h_r15 w_s16 => ?_)
              refine q_sub (ls' := [some (vr κ a), none, some (vi p2), some (vi x3), some (vi x4), none]) ⟨rfl, rfl, rfl, rfl, trivial⟩ ?_
              exact hj82 r15 h_r15 s16 w_s16
          · refine q_sub (ls' := [some (vr κ a), none, some (vi p2), some (vi x3), some (vi x4), none]) ⟨rfl, rfl, rfl, rfl, trivial⟩ ?_
            exact hj161 x3 h_x3 s0 w_s0
        · refine q_iload (x := s0 (a + 4) x4) d_X2_value_89 rfl ?_
          refine q_sipush d_X2_value_91 rfl ?_
          refine q_icmp_ne d_X2_value_94 (w_s0 _ _) (inr_d rfl) (fun c17 => ?_) (fun c17 => ?_)
          · refine q_iload_n (x := x3) d_X2_value_97 rfl ?_
            refine q_if_le d_X2_value_98 h_x3 (fun c18 => ?_) (fun c18 => ?_)
            · refine q_aload_n d_X2_value_101 rfl ?_
              refine q_getR (n := 6) d_X2_value_102 hA.1 fi_2_27 rfl (Nat.le_of_ble_eq_true rfl) ?_
              refine q_iload_n (x := x3) d_X2_value_105 rfl ?_
              refine q_iconst d_X2_value_106 ?_
              refine q_isub d_X2_value_107 ?_
              refine q_iconst d_X2_value_108 ?_
              refine q_aload_n d_X2_value_109 rfl ?_
              refine q_getR (n := 6) d_X2_value_110 hA.1 fi_2_27 rfl (Nat.le_of_ble_eq_true rfl) ?_
              refine q_iload_n (x := x3) d_X2_value_113 rfl ?_
              refine q_iconst d_X2_value_114 ?_
              refine q_isub d_X2_value_115 ?_
              refine q_iaload (m := 32) d_X2_value_116 hA.2.2.2.2.2.2 (by decide) rfl (fun g19 => ?_)
              refine q_isub d_X2_value_117 ?_
              refine q_iastore (m := 32) d_X2_value_118 hA.2.2.2.2.2.2 (by decide) rfl (inr_wr _) w_s0 (fun g20 s21 w_s21 => ?_)
              refine q_goto d_X2_value_119 ?_
              refine q_sub (ls' := [some (vr κ a), none, some (vi p2), some (vi x3), some (vi x4), none]) ⟨rfl, rfl, rfl, rfl, trivial⟩ ?_
              exact hj161 x3 h_x3 s21 w_s21
            · refine q_sub (ls' := [some (vr κ a), none, some (vi p2), some (vi x3), some (vi x4), none]) ⟨rfl, rfl, rfl, rfl, trivial⟩ ?_
              exact hj161 x3 h_x3 s0 w_s0
          · refine q_iload_n (x := x3) d_X2_value_122 rfl ?_
            refine q_iconst d_X2_value_123 ?_
            refine q_icmp_le d_X2_value_124 h_x3 (inr_b (Or.inr rfl)) (fun c22 => ?_) (fun c22 => ?_)
            · refine q_iinc (x := x3) d_X2_value_127 rfl rfl ?_
              refine q_aload_n d_X2_value_130 rfl ?_
              refine q_getR (n := 6) d_X2_value_131 hA.1 fi_2_27 rfl (Nat.le_of_ble_eq_true rfl) ?_
              refine q_iload_n (x := wr (x3 + (-1))) d_X2_value_134 rfl ?_
              refine q_iconst d_X2_value_135 ?_
              refine q_isub d_X2_value_136 ?_
              refine q_iload (x := s0 (a + 4) x4) d_X2_value_137 rfl ?_
              refine q_sipush d_X2_value_139 rfl ?_
              refine q_isub d_X2_value_142 ?_
              refine q_aload_n d_X2_value_143 rfl ?_
              refine q_getR (n := 6) d_X2_value_144 hA.1 fi_2_27 rfl (Nat.le_of_ble_eq_true rfl) ?_
              refine q_iload_n (x := wr (x3 + (-1))) d_X2_value_147 rfl ?_
              refine q_iconst d_X2_value_148 ?_
              refine q_isub d_X2_value_149 ?_
              refine q_iaload (m := 32) d_X2_value_150 hA.2.2.2.2.2.2 (by decide) rfl (fun g23 => ?_)
              refine q_aload_n d_X2_value_151 rfl ?_
              refine q_getR (n := 6) d_X2_value_152 hA.1 fi_2_27 rfl (Nat.le_of_ble_eq_true rfl) ?_
              refine q_iload_n (x := wr (x3 + (-1))) d_X2_value_155 rfl ?_
              refine q_iaload (m := 32) d_X2_value_156 hA.2.2.2.2.2.2 (by decide) rfl (fun g24 => ?_)
              refine q_callI (R' := R_X2_joined) (runS (As := [vi (wr ((s0 (a + 4) x4) - 20000)), vi (s0 (a + 6) (wr ((wr (x3 + (-1))) - 1))), vi (s0 (a + 6) (wr (x3 + (-1))))]) (rest := [vi (wr ((wr (x3 + (-1))) - 1)), vr κ (a + 6)]) d_X2_value_157.1 cv_2_108 rfl ⟨rfl, rfl, by decide, by decide⟩ (Nat.le_of_ble_eq_true rfl) w_s0 rfl) d_X2_value_157.2 (c_X2_joined κ (wr ((s0 (a + 4) x4) - 20000)) (inr_wr _) (s0 (a + 6) (wr ((wr (x3 + (-1))) - 1))) (w_s0 _ _) (s0 (a + 6) (wr (x3 + (-1)))) (w_s0 _ _) s0) rfl (fun r25 s26 h_r25 w_s26 => ?_)
              refine q_iastore (m := 32) d_X2_value_160 hA.2.2.2.2.2.2 (by decide) rfl h_r25 w_s26 (fun g27 s28 w_s28 => ?_)
              refine q_sub (ls' := [some (vr κ a), none, some (vi p2), some (vi (wr (x3 + (-1)))), some (vi x4), none]) ⟨rfl, rfl, rfl, rfl, trivial⟩ ?_
              exact hj161 (wr (x3 + (-1))) (inr_wr _) s28 w_s28
            · refine q_sub (ls' := [some (vr κ a), none, some (vi p2), some (vi x3), some (vi x4), none]) ⟨rfl, rfl, rfl, rfl, trivial⟩ ?_
              exact hj161 x3 h_x3 s0 w_s0
      · refine q_aload_n d_X2_value_167 rfl ?_
        refine q_getR (n := 6) d_X2_value_168 hA.1 fi_2_27 rfl (Nat.le_of_ble_eq_true rfl) ?_
        refine q_iconst d_X2_value_171 ?_
        refine q_iaload (m := 32) d_X2_value_172 hA.2.2.2.2.2.2 (by decide) rfl (fun g29 => ?_)
        exact q_ireti d_X2_value_173 rfl (w_s0 _ _) w_s0
    · refine q_aload_n d_X2_value_167 rfl ?_
      refine q_getR (n := 6) d_X2_value_168 hA.1 fi_2_27 rfl (Nat.le_of_ble_eq_true rfl) ?_
      refine q_iconst d_X2_value_171 ?_
      refine q_iaload (m := 32) d_X2_value_172 hA.2.2.2.2.2.2 (by decide) rfl (fun g30 => ?_)
      exact q_ireti d_X2_value_173 rfl (w_s0 _ _) w_s0
set_option maxHeartbeats 4000000 in
set_option maxRecDepth 10000 in
theorem c_X2_value (κ : Kp) (a : Nat) (hA : At2 κ a) (x1 : Int) (h_x1 : InR x1) (x2 : Int) (h_x2 : InR x2) (s0 : Mem) : ∀ r σ', f_X2_value a x1 x2 s0 = some (r, σ') → Ct κ M_X2_value R_X2_value [vr κ a, vi x1, vi x2] s0 r σ' := by
  intro r σ' ho
  refine Ct.of (by decide) (Nat.le_of_ble_eq_true rfl) (cat_ok rfl) (fun w_s0 => ?_) ⟨rfl, rfl⟩
  refine q_ent (ls' := [some (vr κ a), some (vi x1), some (vi x2), none, none, none]) (o := f_X2_value a x1 x2 s0) ⟨rfl, rfl, rfl, trivial⟩ ?_ ho
  unfold f_X2_value
  refine q_iconst d_X2_value_0 ?_
  refine q_istore_n d_X2_value_1 rfl ?_
  refine q_aload_n d_X2_value_2 rfl ?_
  refine q_getR (n := 6) d_X2_value_3 hA.1 fi_2_27 rfl (Nat.le_of_ble_eq_true rfl) ?_
  refine q_iconst d_X2_value_6 ?_
  refine q_iconst d_X2_value_7 ?_
  refine q_iastore (m := 32) d_X2_value_8 hA.2.2.2.2.2.2 (by decide) rfl (inr_b (Or.inl rfl)) w_s0 (fun g1 s2 w_s2 => ?_)
  refine q_iload_n (x := x1) d_X2_value_9 rfl ?_
  refine q_istore d_X2_value_10 rfl ?_
  refine q_sub (ls' := [some (vr κ a), none, some (vi x2), some (vi 0), some (vi x1), none]) ⟨rfl, rfl, rfl, rfl, trivial⟩ ?_
  exact l_X2_value_12 κ a hA x2 h_x2   FU 0 (inr_b (Or.inl rfl)) x1 h_x1 s2 w_s2
abbrev R_X2_held : Room := { frames := 1, cells := 0, slots := 0, locals := 30 }
noncomputable def f_X2_held (x0 : Int) (x1 : Int) (x2 : Int) (s0 : Mem) : Res :=
  some (mmx x1 (mmn x2 x0), s0)
set_option maxHeartbeats 4000000 in
set_option maxRecDepth 10000 in
theorem c_X2_held (κ : Kp) (x0 : Int) (h_x0 : InR x0) (x1 : Int) (h_x1 : InR x1) (x2 : Int) (h_x2 : InR x2) (s0 : Mem) : ∀ r σ', f_X2_held x0 x1 x2 s0 = some (r, σ') → Ct κ M_X2_held R_X2_held [vi x0, vi x1, vi x2] s0 r σ' := by
  intro r σ' ho
  refine Ct.of (by decide) (Nat.le_of_ble_eq_true rfl) (cat_ok rfl) (fun w_s0 => ?_) ⟨rfl, rfl⟩
  refine q_ent (ls' := [some (vi x0), some (vi x1), some (vi x2)]) (o := f_X2_held x0 x1 x2 s0) ⟨rfl, rfl, rfl, trivial⟩ ?_ ho
  unfold f_X2_held
  refine q_iload_n (x := x1) d_X2_held_0 rfl ?_
  refine q_iload_n (x := x2) d_X2_held_1 rfl ?_
  refine q_iload_n (x := x0) d_X2_held_2 rfl ?_
  refine q_mmin d_X2_held_3 cv_2_57 mw_min ⟨by decide, Nat.le_of_ble_eq_true rfl⟩ h_x2 h_x0 ?_
  refine q_mmax d_X2_held_6 cv_2_62 mw_max ⟨by decide, Nat.le_of_ble_eq_true rfl⟩ h_x1 (inr_mmn h_x2 h_x0) ?_
  exact q_ireti d_X2_held_9 rfl (inr_mmx h_x1 (inr_mmn h_x2 h_x0)) w_s0
abbrev R_X2_tells : Room := { frames := 3, cells := 0, slots := 0, locals := 75 }
noncomputable def f_X2_tells_19 (a : Nat) (p1 : Int) (p4 : Int) (k110 : Int → Mem → Res) (k77 : Int → Int → Mem → Res) : Nat → Int → Int → Mem → Res
  | 0, _, _, _ => none
  | n + 1, x5, x6, s0 =>
    if x6 < s0 a 4 then (gd (0 ≤ x6 ∧ x6 < 16) (jn (fun s23 => gd (0 ≤ x6 ∧ x6 < 16) (f_X2_tells_19 a p1 p4 k110 k77 n (s23 (a + 3) x6) (wr (x6 + 1)) s23)) fun j95 => if s0 (a + 1) x6 = p1 then (gd (0 ≤ x6 ∧ x6 < 16) (gd (0 ≤ x6 ∧ x6 < 16) (if s0 (a + 2) x6 = s0 (a + 3) x6 then (k77 x5 x6 s0) else (gd (0 ≤ x6 ∧ x6 < 16) (gd (0 ≤ x6 ∧ x6 < 16) (bd (f_X2_value a (s0 (a + 2) x6) (s0 (a + 3) x6) s0) fun r31 s32 => if r31 = 0 then (j95 s32) else (k77 x5 x6 s32))))))) else (j95 s0))) else (k110 p4 s0)
noncomputable def f_X2_tells (a : Nat) (x1 : Int) (a2 : Nat) (x3 : Int) (s0 : Mem) : Res :=
  bd (f_X2_see a a2 x3 s0) fun r1 s2 => bd (f_X2_unsaid a x1 s2) fun r3 s4 => jn (fun v5 s6 => if x1 = 11 then (bd (f_X2_held v5 0 100 s6) fun r8 s9 => some (r8, s9)) else (if x1 = 12 then (bd (f_X2_held v5 1 999 s6) fun r11 s12 => some (r11, s12)) else (bd (f_X2_held v5 0 99 s6) fun r13 s14 => some (r13, s14)))) fun j110 => jn (fun v15 v16 s17 => gd (0 ≤ v16 ∧ v16 < 16) (bd (f_X2_value a v15 (s17 (a + 2) v16) s17) fun r19 s20 => j110 r19 s20)) fun j77 => f_X2_tells_19 a x1 r3 j110 j77 FU 0 0 s4
set_option maxHeartbeats 4000000 in
set_option maxRecDepth 10000 in
theorem l_X2_tells_19 (κ : Kp) (a : Nat) (hA : At2 κ a) (p1 : Int) (h_p1 : InR p1) (p4 : Int) (h_p4 : InR p4) (k110 : Int → Mem → Res) (k77 : Int → Int → Mem → Res) (hk110 : ∀ (z4 : Int) (h_z4 : InR z4) (sz : Mem) (w_sz : WF sz), EO κ M_X2_tells R_X2_tells 110 [none, some (vi p1), none, none, some (vi z4), none, none] [] sz (k110 z4 sz)) (hk77 : ∀ (z5 : Int) (h_z5 : InR z5) (z6 : Int) (h_z6 : InR z6) (sz : Mem) (w_sz : WF sz), EO κ M_X2_tells R_X2_tells 77 [some (vr κ a), some (vi p1), none, none, none, some (vi z5), some (vi z6)] [] sz (k77 z5 z6 sz)) : ∀ (n : Nat) (x5 : Int) (h_x5 : InR x5) (x6 : Int) (h_x6 : InR x6) (s0 : Mem) (w_s0 : WF s0), EO κ M_X2_tells R_X2_tells 19 [some (vr κ a), some (vi p1), none, none, some (vi p4), some (vi x5), some (vi x6)] [] s0 (f_X2_tells_19 a p1 p4 k110 k77 n x5 x6 s0) := by
  intro n
  induction n with
  | zero => exact fun _ _ _ _ _ _ => q_none
  | succ n ih =>
    intro x5 h_x5 x6 h_x6 s0 w_s0
    rw [f_X2_tells_19]
    refine q_iload (x := x6) d_X2_tells_19 rfl ?_
    refine q_aload_n d_X2_tells_21 rfl ?_
    refine q_getI d_X2_tells_22 hA.1 fi_2_34 rfl ?_
    refine q_icmp_ge d_X2_tells_25 h_x6 (w_s0 _ _) (fun c21 => ?_) (fun c21 => ?_)
    · refine q_aload_n d_X2_tells_28 rfl ?_
      refine q_getR (n := 1) d_X2_tells_29 hA.1 fi_2_9 rfl (Nat.le_of_ble_eq_true rfl) ?_
      refine q_iload (x := x6) d_X2_tells_32 rfl ?_
      refine q_iaload (m := 16) d_X2_tells_34 hA.2.1 (by decide) rfl (fun g22 => ?_)
      refine q_iload_n (x := p1) d_X2_tells_35 rfl ?_
      refine q_jn (α := Mem → Res) (fun j95 => ∀ (s23 : Mem) (w_s23 : WF s23), EO κ M_X2_tells R_X2_tells 95 [some (vr κ a), some (vi p1), none, none, some (vi p4), none, some (vi x6)] [] s23 (j95 s23)) ?_ (fun j95 hj95 => ?_)
      · intro s23 w_s23
        refine q_aload_n d_X2_tells_95 rfl ?_
        refine q_getR (n := 3) d_X2_tells_96 hA.1 fi_2_18 rfl (Nat.le_of_ble_eq_true rfl) ?_
        refine q_iload (x := x6) d_X2_tells_99 rfl ?_
        refine q_iaload (m := 16) d_X2_tells_101 hA.2.2.2.1 (by decide) rfl (fun g24 => ?_)
        refine q_istore d_X2_tells_102 rfl ?_
        refine q_iinc (x := x6) d_X2_tells_104 rfl rfl ?_
        refine q_goto d_X2_tells_107 ?_
        refine q_sub (ls' := [some (vr κ a), some (vi p1), none, none, some (vi p4), some (vi (s23 (a + 3) x6)), some (vi (wr (x6 + 1)))]) ⟨rfl, rfl, rfl, rfl, rfl, trivial⟩ ?_
        exact ih (s23 (a + 3) x6) (w_s23 _ _) (wr (x6 + 1)) (inr_wr _) s23 w_s23
      refine q_icmp_ne d_X2_tells_36 (w_s0 _ _) h_p1 (fun c25 => ?_) (fun c25 => ?_)
      · refine q_aload_n d_X2_tells_39 rfl ?_
        refine q_getR (n := 2) d_X2_tells_40 hA.1 fi_2_15 rfl (Nat.le_of_ble_eq_true rfl) ?_
        refine q_iload (x := x6) d_X2_tells_43 rfl ?_
        refine q_iaload (m := 16) d_X2_tells_45 hA.2.2.1 (by decide) rfl (fun g26 => ?_)
        refine q_aload_n d_X2_tells_46 rfl ?_
        refine q_getR (n := 3) d_X2_tells_47 hA.1 fi_2_18 rfl (Nat.le_of_ble_eq_true rfl) ?_
        refine q_iload (x := x6) d_X2_tells_50 rfl ?_
        refine q_iaload (m := 16) d_X2_tells_52 hA.2.2.2.1 (by decide) rfl (fun g27 => ?_)
        refine q_icmp_eq d_X2_tells_53 (w_s0 _ _) (w_s0 _ _) (fun c28 => ?_) (fun c28 => ?_)
        · refine q_sub (ls' := [some (vr κ a), some (vi p1), none, none, none, some (vi x5), some (vi x6)]) ⟨rfl, rfl, rfl, rfl, trivial⟩ ?_
          exact hk77 x5 h_x5 x6 h_x6 s0 w_s0
        · refine q_aload_n d_X2_tells_56 rfl ?_
          refine q_aload_n d_X2_tells_57 rfl ?_
          refine q_getR (n := 2) d_X2_tells_58 hA.1 fi_2_15 rfl (Nat.le_of_ble_eq_true rfl) ?_
          refine q_iload (x := x6) d_X2_tells_61 rfl ?_
          refine q_iaload (m := 16) d_X2_tells_63 hA.2.2.1 (by decide) rfl (fun g29 => ?_)
          refine q_aload_n d_X2_tells_64 rfl ?_
          refine q_getR (n := 3) d_X2_tells_65 hA.1 fi_2_18 rfl (Nat.le_of_ble_eq_true rfl) ?_
          refine q_iload (x := x6) d_X2_tells_68 rfl ?_
          refine q_iaload (m := 16) d_X2_tells_70 hA.2.2.2.1 (by decide) rfl (fun g30 => ?_)
          refine q_callI (R' := R_X2_value) (runV (As := [vi (s0 (a + 2) x6), vi (s0 (a + 3) x6)]) (rest := []) d_X2_tells_71.1 cv_2_49 rfl hA.1 rfl rfl ⟨rfl, rfl, by decide, by decide⟩ (Nat.le_of_ble_eq_true rfl) w_s0 rfl) d_X2_tells_71.2 (c_X2_value κ a hA (s0 (a + 2) x6) (w_s0 _ _) (s0 (a + 3) x6) (w_s0 _ _) s0) rfl (fun r31 s32 h_r31 w_s32 => ?_)
          refine q_if_eq d_X2_tells_74 h_r31 (fun c33 => ?_) (fun c33 => ?_)
          · refine q_sub (ls' := [some (vr κ a), some (vi p1), none, none, some (vi p4), none, some (vi x6)]) ⟨rfl, rfl, rfl, rfl, trivial⟩ ?_
            exact hj95 s32 w_s32
          · refine q_sub (ls' := [some (vr κ a), some (vi p1), none, none, none, some (vi x5), some (vi x6)]) ⟨rfl, rfl, rfl, rfl, trivial⟩ ?_
            exact hk77 x5 h_x5 x6 h_x6 s32 w_s32
      · refine q_sub (ls' := [some (vr κ a), some (vi p1), none, none, some (vi p4), none, some (vi x6)]) ⟨rfl, rfl, rfl, rfl, trivial⟩ ?_
        exact hj95 s0 w_s0
    · refine q_sub (ls' := [none, some (vi p1), none, none, some (vi p4), none, none]) ⟨rfl, rfl, trivial⟩ ?_
      exact hk110 p4 h_p4 s0 w_s0
set_option maxHeartbeats 4000000 in
set_option maxRecDepth 10000 in
theorem c_X2_tells (κ : Kp) (a : Nat) (hA : At2 κ a) (x1 : Int) (h_x1 : InR x1) (a2 : Nat) (hA2 : At4 κ a2) (x3 : Int) (h_x3 : InR x3) (s0 : Mem) : ∀ r σ', f_X2_tells a x1 a2 x3 s0 = some (r, σ') → Ct κ M_X2_tells R_X2_tells [vr κ a, vi x1, vr κ a2, vi x3] s0 r σ' := by
  intro r σ' ho
  refine Ct.of (by decide) (Nat.le_of_ble_eq_true rfl) (cat_ok rfl) (fun w_s0 => ?_) ⟨rfl, rfl⟩
  refine q_ent (ls' := [some (vr κ a), some (vi x1), some (vr κ a2), some (vi x3), none, none, none]) (o := f_X2_tells a x1 a2 x3 s0) ⟨rfl, rfl, rfl, rfl, trivial⟩ ?_ ho
  unfold f_X2_tells
  refine q_aload_n d_X2_tells_0 rfl ?_
  refine q_aload_n d_X2_tells_1 rfl ?_
  refine q_iload_n (x := x3) d_X2_tells_2 rfl ?_
  refine q_callV (R' := R_X2_see) (runV (As := [vr κ a2, vi x3]) (rest := []) d_X2_tells_3.1 cv_2_41 rfl hA.1 rfl rfl ⟨rfl, rfl, by decide, by decide⟩ (Nat.le_of_ble_eq_true rfl) w_s0 rfl) d_X2_tells_3.2 (c_X2_see κ a hA a2 hA2 x3 h_x3 s0) rfl (fun r1 s2 w_s2 => ?_)
  refine q_aload_n d_X2_tells_6 rfl ?_
  refine q_iload_n (x := x1) d_X2_tells_7 rfl ?_
  refine q_callI (R' := R_X2_unsaid) (runV (As := [vi x1]) (rest := []) d_X2_tells_8.1 cv_2_45 rfl hA.1 rfl rfl ⟨rfl, rfl, by decide, by decide⟩ (Nat.le_of_ble_eq_true rfl) w_s2 rfl) d_X2_tells_8.2 (c_X2_unsaid κ a hA x1 h_x1 s2) rfl (fun r3 s4 h_r3 w_s4 => ?_)
  refine q_istore d_X2_tells_11 rfl ?_
  refine q_iconst d_X2_tells_13 ?_
  refine q_istore d_X2_tells_14 rfl ?_
  refine q_iconst d_X2_tells_16 ?_
  refine q_istore d_X2_tells_17 rfl ?_
  refine q_jn (α := Int → Mem → Res) (fun j110 => ∀ (v5 : Int) (h_v5 : InR v5) (s6 : Mem) (w_s6 : WF s6), EO κ M_X2_tells R_X2_tells 110 [none, some (vi x1), none, none, some (vi v5), none, none] [] s6 (j110 v5 s6)) ?_ (fun j110 hj110 => ?_)
  · intro v5 h_v5 s6 w_s6
    refine q_iload_n (x := x1) d_X2_tells_110 rfl ?_
    refine q_ite (fun c7 => ?_) (fun c7 => ?_)
    · refine q_lsw (tgt := 136) (off := 25) d_X2_tells_111 h_x1 (by decide) (by rw [c7]; rfl) (by decide) ?_
      refine q_iload (x := v5) d_X2_tells_136 rfl ?_
      refine q_iconst d_X2_tells_138 ?_
      refine q_bipush d_X2_tells_139 rfl ?_
      refine q_callI (R' := R_X2_held) (runS (As := [vi v5, vi 0, vi 100]) (rest := []) d_X2_tells_141.1 cv_2_53 rfl ⟨rfl, rfl, by decide, by decide⟩ (Nat.le_of_ble_eq_true rfl) w_s6 rfl) d_X2_tells_141.2 (c_X2_held κ v5 h_v5 0 (inr_b (Or.inl rfl)) 100 (inr_d rfl) s6) rfl (fun r8 s9 h_r8 w_s9 => ?_)
      exact q_ireti d_X2_tells_144 rfl h_r8 w_s9
    refine q_ite (fun c10 => ?_) (fun c10 => ?_)
    · refine q_lsw (tgt := 145) (off := 34) d_X2_tells_111 h_x1 (by decide) (by rw [c10]; rfl) (by decide) ?_
      refine q_iload (x := v5) d_X2_tells_145 rfl ?_
      refine q_iconst d_X2_tells_147 ?_
      refine q_sipush d_X2_tells_148 rfl ?_
      refine q_callI (R' := R_X2_held) (runS (As := [vi v5, vi 1, vi 999]) (rest := []) d_X2_tells_151.1 cv_2_53 rfl ⟨rfl, rfl, by decide, by decide⟩ (Nat.le_of_ble_eq_true rfl) w_s6 rfl) d_X2_tells_151.2 (c_X2_held κ v5 h_v5 1 (inr_b (Or.inr rfl)) 999 (inr_d rfl) s6) rfl (fun r11 s12 h_r11 w_s12 => ?_)
      exact q_ireti d_X2_tells_154 rfl h_r11 w_s12
    refine q_lsw (tgt := 155) (off := 44) d_X2_tells_111 h_x1 (by decide) (by
    show Op.lookupswitch.offset [(11, 25), (12, 34)] 44 x1 = 44
    rw [Op.lookupswitch.offset_cons, if_neg (fun q => c7 q.symm), Op.lookupswitch.offset_cons, if_neg (fun q => c10 q.symm), Op.lookupswitch.offset_nil]) (by decide) ?_
    refine q_iload (x := v5) d_X2_tells_155 rfl ?_
    refine q_iconst d_X2_tells_157 ?_
    refine q_bipush d_X2_tells_158 rfl ?_
    refine q_callI (R' := R_X2_held) (runS (As := [vi v5, vi 0, vi 99]) (rest := []) d_X2_tells_160.1 cv_2_53 rfl ⟨rfl, rfl, by decide, by decide⟩ (Nat.le_of_ble_eq_true rfl) w_s6 rfl) d_X2_tells_160.2 (c_X2_held κ v5 h_v5 0 (inr_b (Or.inl rfl)) 99 (inr_d rfl) s6) rfl (fun r13 s14 h_r13 w_s14 => ?_)
    exact q_ireti d_X2_tells_163 rfl h_r13 w_s14
  refine q_jn (α := Int → Int → Mem → Res) (fun j77 => ∀ (v15 : Int) (h_v15 : InR v15) (v16 : Int) (h_v16 : InR v16) (s17 : Mem) (w_s17 : WF s17), EO κ M_X2_tells R_X2_tells 77 [some (vr κ a), some (vi x1), none, none, none, some (vi v15), some (vi v16)] [] s17 (j77 v15 v16 s17)) ?_ (fun j77 hj77 => ?_)
  · intro v15 h_v15 v16 h_v16 s17 w_s17
    refine q_aload_n d_X2_tells_77 rfl ?_
    refine q_iload (x := v15) d_X2_tells_78 rfl ?_
    refine q_aload_n d_X2_tells_80 rfl ?_
    refine q_getR (n := 2) d_X2_tells_81 hA.1 fi_2_15 rfl (Nat.le_of_ble_eq_true rfl) ?_
    refine q_iload (x := v16) d_X2_tells_84 rfl ?_
    refine q_iaload (m := 16) d_X2_tells_86 hA.2.2.1 (by decide) rfl (fun g18 => ?_)
    refine q_callI (R' := R_X2_value) (runV (As := [vi v15, vi (s17 (a + 2) v16)]) (rest := []) d_X2_tells_87.1 cv_2_49 rfl hA.1 rfl rfl ⟨rfl, rfl, by decide, by decide⟩ (Nat.le_of_ble_eq_true rfl) w_s17 rfl) d_X2_tells_87.2 (c_X2_value κ a hA v15 h_v15 (s17 (a + 2) v16) (w_s17 _ _) s17) rfl (fun r19 s20 h_r19 w_s20 => ?_)
    refine q_istore d_X2_tells_90 rfl ?_
    refine q_goto d_X2_tells_92 ?_
    refine q_sub (ls' := [none, some (vi x1), none, none, some (vi r19), none, none]) ⟨rfl, rfl, trivial⟩ ?_
    exact hj110 r19 h_r19 s20 w_s20
  refine q_sub (ls' := [some (vr κ a), some (vi x1), none, none, some (vi r3), some (vi 0), some (vi 0)]) ⟨rfl, rfl, rfl, rfl, rfl, trivial⟩ ?_
  exact l_X2_tells_19 κ a hA x1 h_x1 r3 h_r3 j110 j77 hj110 hj77 FU 0 (inr_b (Or.inl rfl)) 0 (inr_b (Or.inl rfl)) s4 w_s4
abbrev R_X4_afloat : Room := { frames := 1, cells := 0, slots := 0, locals := 21 }
noncomputable def f_X4_afloat (a : Nat) (x1 : Int) (s0 : Mem) : Res :=
  bd (f_X4_has a x1 s0) fun r1 s2 => if r1 = 0 then (some (0, s2)) else (gd (0 ≤ x1 ∧ x1 < 10) (if s2 (a + 7) x1 = 0 then (some (1, s2)) else (some (0, s2))))
set_option maxHeartbeats 4000000 in
set_option maxRecDepth 10000 in
theorem c_X4_afloat (κ : Kp) (a : Nat) (hA : At4 κ a) (x1 : Int) (h_x1 : InR x1) (s0 : Mem) : ∀ r σ', f_X4_afloat a x1 s0 = some (r, σ') → Ct κ M_X4_afloat R_X4_afloat [vr κ a, vi x1] s0 r σ' := by
  intro r σ' ho
  refine Ct.of (by decide) (Nat.le_of_ble_eq_true rfl) (cat_ok rfl) (fun w_s0 => ?_) ⟨rfl, rfl⟩
  refine q_ent (ls' := [some (vr κ a), some (vi x1)]) (o := f_X4_afloat a x1 s0) ⟨rfl, rfl, trivial⟩ ?_ ho
  unfold f_X4_afloat
  refine q_aload_n d_X4_afloat_0 rfl ?_
  refine q_iload_n (x := x1) d_X4_afloat_1 rfl ?_
  refine q_callZ (R' := R_X4_has) (runV (As := [vi x1]) (rest := []) d_X4_afloat_2.1 cv_4_76 rfl hA.1 rfl rfl ⟨rfl, rfl, by decide, by decide⟩ (Nat.le_of_ble_eq_true rfl) w_s0 rfl) d_X4_afloat_2.2 (c_X4_has κ a hA x1 h_x1 s0) rfl (fun r1 s2 h_r1 w_s2 => ?_)
  refine q_if_eq d_X4_afloat_5 (inr_b h_r1) (fun c3 => ?_) (fun c3 => ?_)
  · refine q_iconst d_X4_afloat_21 ?_
    exact q_iretz d_X4_afloat_22 rfl (Or.inl rfl) w_s2
  · refine q_aload_n d_X4_afloat_8 rfl ?_
    refine q_getR (n := 7) d_X4_afloat_9 hA.1 fi_4_30 rfl (Nat.le_of_ble_eq_true rfl) ?_
    refine q_iload_n (x := x1) d_X4_afloat_12 rfl ?_
    refine q_iaload (m := 10) d_X4_afloat_13 hA.2.2.2.2.2.2.2.1 (by decide) rfl (fun g4 => ?_)
    refine q_if_ne d_X4_afloat_14 (w_s2 _ _) (fun c5 => ?_) (fun c5 => ?_)
    · refine q_iconst d_X4_afloat_17 ?_
      refine q_goto d_X4_afloat_18 ?_
      exact q_iretz d_X4_afloat_22 rfl (Or.inr rfl) w_s2
    · refine q_iconst d_X4_afloat_21 ?_
      exact q_iretz d_X4_afloat_22 rfl (Or.inl rfl) w_s2
abbrev R_X4_takesWell : Room := { frames := 2, cells := 0, slots := 0, locals := 51 }
noncomputable def f_X4_takesWell_103 (p2 : Int) (p3 : Int) (p5 : Int) (p6 : Int) (p7 : Int) (k146 : Unit → Res) (k128 : Int → Int → Mem → Res) (s0 : Mem) : Nat → Int → Res
  | 0, _ => none
  | n + 1, x8 =>
    if p2 < x8 then (k146 ()) else (if p6 < x8 then (k146 ()) else (gd (p3 ≠ 0) (if Int.tmod (wr (p6 - x8)) p3 = p7 then (k128 p5 x8 s0) else (f_X4_takesWell_103 p2 p3 p5 p6 p7 k146 k128 s0 n (wr (x8 + 1))))))
noncomputable def f_X4_takesWell_61 (a : Nat) (p2 : Int) (p3 : Int) (p4 : Int) (k152 : Mem → Res) (k128 : Int → Int → Mem → Res) : Nat → Int → Mem → Res
  | 0, _, _ => none
  | n + 1, x5, s0 =>
    if x5 < s0 a 8 then (bd (f_X4_afloat a x5 s0) fun r9 s10 => jn (fun y11 s12 => gd (p3 ≠ 0) (jn (fun (_ : Unit) => f_X4_takesWell_61 a p2 p3 p4 k152 k128 n (wr (x5 + 1)) s12) fun j146 => f_X4_takesWell_103 p2 p3 x5 y11 (ixor p4 (Int.tmod y11 p3)) j146 k128 s12 FU 1)) fun j89 => if r9 = 0 then (j89 0 s10) else (bd (f_X4_lean a x5 s10) fun r19 s20 => j89 r19 s20)) else (k152 s0)
noncomputable def f_X4_takesWell_21 (a : Nat) (p3 : Int) (k58 : Int → Mem → Res) : Nat → Int → Int → Mem → Res
  | 0, _, _, _ => none
  | n + 1, x4, x5, s0 =>
    if x5 < s0 a 8 then (bd (f_X4_afloat a x5 s0) fun r22 s23 => jn (fun v24 s25 => f_X4_takesWell_21 a p3 k58 n v24 (wr (x5 + 1)) s25) fun j52 => if r22 = 0 then (j52 x4 s23) else (bd (f_X4_lean a x5 s23) fun r27 s28 => gd (p3 ≠ 0) (j52 (ixor x4 (Int.tmod r27 p3)) s28))) else (k58 x4 s0)
noncomputable def f_X4_takesWell (a : Nat) (x1 : Int) (s0 : Mem) : Res :=
  jn (fun v1 s2 => jn (fun s3 => some ((-1), s3)) fun j152 => jn (fun v4 v5 s6 => if x1 = 0 then (some (v4, s6)) else (some (v5, s6))) fun j128 => f_X4_takesWell_61 a (wr ((s0 a 12) + 1)) (mmx 2 (wr ((wr ((s0 a 12) + 1)) + 1))) v1 j152 j128 FU 0 s2) fun j58 => f_X4_takesWell_21 a (mmx 2 (wr ((wr ((s0 a 12) + 1)) + 1))) j58 FU 0 0 s0
set_option maxHeartbeats 4000000 in
set_option maxRecDepth 10000 in
theorem l_X4_takesWell_103 (κ : Kp) (a : Nat) (hA : At4 κ a) (p1 : Int) (h_p1 : InR p1) (p2 : Int) (h_p2 : InR p2) (p3 : Int) (h_p3 : InR p3) (p4 : Int) (h_p4 : InR p4) (p5 : Int) (h_p5 : InR p5) (p6 : Int) (h_p6 : InR p6) (p7 : Int) (h_p7 : InR p7) (k146 : Unit → Res) (k128 : Int → Int → Mem → Res) (s0 : Mem) (w_s0 : WF s0) (hk146 : EO κ M_X4_takesWell R_X4_takesWell 146 [some (vr κ a), some (vi p1), some (vi p2), some (vi p3), some (vi p4), some (vi p5), none, none, none] [] s0 (k146 ())) (hk128 : ∀ (z5 : Int) (h_z5 : InR z5) (z8 : Int) (h_z8 : InR z8) (sz : Mem) (w_sz : WF sz), EO κ M_X4_takesWell R_X4_takesWell 128 [none, some (vi p1), none, none, none, some (vi z5), none, none, some (vi z8)] [] sz (k128 z5 z8 sz)) : ∀ (n : Nat) (x8 : Int) (h_x8 : InR x8), EO κ M_X4_takesWell R_X4_takesWell 103 [some (vr κ a), some (vi p1), some (vi p2), some (vi p3), some (vi p4), some (vi p5), some (vi p6), some (vi p7), some (vi x8)] [] s0 (f_X4_takesWell_103 p2 p3 p5 p6 p7 k146 k128 s0 n x8) := by
  intro n
  induction n with
  | zero => exact fun _ _ => q_none
  | succ n ih =>
    intro x8 h_x8
    rw [f_X4_takesWell_103]
    refine q_iload (x := x8) d_X4_takesWell_103 rfl ?_
    refine q_iload_n (x := p2) d_X4_takesWell_105 rfl ?_
    refine q_icmp_gt d_X4_takesWell_106 h_x8 h_p2 (fun c14 => ?_) (fun c14 => ?_)
    · refine q_sub (ls' := [some (vr κ a), some (vi p1), some (vi p2), some (vi p3), some (vi p4), some (vi p5), none, none, none]) ⟨rfl, rfl, rfl, rfl, rfl, rfl, trivial⟩ ?_
      exact hk146 
    · refine q_iload (x := x8) d_X4_takesWell_109 rfl ?_
      refine q_iload (x := p6) d_X4_takesWell_111 rfl ?_
      refine q_icmp_gt d_X4_takesWell_113 h_x8 h_p6 (fun c15 => ?_) (fun c15 => ?_)
      · refine q_sub (ls' := [some (vr κ a), some (vi p1), some (vi p2), some (vi p3), some (vi p4), some (vi p5), none, none, none]) ⟨rfl, rfl, rfl, rfl, rfl, rfl, trivial⟩ ?_
        exact hk146 
      · refine q_iload (x := p6) d_X4_takesWell_116 rfl ?_
        refine q_iload (x := x8) d_X4_takesWell_118 rfl ?_
        refine q_isub d_X4_takesWell_120 ?_
        refine q_iload_n (x := p3) d_X4_takesWell_121 rfl ?_
        refine q_irem d_X4_takesWell_122 (inr_wr _) h_p3 (fun g16 => ?_)
        refine q_iload (x := p7) d_X4_takesWell_123 rfl ?_
        refine q_icmp_ne d_X4_takesWell_125 (inr_tmod (inr_wr _) h_p3) h_p7 (fun c17 => ?_) (fun c17 => ?_)
        · refine q_sub (ls' := [none, some (vi p1), none, none, none, some (vi p5), none, none, some (vi x8)]) ⟨rfl, rfl, rfl, trivial⟩ ?_
          exact hk128 p5 h_p5 x8 h_x8 s0 w_s0
        · refine q_iinc (x := x8) d_X4_takesWell_140 rfl rfl ?_
          refine q_goto d_X4_takesWell_143 ?_
          refine q_sub (ls' := [some (vr κ a), some (vi p1), some (vi p2), some (vi p3), some (vi p4), some (vi p5), some (vi p6), some (vi p7), some (vi (wr (x8 + 1)))]) ⟨rfl, rfl, rfl, rfl, rfl, rfl, rfl, rfl, rfl, trivial⟩ ?_
          exact ih (wr (x8 + 1)) (inr_wr _)
set_option maxHeartbeats 4000000 in
set_option maxRecDepth 10000 in
theorem l_X4_takesWell_61 (κ : Kp) (a : Nat) (hA : At4 κ a) (p1 : Int) (h_p1 : InR p1) (p2 : Int) (h_p2 : InR p2) (p3 : Int) (h_p3 : InR p3) (p4 : Int) (h_p4 : InR p4) (k152 : Mem → Res) (k128 : Int → Int → Mem → Res) (hk152 : ∀ (sz : Mem) (w_sz : WF sz), EO κ M_X4_takesWell R_X4_takesWell 152 [none, none, none, none, none, none, none, none, none] [] sz (k152 sz)) (hk128 : ∀ (z5 : Int) (h_z5 : InR z5) (z8 : Int) (h_z8 : InR z8) (sz : Mem) (w_sz : WF sz), EO κ M_X4_takesWell R_X4_takesWell 128 [none, some (vi p1), none, none, none, some (vi z5), none, none, some (vi z8)] [] sz (k128 z5 z8 sz)) : ∀ (n : Nat) (x5 : Int) (h_x5 : InR x5) (s0 : Mem) (w_s0 : WF s0), EO κ M_X4_takesWell R_X4_takesWell 61 [some (vr κ a), some (vi p1), some (vi p2), some (vi p3), some (vi p4), some (vi x5), none, none, none] [] s0 (f_X4_takesWell_61 a p2 p3 p4 k152 k128 n x5 s0) := by
  intro n
  induction n with
  | zero => exact fun _ _ _ _ => q_none
  | succ n ih =>
    intro x5 h_x5 s0 w_s0
    rw [f_X4_takesWell_61]
    refine q_iload (x := x5) d_X4_takesWell_61 rfl ?_
    refine q_aload_n d_X4_takesWell_63 rfl ?_
    refine q_getI d_X4_takesWell_64 hA.1 fi_4_47 rfl ?_
    refine q_icmp_ge d_X4_takesWell_67 h_x5 (w_s0 _ _) (fun c8 => ?_) (fun c8 => ?_)
    · refine q_aload_n d_X4_takesWell_70 rfl ?_
      refine q_iload (x := x5) d_X4_takesWell_71 rfl ?_
      refine q_callZ (R' := R_X4_afloat) (runV (As := [vi x5]) (rest := []) d_X4_takesWell_73.1 cv_4_92 rfl hA.1 rfl rfl ⟨rfl, rfl, by decide, by decide⟩ (Nat.le_of_ble_eq_true rfl) w_s0 rfl) d_X4_takesWell_73.2 (c_X4_afloat κ a hA x5 h_x5 s0) rfl (fun r9 s10 h_r9 w_s10 => ?_)
      refine q_jn (α := Int → Mem → Res) (fun j89 => ∀ (y11 : Int) (h_y11 : InR y11) (s12 : Mem) (w_s12 : WF s12), EO κ M_X4_takesWell R_X4_takesWell 89 [some (vr κ a), some (vi p1), some (vi p2), some (vi p3), some (vi p4), some (vi x5), none, none, none] [vi y11] s12 (j89 y11 s12)) ?_ (fun j89 hj89 => ?_)
      · intro y11 h_y11 s12 w_s12
        refine q_istore d_X4_takesWell_89 rfl ?_
        refine q_iload (x := p4) d_X4_takesWell_91 rfl ?_
        refine q_iload (x := y11) d_X4_takesWell_93 rfl ?_
        refine q_iload_n (x := p3) d_X4_takesWell_95 rfl ?_
        refine q_irem d_X4_takesWell_96 h_y11 h_p3 (fun g13 => ?_)
        refine q_ixor d_X4_takesWell_97 ?_
        refine q_istore d_X4_takesWell_98 rfl ?_
        refine q_iconst d_X4_takesWell_100 ?_
        refine q_istore d_X4_takesWell_101 rfl ?_
        refine q_jn (α := Unit → Res) (fun j146 => EO κ M_X4_takesWell R_X4_takesWell 146 [some (vr κ a), some (vi p1), some (vi p2), some (vi p3), some (vi p4), some (vi x5), none, none, none] [] s12 (j146 ())) ?_ (fun j146 hj146 => ?_)
        · refine q_iinc (x := x5) d_X4_takesWell_146 rfl rfl ?_
          refine q_goto d_X4_takesWell_149 ?_
          refine q_sub (ls' := [some (vr κ a), some (vi p1), some (vi p2), some (vi p3), some (vi p4), some (vi (wr (x5 + 1))), none, none, none]) ⟨rfl, rfl, rfl, rfl, rfl, rfl, trivial⟩ ?_
          exact ih (wr (x5 + 1)) (inr_wr _) s12 w_s12
        refine q_sub (ls' := [some (vr κ a), some (vi p1), some (vi p2), some (vi p3), some (vi p4), some (vi x5), some (vi y11), some (vi (ixor p4 (Int.tmod y11 p3))), some (vi 1)]) ⟨rfl, rfl, rfl, rfl, rfl, rfl, rfl, rfl, rfl, trivial⟩ ?_
        exact l_X4_takesWell_103 κ a hA p1 h_p1 p2 h_p2 p3 h_p3 p4 h_p4 x5 h_x5 y11 h_y11 (ixor p4 (Int.tmod y11 p3)) (inr_i32 _) j146 k128 s12 w_s12 hj146 hk128 FU 1 (inr_b (Or.inr rfl))
      refine q_if_eq d_X4_takesWell_76 (inr_b h_r9) (fun c18 => ?_) (fun c18 => ?_)
      · refine q_iconst d_X4_takesWell_88 ?_
        refine q_sub (ls' := [some (vr κ a), some (vi p1), some (vi p2), some (vi p3), some (vi p4), some (vi x5), none, none, none]) ⟨rfl, rfl, rfl, rfl, rfl, rfl, trivial⟩ ?_
        exact hj89 0 (inr_b (Or.inl rfl)) s10 w_s10
      · refine q_aload_n d_X4_takesWell_79 rfl ?_
        refine q_iload (x := x5) d_X4_takesWell_80 rfl ?_
        refine q_callI (R' := R_X4_lean) (runV (As := [vi x5]) (rest := []) d_X4_takesWell_82.1 cv_4_115 rfl hA.1 rfl rfl ⟨rfl, rfl, by decide, by decide⟩ (Nat.le_of_ble_eq_true rfl) w_s10 rfl) d_X4_takesWell_82.2 (c_X4_lean κ a hA x5 h_x5 s10) rfl (fun r19 s20 h_r19 w_s20 => ?_)
        refine q_goto d_X4_takesWell_85 ?_
        refine q_sub (ls' := [some (vr κ a), some (vi p1), some (vi p2), some (vi p3), some (vi p4), some (vi x5), none, none, none]) ⟨rfl, rfl, rfl, rfl, rfl, rfl, trivial⟩ ?_
        exact hj89 r19 h_r19 s20 w_s20
    · refine q_sub (ls' := [none, none, none, none, none, none, none, none, none]) trivial ?_
      exact hk152 s0 w_s0
set_option maxHeartbeats 4000000 in
set_option maxRecDepth 10000 in
theorem l_X4_takesWell_21 (κ : Kp) (a : Nat) (hA : At4 κ a) (p1 : Int) (h_p1 : InR p1) (p2 : Int) (h_p2 : InR p2) (p3 : Int) (h_p3 : InR p3) (k58 : Int → Mem → Res) (hk58 : ∀ (z4 : Int) (h_z4 : InR z4) (sz : Mem) (w_sz : WF sz), EO κ M_X4_takesWell R_X4_takesWell 58 [some (vr κ a), some (vi p1), some (vi p2), some (vi p3), some (vi z4), none, none, none, none] [] sz (k58 z4 sz)) : ∀ (n : Nat) (x4 : Int) (h_x4 : InR x4) (x5 : Int) (h_x5 : InR x5) (s0 : Mem) (w_s0 : WF s0), EO κ M_X4_takesWell R_X4_takesWell 21 [some (vr κ a), some (vi p1), some (vi p2), some (vi p3), some (vi x4), some (vi x5), none, none, none] [] s0 (f_X4_takesWell_21 a p3 k58 n x4 x5 s0) := by
  intro n
  induction n with
  | zero => exact fun _ _ _ _ _ _ => q_none
  | succ n ih =>
    intro x4 h_x4 x5 h_x5 s0 w_s0
    rw [f_X4_takesWell_21]
    refine q_iload (x := x5) d_X4_takesWell_21 rfl ?_
    refine q_aload_n d_X4_takesWell_23 rfl ?_
    refine q_getI d_X4_takesWell_24 hA.1 fi_4_47 rfl ?_
    refine q_icmp_ge d_X4_takesWell_27 h_x5 (w_s0 _ _) (fun c21 => ?_) (fun c21 => ?_)
    · refine q_aload_n d_X4_takesWell_30 rfl ?_
      refine q_iload (x := x5) d_X4_takesWell_31 rfl ?_
      refine q_callZ (R' := R_X4_afloat) (runV (As := [vi x5]) (rest := []) d_X4_takesWell_33.1 cv_4_92 rfl hA.1 rfl rfl ⟨rfl, rfl, by decide, by decide⟩ (Nat.le_of_ble_eq_true rfl) w_s0 rfl) d_X4_takesWell_33.2 (c_X4_afloat κ a hA x5 h_x5 s0) rfl (fun r22 s23 h_r22 w_s23 => ?_)
      refine q_jn (α := Int → Mem → Res) (fun j52 => ∀ (v24 : Int) (h_v24 : InR v24) (s25 : Mem) (w_s25 : WF s25), EO κ M_X4_takesWell R_X4_takesWell 52 [some (vr κ a), some (vi p1), some (vi p2), some (vi p3), some (vi v24), some (vi x5), none, none, none] [] s25 (j52 v24 s25)) ?_ (fun j52 hj52 => ?_)
      · intro v24 h_v24 s25 w_s25
        refine q_iinc (x := x5) d_X4_takesWell_52 rfl rfl ?_
        refine q_goto d_X4_takesWell_55 ?_
        refine q_sub (ls' := [some (vr κ a), some (vi p1), some (vi p2), some (vi p3), some (vi v24), some (vi (wr (x5 + 1))), none, none, none]) ⟨rfl, rfl, rfl, rfl, rfl, rfl, trivial⟩ ?_
        exact ih v24 h_v24 (wr (x5 + 1)) (inr_wr _) s25 w_s25
      refine q_if_eq d_X4_takesWell_36 (inr_b h_r22) (fun c26 => ?_) (fun c26 => ?_)
      · refine q_sub (ls' := [some (vr κ a), some (vi p1), some (vi p2), some (vi p3), some (vi x4), some (vi x5), none, none, none]) ⟨rfl, rfl, rfl, rfl, rfl, rfl, trivial⟩ ?_
        exact hj52 x4 h_x4 s23 w_s23
      · refine q_iload (x := x4) d_X4_takesWell_39 rfl ?_
        refine q_aload_n d_X4_takesWell_41 rfl ?_
        refine q_iload (x := x5) d_X4_takesWell_42 rfl ?_
        refine q_callI (R' := R_X4_lean) (runV (As := [vi x5]) (rest := [vi x4]) d_X4_takesWell_44.1 cv_4_115 rfl hA.1 rfl rfl ⟨rfl, rfl, by decide, by decide⟩ (Nat.le_of_ble_eq_true rfl) w_s23 rfl) d_X4_takesWell_44.2 (c_X4_lean κ a hA x5 h_x5 s23) rfl (fun r27 s28 h_r27 w_s28 => ?_)
        refine q_iload_n (x := p3) d_X4_takesWell_47 rfl ?_
        refine q_irem d_X4_takesWell_48 h_r27 h_p3 (fun g29 => ?_)
        refine q_ixor d_X4_takesWell_49 ?_
        refine q_istore d_X4_takesWell_50 rfl ?_
        refine q_sub (ls' := [some (vr κ a), some (vi p1), some (vi p2), some (vi p3), some (vi (ixor x4 (Int.tmod r27 p3))), some (vi x5), none, none, none]) ⟨rfl, rfl, rfl, rfl, rfl, rfl, trivial⟩ ?_
        exact hj52 (ixor x4 (Int.tmod r27 p3)) (inr_i32 _) s28 w_s28
    · refine q_sub (ls' := [some (vr κ a), some (vi p1), some (vi p2), some (vi p3), some (vi x4), none, none, none, none]) ⟨rfl, rfl, rfl, rfl, rfl, trivial⟩ ?_
      exact hk58 x4 h_x4 s0 w_s0
set_option maxHeartbeats 4000000 in
set_option maxRecDepth 10000 in
theorem c_X4_takesWell (κ : Kp) (a : Nat) (hA : At4 κ a) (x1 : Int) (h_x1 : InR x1) (s0 : Mem) : ∀ r σ', f_X4_takesWell a x1 s0 = some (r, σ') → Ct κ M_X4_takesWell R_X4_takesWell [vr κ a, vi x1] s0 r σ' := by
  intro r σ' ho
  refine Ct.of (by decide) (Nat.le_of_ble_eq_true rfl) (cat_ok rfl) (fun w_s0 => ?_) ⟨rfl, rfl⟩
  refine q_ent (ls' := [some (vr κ a), some (vi x1), none, none, none, none, none, none, none]) (o := f_X4_takesWell a x1 s0) ⟨rfl, rfl, trivial⟩ ?_ ho
  unfold f_X4_takesWell
  refine q_aload_n d_X4_takesWell_0 rfl ?_
  refine q_getI d_X4_takesWell_1 hA.1 fi_4_40 rfl ?_
  refine q_iconst d_X4_takesWell_4 ?_
  refine q_iadd d_X4_takesWell_5 ?_
  refine q_istore_n d_X4_takesWell_6 rfl ?_
  refine q_iconst d_X4_takesWell_7 ?_
  refine q_iload_n (x := wr ((s0 a 12) + 1)) d_X4_takesWell_8 rfl ?_
  refine q_iconst d_X4_takesWell_9 ?_
  refine q_iadd d_X4_takesWell_10 ?_
  refine q_mmax d_X4_takesWell_11 cv_4_95 mw_max ⟨by decide, Nat.le_of_ble_eq_true rfl⟩ (inr_d rfl) (inr_wr _) ?_
  refine q_istore_n d_X4_takesWell_14 rfl ?_
  refine q_iconst d_X4_takesWell_15 ?_
  refine q_istore d_X4_takesWell_16 rfl ?_
  refine q_iconst d_X4_takesWell_18 ?_
  refine q_istore d_X4_takesWell_19 rfl ?_
  refine q_jn (α := Int → Mem → Res) (fun j58 => ∀ (v1 : Int) (h_v1 : InR v1) (s2 : Mem) (w_s2 : WF s2), EO κ M_X4_takesWell R_X4_takesWell 58 [some (vr κ a), some (vi x1), some (vi (wr ((s0 a 12) + 1))), some (vi (mmx 2 (wr ((wr ((s0 a 12) + 1)) + 1)))), some (vi v1), none, none, none, none] [] s2 (j58 v1 s2)) ?_ (fun j58 hj58 => ?_)
  · intro v1 h_v1 s2 w_s2
    refine q_iconst d_X4_takesWell_58 ?_
    refine q_istore d_X4_takesWell_59 rfl ?_
    refine q_jn (α := Mem → Res) (fun j152 => ∀ (s3 : Mem) (w_s3 : WF s3), EO κ M_X4_takesWell R_X4_takesWell 152 [none, none, none, none, none, none, none, none, none] [] s3 (j152 s3)) ?_ (fun j152 hj152 => ?_)
    · intro s3 w_s3
      refine q_iconst d_X4_takesWell_152 ?_
      exact q_ireti d_X4_takesWell_153 rfl (inr_d rfl) w_s3
    refine q_jn (α := Int → Int → Mem → Res) (fun j128 => ∀ (v4 : Int) (h_v4 : InR v4) (v5 : Int) (h_v5 : InR v5) (s6 : Mem) (w_s6 : WF s6), EO κ M_X4_takesWell R_X4_takesWell 128 [none, some (vi x1), none, none, none, some (vi v4), none, none, some (vi v5)] [] s6 (j128 v4 v5 s6)) ?_ (fun j128 hj128 => ?_)
    · intro v4 h_v4 v5 h_v5 s6 w_s6
      refine q_iload_n (x := x1) d_X4_takesWell_128 rfl ?_
      refine q_if_ne d_X4_takesWell_129 h_x1 (fun c7 => ?_) (fun c7 => ?_)
      · refine q_iload (x := v4) d_X4_takesWell_132 rfl ?_
        refine q_goto d_X4_takesWell_134 ?_
        exact q_ireti d_X4_takesWell_139 rfl h_v4 w_s6
      · refine q_iload (x := v5) d_X4_takesWell_137 rfl ?_
        exact q_ireti d_X4_takesWell_139 rfl h_v5 w_s6
    refine q_sub (ls' := [some (vr κ a), some (vi x1), some (vi (wr ((s0 a 12) + 1))), some (vi (mmx 2 (wr ((wr ((s0 a 12) + 1)) + 1)))), some (vi v1), some (vi 0), none, none, none]) ⟨rfl, rfl, rfl, rfl, rfl, rfl, trivial⟩ ?_
    exact l_X4_takesWell_61 κ a hA x1 h_x1 (wr ((s0 a 12) + 1)) (inr_wr _) (mmx 2 (wr ((wr ((s0 a 12) + 1)) + 1))) (inr_mmx (inr_d rfl) (inr_wr _)) v1 h_v1 j152 j128 hj152 hj128 FU 0 (inr_b (Or.inl rfl)) s2 w_s2
  refine q_sub (ls' := [some (vr κ a), some (vi x1), some (vi (wr ((s0 a 12) + 1))), some (vi (mmx 2 (wr ((wr ((s0 a 12) + 1)) + 1)))), some (vi 0), some (vi 0), none, none, none]) ⟨rfl, rfl, rfl, rfl, rfl, rfl, trivial⟩ ?_
  exact l_X4_takesWell_21 κ a hA x1 h_x1 (wr ((s0 a 12) + 1)) (inr_wr _) (mmx 2 (wr ((wr ((s0 a 12) + 1)) + 1))) (inr_mmx (inr_d rfl) (inr_wr _)) j58 hj58 FU 0 (inr_b (Or.inl rfl)) 0 (inr_b (Or.inl rfl)) s0 w_s0

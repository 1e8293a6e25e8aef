abbrev R_X7_planLine : Room := { frames := 2, cells := 0, slots := 0, locals := 44 }
noncomputable def f_X7_planLine (a : Nat) (x1 : Int) (s0 : Mem) : Res :=
  bd (f_X7_begins a 20 (s0 (a + 11) 4) s0) fun r1 s2 => if r1 = 0 then (some (0, s2)) else (bd (f_X7_passesNumber a 0 999 s2) fun r4 s5 => if r4 = 0 then (some (0, s5)) else (bd (f_X7_next a s5) fun r7 s8 => jn (fun (s9 : Mem) => lm (mup s9 a 12 (wr ((s9 a 12) + 1))) fun s10 => jn (fun (v11 : Int) (s12 : Mem) => jn (fun (s13 : Mem) => jn (fun (s14 : Mem) => bd (f_X7_passes a 59 s14) fun r15 s16 => if r15 = 0 then (some (0, s16)) else (bd (f_X6_enter (a + 11) (s5 a 13) r7 v11 (s14 a 13) s16) fun r18 s19 => some (1, s19))) fun j142 => if r7 = 23 then (bd (f_X7_passes a 24 s13) fun r21 s22 => if r21 = 0 then (some (0, s22)) else (bd (f_X7_passesNumber a 0 15 s22) fun r24 s25 => if r24 = 0 then (some (0, s25)) else (j142 s25))) else (j142 s13)) fun j115 => if r7 = 1 then (bd (f_X7_passesNumber a 0 9 s12) fun r28 s29 => if r28 = 0 then (some (0, s29)) else (j115 s29)) else (j115 s12)) fun j98 => if r7 = 1 then (j98 (-1) s10) else (bd (f_X7_passesNumber a 0 (wr (x1 - 1)) s10) fun r32 s33 => if r32 = 0 then (some (0, s33)) else (j98 (s33 a 13) s33))) fun j61 => if r7 = 1 then (j61 s8) else (bd (f_X11_within r7 21 23 s8) fun r36 s37 => if r36 = 0 then (bd (f_X7_refuse a 1 s37) fun r39 s40 => some (r39, s40)) else (j61 s37))))
set_option maxHeartbeats 4000000 in
set_option maxRecDepth 10000 in
theorem c_X7_planLine (κ : Kp) (a : Nat) (hA : At7 κ a) (x1 : Int) (h_x1 : InR x1) (s0 : Mem) : ∀ r σ', f_X7_planLine a x1 s0 = some (r, σ') → Ct κ M_X7_planLine R_X7_planLine [vr κ a, vi x1] s0 r σ' := by
  intro r σ' ho
  refine Ct.of (by decide) (Nat.le_of_ble_eq_true rfl) (cat_ok rfl) (fun w_s0 => ?_) ⟨rfl, rfl⟩
  refine q_ent (ls' := [some (vr κ a), some (vi x1), none, none, none, none]) (o := f_X7_planLine a x1 s0) ⟨rfl, rfl, trivial⟩ ?_ ho
  unfold f_X7_planLine
  refine q_aload_n d_X7_planLine_0 rfl ?_
  refine q_bipush d_X7_planLine_1 rfl ?_
  refine q_aload_n d_X7_planLine_3 rfl ?_
  refine q_getR (n := 11) d_X7_planLine_4 hA.1 fi_7_28 rfl (Nat.le_of_ble_eq_true rfl) ?_
  refine q_getI (k := 4) (j := 4) d_X7_planLine_7 hA.2.2.2.1.1 fi_7_79 rfl rfl ?_
  refine q_callZ (R' := R_X7_begins) (runV (As := [vi 20, vi (s0 (a + 11) 4)]) (rest := []) d_X7_planLine_10.1 cv_7_157 rfl hA.1 rfl rfl ⟨rfl, rfl, by decide, by decide⟩ (Nat.le_of_ble_eq_true rfl) w_s0 rfl) d_X7_planLine_10.2 (c_X7_begins κ a hA 20 (inr_d rfl) (s0 (a + 11) 4) (w_s0 _ _) s0) rfl (fun r1 s2 h_r1 w_s2 => ?_)
  refine q_if_eq d_X7_planLine_13 (inr_b h_r1) (fun c3 => ?_) (fun c3 => ?_)
  · refine q_iconst d_X7_planLine_27 ?_
    exact q_iretz d_X7_planLine_28 rfl (Or.inl rfl) w_s2
  · refine q_aload_n d_X7_planLine_16 rfl ?_
    refine q_iconst d_X7_planLine_17 ?_
    refine q_sipush d_X7_planLine_18 rfl ?_
    refine q_callZ (R' := R_X7_passesNumber) (runV (As := [vi 0, vi 999]) (rest := []) d_X7_planLine_21.1 cv_7_181 rfl hA.1 rfl rfl ⟨rfl, rfl, by decide, by decide⟩ (Nat.le_of_ble_eq_true rfl) w_s2 rfl) d_X7_planLine_21.2 (c_X7_passesNumber κ a hA 0 (inr_b (Or.inl rfl)) 999 (inr_d rfl) s2) rfl (fun r4 s5 h_r4 w_s5 => ?_)
    refine q_if_ne d_X7_planLine_24 (inr_b h_r4) (fun c6 => ?_) (fun c6 => ?_)
    · refine q_iconst d_X7_planLine_27 ?_
      exact q_iretz d_X7_planLine_28 rfl (Or.inl rfl) w_s5
    · refine q_aload_n d_X7_planLine_29 rfl ?_
      refine q_getI (k := 13) (j := 13) d_X7_planLine_30 hA.1 fi_7_154 rfl rfl ?_
      refine q_istore_n d_X7_planLine_33 rfl ?_
      refine q_aload_n d_X7_planLine_34 rfl ?_
      refine q_callI (R' := R_X7_next) (runV (As := []) (rest := []) d_X7_planLine_35.1 cv_7_86 rfl hA.1 rfl rfl ⟨rfl, rfl, by decide, by decide⟩ (Nat.le_of_ble_eq_true rfl) w_s5 rfl) d_X7_planLine_35.2 (c_X7_next κ a hA s5) rfl (fun r7 s8 h_r7 w_s8 => ?_)
      refine q_istore_n d_X7_planLine_38 rfl ?_
      refine q_iload_n (x := r7) d_X7_planLine_39 rfl ?_
      refine q_iconst d_X7_planLine_40 ?_
      refine q_jn (α := Mem → Res) (fun j61 => ∀ (s9 : Mem) (w_s9 : WF s9), EO κ M_X7_planLine R_X7_planLine 61 [some (vr κ a), some (vi x1), some (vi (s5 a 13)), some (vi r7), none, none] [] s9 (j61 s9)) ?_ (fun j61 hj61 => ?_)
      · intro s9 w_s9
        refine q_aload_n d_X7_planLine_61 rfl ?_
        refine q_dup d_X7_planLine_62 rfl ?_
        refine q_getI (k := 12) (j := 12) d_X7_planLine_63 hA.1 fi_7_104 rfl rfl ?_
        refine q_iconst d_X7_planLine_66 ?_
        refine q_iadd d_X7_planLine_67 ?_
        refine q_putI (k := 12) (j := 12) d_X7_planLine_68 hA.1 fp_7_104 rfl rfl (inr_wr _) w_s9 (fun s10 w_s10 => ?_)
        refine q_iconst d_X7_planLine_71 ?_
        refine q_istore d_X7_planLine_72 rfl ?_
        refine q_iload_n (x := r7) d_X7_planLine_74 rfl ?_
        refine q_iconst d_X7_planLine_75 ?_
        refine q_jn (α := Int → Mem → Res) (fun j98 => ∀ (v11 : Int) (h_v11 : InR v11) (s12 : Mem) (w_s12 : WF s12), EO κ M_X7_planLine R_X7_planLine 98 [some (vr κ a), none, some (vi (s5 a 13)), some (vi r7), some (vi v11), none] [] s12 (j98 v11 s12)) ?_ (fun j98 hj98 => ?_)
        · intro v11 h_v11 s12 w_s12
          refine q_iload_n (x := r7) d_X7_planLine_98 rfl ?_
          refine q_iconst d_X7_planLine_99 ?_
          refine q_jn (α := Mem → Res) (fun j115 => ∀ (s13 : Mem) (w_s13 : WF s13), EO κ M_X7_planLine R_X7_planLine 115 [some (vr κ a), none, some (vi (s5 a 13)), some (vi r7), some (vi v11), none] [] s13 (j115 s13)) ?_ (fun j115 hj115 => ?_)
          · intro s13 w_s13
            refine q_iload_n (x := r7) d_X7_planLine_115 rfl ?_
            refine q_bipush d_X7_planLine_116 rfl ?_
            refine q_jn (α := Mem → Res) (fun j142 => ∀ (s14 : Mem) (w_s14 : WF s14), EO κ M_X7_planLine R_X7_planLine 142 [some (vr κ a), none, some (vi (s5 a 13)), some (vi r7), some (vi v11), none] [] s14 (j142 s14)) ?_ (fun j142 hj142 => ?_)
            · intro s14 w_s14
              refine q_aload_n d_X7_planLine_142 rfl ?_
              refine q_getI (k := 13) (j := 13) d_X7_planLine_143 hA.1 fi_7_154 rfl rfl ?_
              refine q_istore d_X7_planLine_146 rfl ?_
              refine q_aload_n d_X7_planLine_148 rfl ?_
              refine q_bipush d_X7_planLine_149 rfl ?_
              refine q_callZ (R' := R_X7_passes) (runV (As := [vi 59]) (rest := []) d_X7_planLine_151.1 cv_7_167 rfl hA.1 rfl rfl ⟨rfl, rfl, by decide, by decide⟩ (Nat.le_of_ble_eq_true rfl) w_s14 rfl) d_X7_planLine_151.2 (c_X7_passes κ a hA 59 (inr_d rfl) s14) rfl (fun r15 s16 h_r15 w_s16 => ?_)
              refine q_if_ne d_X7_planLine_154 (inr_b h_r15) (fun c17 => ?_) (fun c17 => ?_)
              · refine q_iconst d_X7_planLine_157 ?_
                exact q_iretz d_X7_planLine_158 rfl (Or.inl rfl) w_s16
              · refine q_aload_n d_X7_planLine_159 rfl ?_
                refine q_getR (n := 11) d_X7_planLine_160 hA.1 fi_7_28 rfl (Nat.le_of_ble_eq_true rfl) ?_
                refine q_iload_n (x := s5 a 13) d_X7_planLine_163 rfl ?_
                refine q_iload_n (x := r7) d_X7_planLine_164 rfl ?_
                refine q_iload (x := v11) d_X7_planLine_165 rfl ?_
                refine q_iload (x := s14 a 13) d_X7_planLine_167 rfl ?_
                refine q_callV (R' := R_X6_enter) (runV (As := [vi (s5 a 13), vi r7, vi v11, vi (s14 a 13)]) (rest := []) d_X7_planLine_169.1 cv_7_208 rfl hA.2.2.2.1.1 rfl rfl ⟨rfl, rfl, by decide, by decide⟩ (Nat.le_of_ble_eq_true rfl) w_s16 rfl) d_X7_planLine_169.2 (c_X6_enter κ (a + 11) hA.2.2.2.1 (s5 a 13) (w_s5 _ _) r7 h_r7 v11 h_v11 (s14 a 13) (w_s14 _ _) s16) rfl (fun r18 s19 w_s19 => ?_)
                refine q_iconst d_X7_planLine_172 ?_
                exact q_iretz d_X7_planLine_173 rfl (Or.inr rfl) w_s19
            refine q_icmp_ne d_X7_planLine_118 h_r7 (inr_d rfl) (fun c20 => ?_) (fun c20 => ?_)
            · refine q_aload_n d_X7_planLine_121 rfl ?_
              refine q_bipush d_X7_planLine_122 rfl ?_
              refine q_callZ (R' := R_X7_passes) (runV (As := [vi 24]) (rest := []) d_X7_planLine_124.1 cv_7_167 rfl hA.1 rfl rfl ⟨rfl, rfl, by decide, by decide⟩ (Nat.le_of_ble_eq_true rfl) w_s13 rfl) d_X7_planLine_124.2 (c_X7_passes κ a hA 24 (inr_d rfl) s13) rfl (fun r21 s22 h_r21 w_s22 => ?_)
              refine q_if_eq d_X7_planLine_127 (inr_b h_r21) (fun c23 => ?_) (fun c23 => ?_)
              · refine q_iconst d_X7_planLine_140 ?_
                exact q_iretz d_X7_planLine_141 rfl (Or.inl rfl) w_s22
              · refine q_aload_n d_X7_planLine_130 rfl ?_
                refine q_iconst d_X7_planLine_131 ?_
                refine q_bipush d_X7_planLine_132 rfl ?_
                refine q_callZ (R' := R_X7_passesNumber) (runV (As := [vi 0, vi 15]) (rest := []) d_X7_planLine_134.1 cv_7_181 rfl hA.1 rfl rfl ⟨rfl, rfl, by decide, by decide⟩ (Nat.le_of_ble_eq_true rfl) w_s22 rfl) d_X7_planLine_134.2 (c_X7_passesNumber κ a hA 0 (inr_b (Or.inl rfl)) 15 (inr_d rfl) s22) rfl (fun r24 s25 h_r24 w_s25 => ?_)
                refine q_if_ne d_X7_planLine_137 (inr_b h_r24) (fun c26 => ?_) (fun c26 => ?_)
                · refine q_iconst d_X7_planLine_140 ?_
                  exact q_iretz d_X7_planLine_141 rfl (Or.inl rfl) w_s25
                · refine q_sub (ls' := [some (vr κ a), none, some (vi (s5 a 13)), some (vi r7), some (vi v11), none]) ⟨rfl, rfl, rfl, rfl, trivial⟩ ?_
                  exact hj142 s25 w_s25
            · refine q_sub (ls' := [some (vr κ a), none, some (vi (s5 a 13)), some (vi r7), some (vi v11), none]) ⟨rfl, rfl, rfl, rfl, trivial⟩ ?_
              exact hj142 s13 w_s13
          refine q_icmp_ne d_X7_planLine_100 h_r7 (inr_b (Or.inr rfl)) (fun c27 => ?_) (fun c27 => ?_)
          · refine q_aload_n d_X7_planLine_103 rfl ?_
            refine q_iconst d_X7_planLine_104 ?_
            refine q_bipush d_X7_planLine_105 rfl ?_
            refine q_callZ (R' := R_X7_passesNumber) (runV (As := [vi 0, vi 9]) (rest := []) d_X7_planLine_107.1 cv_7_181 rfl hA.1 rfl rfl ⟨rfl, rfl, by decide, by decide⟩ (Nat.le_of_ble_eq_true rfl) w_s12 rfl) d_X7_planLine_107.2 (c_X7_passesNumber κ a hA 0 (inr_b (Or.inl rfl)) 9 (inr_d rfl) s12) rfl (fun r28 s29 h_r28 w_s29 => ?_)
            refine q_if_ne d_X7_planLine_110 (inr_b h_r28) (fun c30 => ?_) (fun c30 => ?_)
            · refine q_iconst d_X7_planLine_113 ?_
              exact q_iretz d_X7_planLine_114 rfl (Or.inl rfl) w_s29
            · refine q_sub (ls' := [some (vr κ a), none, some (vi (s5 a 13)), some (vi r7), some (vi v11), none]) ⟨rfl, rfl, rfl, rfl, trivial⟩ ?_
              exact hj115 s29 w_s29
          · refine q_sub (ls' := [some (vr κ a), none, some (vi (s5 a 13)), some (vi r7), some (vi v11), none]) ⟨rfl, rfl, rfl, rfl, trivial⟩ ?_
            exact hj115 s12 w_s12
        refine q_icmp_eq d_X7_planLine_76 h_r7 (inr_b (Or.inr rfl)) (fun c31 => ?_) (fun c31 => ?_)
        · refine q_sub (ls' := [some (vr κ a), none, some (vi (s5 a 13)), some (vi r7), some (vi (-1)), none]) ⟨rfl, rfl, rfl, rfl, trivial⟩ ?_
          exact hj98 (-1) (inr_d rfl) s10 w_s10
        · refine q_aload_n d_X7_planLine_79 rfl ?_
          refine q_iconst d_X7_planLine_80 ?_
          refine q_iload_n (x := x1) d_X7_planLine_81 rfl ?_
          refine q_iconst d_X7_planLine_82 ?_
          refine q_isub d_X7_planLine_83 ?_
          refine q_callZ (R' := R_X7_passesNumber) (runV (As := [vi 0, vi (wr (x1 - 1))]) (rest := []) d_X7_planLine_84.1 cv_7_181 rfl hA.1 rfl rfl ⟨rfl, rfl, by decide, by decide⟩ (Nat.le_of_ble_eq_true rfl) w_s10 rfl) d_X7_planLine_84.2 (c_X7_passesNumber κ a hA 0 (inr_b (Or.inl rfl)) (wr (x1 - 1)) (inr_wr _) s10) rfl (fun r32 s33 h_r32 w_s33 => ?_)
          refine q_if_ne d_X7_planLine_87 (inr_b h_r32) (fun c34 => ?_) (fun c34 => ?_)
          · refine q_iconst d_X7_planLine_90 ?_
            exact q_iretz d_X7_planLine_91 rfl (Or.inl rfl) w_s33
          · refine q_aload_n d_X7_planLine_92 rfl ?_
            refine q_getI (k := 13) (j := 13) d_X7_planLine_93 hA.1 fi_7_154 rfl rfl ?_
            refine q_istore d_X7_planLine_96 rfl ?_
            refine q_sub (ls' := [some (vr κ a), none, some (vi (s5 a 13)), some (vi r7), some (vi (s33 a 13)), none]) ⟨rfl, rfl, rfl, rfl, trivial⟩ ?_
            exact hj98 (s33 a 13) (w_s33 _ _) s33 w_s33
      refine q_icmp_eq d_X7_planLine_41 h_r7 (inr_b (Or.inr rfl)) (fun c35 => ?_) (fun c35 => ?_)
      · refine q_sub (ls' := [some (vr κ a), some (vi x1), some (vi (s5 a 13)), some (vi r7), none, none]) ⟨rfl, rfl, rfl, rfl, trivial⟩ ?_
        exact hj61 s8 w_s8
      · refine q_iload_n (x := r7) d_X7_planLine_44 rfl ?_
        refine q_bipush d_X7_planLine_45 rfl ?_
        refine q_bipush d_X7_planLine_47 rfl ?_
        refine q_callZ (R' := R_X11_within) (runN (As := [vi r7, vi 21, vi 23]) (rest := []) d_X7_planLine_49.1 cv_7_68 rfl ⟨rfl, rfl, by decide, by decide⟩ (Nat.le_of_ble_eq_true rfl) w_s8 rfl) d_X7_planLine_49.2 (c_X11_within κ r7 h_r7 21 (inr_d rfl) 23 (inr_d rfl) s8) rfl (fun r36 s37 h_r36 w_s37 => ?_)
        refine q_if_ne d_X7_planLine_52 (inr_b h_r36) (fun c38 => ?_) (fun c38 => ?_)
        · refine q_aload_n d_X7_planLine_55 rfl ?_
          refine q_iconst d_X7_planLine_56 ?_
          refine q_callZ (R' := R_X7_refuse) (runV (As := [vi 1]) (rest := []) d_X7_planLine_57.1 cv_7_151 rfl hA.1 rfl rfl ⟨rfl, rfl, by decide, by decide⟩ (Nat.le_of_ble_eq_true rfl) w_s37 rfl) d_X7_planLine_57.2 (c_X7_refuse κ a hA 1 (inr_b (Or.inr rfl)) s37) rfl (fun r39 s40 h_r39 w_s40 => ?_)
          exact q_iretz d_X7_planLine_60 rfl h_r39 w_s40
        · refine q_sub (ls' := [some (vr κ a), some (vi x1), some (vi (s5 a 13)), some (vi r7), none, none]) ⟨rfl, rfl, rfl, rfl, trivial⟩ ?_
          exact hj61 s37 w_s37
abbrev R_X9_isTold : Room := { frames := 1, cells := 0, slots := 0, locals := 22 }
noncomputable def f_X9_isTold (a : Nat) (x1 : Int) (s0 : Mem) : Res :=
  bd (f_X11_within x1 0 11 s0) fun r1 s2 => if r1 = 0 then (some (0, s2)) else (gd ((0 : Int) ≤ x1 ∧ x1 < 12) (if 0 < s2 (a + 1) x1 then (some (1, s2)) else (some (0, s2))))
set_option maxHeartbeats 4000000 in
set_option maxRecDepth 10000 in
theorem c_X9_isTold (κ : Kp) (a : Nat) (hA : At9 κ a) (x1 : Int) (h_x1 : InR x1) (s0 : Mem) : ∀ r σ', f_X9_isTold a x1 s0 = some (r, σ') → Ct κ M_X9_isTold R_X9_isTold [vr κ a, vi x1] s0 r σ' := by
  intro r σ' ho
  refine Ct.of (by decide) (Nat.le_of_ble_eq_true rfl) (cat_ok rfl) (fun w_s0 => ?_) ⟨rfl, rfl⟩
  refine q_ent (ls' := [some (vr κ a), some (vi x1)]) (o := f_X9_isTold a x1 s0) ⟨rfl, rfl, trivial⟩ ?_ ho
  unfold f_X9_isTold
  refine q_iload_n (x := x1) d_X9_isTold_0 rfl ?_
  refine q_iconst d_X9_isTold_1 ?_
  refine q_bipush d_X9_isTold_2 rfl ?_
  refine q_callZ (R' := R_X11_within) (runN (As := [vi x1, vi 0, vi 11]) (rest := []) d_X9_isTold_4.1 cv_9_29 rfl ⟨rfl, rfl, by decide, by decide⟩ (Nat.le_of_ble_eq_true rfl) w_s0 rfl) d_X9_isTold_4.2 (c_X11_within κ x1 h_x1 0 (inr_b (Or.inl rfl)) 11 (inr_d rfl) s0) rfl (fun r1 s2 h_r1 w_s2 => ?_)
  refine q_if_eq d_X9_isTold_7 (inr_b h_r1) (fun c3 => ?_) (fun c3 => ?_)
  · refine q_iconst d_X9_isTold_23 ?_
    exact q_iretz d_X9_isTold_24 rfl (Or.inl rfl) w_s2
  · refine q_aload_n d_X9_isTold_10 rfl ?_
    refine q_getR (n := 1) d_X9_isTold_11 hA.1 fi_9_9 rfl (Nat.le_of_ble_eq_true rfl) ?_
    refine q_iload_n (x := x1) d_X9_isTold_14 rfl ?_
    refine q_iaload (m := 12) d_X9_isTold_15 hA.2.1 (by decide) rfl (fun g4 => ?_)
    refine q_if_le d_X9_isTold_16 (w_s2 _ _) (fun c5 => ?_) (fun c5 => ?_)
    · refine q_iconst d_X9_isTold_19 ?_
      refine q_goto d_X9_isTold_20 ?_
      exact q_iretz d_X9_isTold_24 rfl (Or.inr rfl) w_s2
    · refine q_iconst d_X9_isTold_23 ?_
      exact q_iretz d_X9_isTold_24 rfl (Or.inl rfl) w_s2
abbrev R_X9_enter : Room := { frames := 2, cells := 0, slots := 0, locals := 43 }
noncomputable def f_X9_enter_38 (a : Nat) (p1 : Int) (p3 : Int) (k106 : Mem → Res) : Nat → Int → Mem → Res
  | 0, _, _ => none
  | n + 1, x4, s0 =>
    if x4 < 12 then (bd (f_X9_isTold a x4 s0) fun r11 s12 => jn (fun (s13 : Mem) => f_X9_enter_38 a p1 p3 k106 n (wr (x4 + 1)) s13) fun j100 => if r11 = 0 then (j100 s12) else (gd ((0 : Int) ≤ x4 ∧ x4 < 12) (if iand (ior (ishr p3 x4) (ishr (s12 (a + 3) x4) p1)) 1 = 1 then (gd ((0 : Int) ≤ p1 ∧ p1 < 12) (gd ((0 : Int) ≤ p1 ∧ p1 < 12) (lm (mup s12 (a + 2) p1 (ior (s12 (a + 2) p1) (ishl 1 x4))) fun s19 => gd ((0 : Int) ≤ x4 ∧ x4 < 12) (gd ((0 : Int) ≤ x4 ∧ x4 < 12) (lm (mup s19 (a + 2) x4 (ior (s19 (a + 2) x4) (ishl 1 p1))) fun s22 => j100 s22))))) else (j100 s12)))) else (k106 s0)
noncomputable def f_X9_enter (a : Nat) (x1 : Int) (x2 : Int) (x3 : Int) (s0 : Mem) : Res :=
  bd (f_X11_within x1 0 11 s0) fun r1 s2 => if r1 = 0 then (some (0, s2)) else (gd ((0 : Int) ≤ x1 ∧ x1 < 12) (lm (mup s2 (a + 1) x1 x2) fun s5 => gd ((0 : Int) ≤ x1 ∧ x1 < 12) (lm (mup s5 (a + 3) x1 x3) fun s7 => lm (mup s7 a 3 (wr ((s7 a 3) + 1))) fun s8 => jn (fun (s9 : Mem) => some (0, s9)) fun j106 => f_X9_enter_38 a x1 x3 j106 FU 0 s8)))
set_option maxHeartbeats 4000000 in
set_option maxRecDepth 10000 in
theorem l_X9_enter_38 (κ : Kp) (a : Nat) (hA : At9 κ a) (p1 : Int) (h_p1 : InR p1) (p3 : Int) (h_p3 : InR p3) (k106 : Mem → Res) (hk106 : ∀ (sz : Mem) (w_sz : WF sz), EO κ M_X9_enter R_X9_enter 106 [none, none, none, none, none] [] sz (k106 sz)) : ∀ (n : Nat) (x4 : Int) (h_x4 : InR x4) (s0 : Mem) (w_s0 : WF s0), EO κ M_X9_enter R_X9_enter 38 [some (vr κ a), some (vi p1), none, some (vi p3), some (vi x4)] [] s0 (f_X9_enter_38 a p1 p3 k106 n x4 s0) := by
  intro n
  induction n with
  | zero => exact fun _ _ _ _ => q_none
  | succ n ih =>
    intro x4 h_x4 s0 w_s0
    rw [f_X9_enter_38]
    refine q_iload (x := x4) d_X9_enter_38 rfl ?_
    refine q_bipush d_X9_enter_40 rfl ?_
    refine q_icmp_ge d_X9_enter_42 h_x4 (inr_d rfl) (fun c10 => ?_) (fun c10 => ?_)
    · refine q_aload_n d_X9_enter_45 rfl ?_
      refine q_iload (x := x4) d_X9_enter_46 rfl ?_
      refine q_callZ (R' := R_X9_isTold) (runV (As := [vi x4]) (rest := []) d_X9_enter_48.1 cv_9_33 rfl hA.1 rfl rfl ⟨rfl, rfl, by decide, by decide⟩ (Nat.le_of_ble_eq_true rfl) w_s0 rfl) d_X9_enter_48.2 (c_X9_isTold κ a hA x4 h_x4 s0) rfl (fun r11 s12 h_r11 w_s12 => ?_)
      refine q_jn (α := Mem → Res) (fun j100 => ∀ (s13 : Mem) (w_s13 : WF s13), EO κ M_X9_enter R_X9_enter 100 [some (vr κ a), some (vi p1), none, some (vi p3), some (vi x4)] [] s13 (j100 s13)) ?_ (fun j100 hj100 => ?_)
      · intro s13 w_s13
        refine q_iinc (x := x4) d_X9_enter_100 rfl rfl ?_
        refine q_goto d_X9_enter_103 ?_
        refine q_sub (ls' := [some (vr κ a), some (vi p1), none, some (vi p3), some (vi (wr (x4 + 1)))]) ⟨rfl, rfl, rfl, rfl, trivial⟩ ?_
        exact ih (wr (x4 + 1)) (inr_wr _) s13 w_s13
      refine q_if_eq d_X9_enter_51 (inr_b h_r11) (fun c14 => ?_) (fun c14 => ?_)
      · refine q_sub (ls' := [some (vr κ a), some (vi p1), none, some (vi p3), some (vi x4)]) ⟨rfl, rfl, rfl, rfl, trivial⟩ ?_
        exact hj100 s12 w_s12
      · refine q_iload_n (x := p3) d_X9_enter_54 rfl ?_
        refine q_iload (x := x4) d_X9_enter_55 rfl ?_
        refine q_ishr d_X9_enter_57 ?_
        refine q_aload_n d_X9_enter_58 rfl ?_
        refine q_getR (n := 3) d_X9_enter_59 hA.1 fi_9_18 rfl (Nat.le_of_ble_eq_true rfl) ?_
        refine q_iload (x := x4) d_X9_enter_62 rfl ?_
        refine q_iaload (m := 12) d_X9_enter_64 hA.2.2.2 (by decide) rfl (fun g15 => ?_)
        refine q_iload_n (x := p1) d_X9_enter_65 rfl ?_
        refine q_ishr d_X9_enter_66 ?_
        refine q_ior d_X9_enter_67 ?_
        refine q_iconst d_X9_enter_68 ?_
        refine q_iand d_X9_enter_69 ?_
        refine q_iconst d_X9_enter_70 ?_
        refine q_icmp_ne d_X9_enter_71 (inr_i32 _) (inr_b (Or.inr rfl)) (fun c16 => ?_) (fun c16 => ?_)
        · refine q_aload_n d_X9_enter_74 rfl ?_
          refine q_getR (n := 2) d_X9_enter_75 hA.1 fi_9_15 rfl (Nat.le_of_ble_eq_true rfl) ?_
          refine q_iload_n (x := p1) d_X9_enter_78 rfl ?_
          refine q_dup2 d_X9_enter_79 rfl rfl ?_
          refine q_iaload (m := 12) d_X9_enter_80 hA.2.2.1 (by decide) rfl (fun g17 => ?_)
          refine q_iconst d_X9_enter_81 ?_
          refine q_iload (x := x4) d_X9_enter_82 rfl ?_
          refine q_ishl d_X9_enter_84 ?_
          refine q_ior d_X9_enter_85 ?_
          refine q_iastore (m := 12) d_X9_enter_86 hA.2.2.1 (by decide) rfl (inr_i32 _) w_s12 (fun g18 s19 w_s19 => ?_)
          refine q_aload_n d_X9_enter_87 rfl ?_
          refine q_getR (n := 2) d_X9_enter_88 hA.1 fi_9_15 rfl (Nat.le_of_ble_eq_true rfl) ?_
          refine q_iload (x := x4) d_X9_enter_91 rfl ?_
          refine q_dup2 d_X9_enter_93 rfl rfl ?_
          refine q_iaload (m := 12) d_X9_enter_94 hA.2.2.1 (by decide) rfl (fun g20 => ?_)
          refine q_iconst d_X9_enter_95 ?_
          refine q_iload_n (x := p1) d_X9_enter_96 rfl ?_
          refine q_ishl d_X9_enter_97 ?_
          refine q_ior d_X9_enter_98 ?_
          refine q_iastore (m := 12) d_X9_enter_99 hA.2.2.1 (by decide) rfl (inr_i32 _) w_s19 (fun g21 s22 w_s22 => ?_)
          refine q_sub (ls' := [some (vr κ a), some (vi p1), none, some (vi p3), some (vi x4)]) ⟨rfl, rfl, rfl, rfl, trivial⟩ ?_
          exact hj100 s22 w_s22
        · refine q_sub (ls' := [some (vr κ a), some (vi p1), none, some (vi p3), some (vi x4)]) ⟨rfl, rfl, rfl, rfl, trivial⟩ ?_
          exact hj100 s12 w_s12
    · refine q_sub (ls' := [none, none, none, none, none]) trivial ?_
      exact hk106 s0 w_s0
set_option maxHeartbeats 4000000 in
set_option maxRecDepth 10000 in
theorem c_X9_enter (κ : Kp) (a : Nat) (hA : At9 κ a) (x1 : Int) (h_x1 : InR x1) (x2 : Int) (h_x2 : InR x2) (x3 : Int) (h_x3 : InR x3) (s0 : Mem) : ∀ r σ', f_X9_enter a x1 x2 x3 s0 = some (r, σ') → Ct κ M_X9_enter R_X9_enter [vr κ a, vi x1, vi x2, vi x3] s0 r σ' := by
  intro r σ' ho
  refine Ct.of (by decide) (Nat.le_of_ble_eq_true rfl) (cat_ok rfl) (fun w_s0 => ?_) ⟨rfl, rfl⟩
  refine q_ent (ls' := [some (vr κ a), some (vi x1), some (vi x2), some (vi x3), none]) (o := f_X9_enter a x1 x2 x3 s0) ⟨rfl, rfl, rfl, rfl, trivial⟩ ?_ ho
  unfold f_X9_enter
  refine q_iload_n (x := x1) d_X9_enter_0 rfl ?_
  refine q_iconst d_X9_enter_1 ?_
  refine q_bipush d_X9_enter_2 rfl ?_
  refine q_callZ (R' := R_X11_within) (runN (As := [vi x1, vi 0, vi 11]) (rest := []) d_X9_enter_4.1 cv_9_29 rfl ⟨rfl, rfl, by decide, by decide⟩ (Nat.le_of_ble_eq_true rfl) w_s0 rfl) d_X9_enter_4.2 (c_X11_within κ x1 h_x1 0 (inr_b (Or.inl rfl)) 11 (inr_d rfl) s0) rfl (fun r1 s2 h_r1 w_s2 => ?_)
  refine q_if_ne d_X9_enter_7 (inr_b h_r1) (fun c3 => ?_) (fun c3 => ?_)
  · exact q_vret d_X9_enter_10 rfl w_s2
  · refine q_aload_n d_X9_enter_11 rfl ?_
    refine q_getR (n := 1) d_X9_enter_12 hA.1 fi_9_9 rfl (Nat.le_of_ble_eq_true rfl) ?_
    refine q_iload_n (x := x1) d_X9_enter_15 rfl ?_
    refine q_iload_n (x := x2) d_X9_enter_16 rfl ?_
    refine q_iastore (m := 12) d_X9_enter_17 hA.2.1 (by decide) rfl h_x2 w_s2 (fun g4 s5 w_s5 => ?_)
    refine q_aload_n d_X9_enter_18 rfl ?_
    refine q_getR (n := 3) d_X9_enter_19 hA.1 fi_9_18 rfl (Nat.le_of_ble_eq_true rfl) ?_
    refine q_iload_n (x := x1) d_X9_enter_22 rfl ?_
    refine q_iload_n (x := x3) d_X9_enter_23 rfl ?_
    refine q_iastore (m := 12) d_X9_enter_24 hA.2.2.2 (by decide) rfl h_x3 w_s5 (fun g6 s7 w_s7 => ?_)
    refine q_aload_n d_X9_enter_25 rfl ?_
    refine q_dup d_X9_enter_26 rfl ?_
    refine q_getI (k := 3) (j := 3) d_X9_enter_27 hA.1 fi_9_25 rfl rfl ?_
    refine q_iconst d_X9_enter_30 ?_
    refine q_iadd d_X9_enter_31 ?_
    refine q_putI (k := 3) (j := 3) d_X9_enter_32 hA.1 fp_9_25 rfl rfl (inr_wr _) w_s7 (fun s8 w_s8 => ?_)
    refine q_iconst d_X9_enter_35 ?_
    refine q_istore d_X9_enter_36 rfl ?_
    refine q_jn (α := Mem → Res) (fun j106 => ∀ (s9 : Mem) (w_s9 : WF s9), EO κ M_X9_enter R_X9_enter 106 [none, none, none, none, none] [] s9 (j106 s9)) ?_ (fun j106 hj106 => ?_)
    · intro s9 w_s9
      exact q_vret d_X9_enter_106 rfl w_s9
    refine q_sub (ls' := [some (vr κ a), some (vi x1), none, some (vi x3), some (vi 0)]) ⟨rfl, rfl, rfl, rfl, trivial⟩ ?_
    exact l_X9_enter_38 κ a hA x1 h_x1 x3 h_x3 j106 hj106 FU 0 (inr_b (Or.inl rfl)) s8 w_s8
abbrev R_X7_villageLine : Room := { frames := 3, cells := 0, slots := 0, locals := 67 }
noncomputable def f_X7_villageLine_94 (a : Nat) (p1 : Int) (k177 : Int → Mem → Res) (k142 : Mem → Res) : Nat → Int → Int → Int → Mem → Res
  | 0, _, _, _, _ => none
  | n + 1, x3, x4, x5, s0 =>
    if x5 < s0 a 11 then (bd (f_X7_next a s0) fun r28 s29 => if r28 = x4 then (lm (mup s29 a 12 (wr ((s29 a 12) + 1))) fun s31 => bd (f_X7_passesNumber a 0 11 s31) fun r32 s33 => if r32 = 0 then (some (0, s33)) else (if s33 a 13 = p1 then (k142 s33) else (f_X7_villageLine_94 a p1 k177 k142 n (ior x3 (ishl 1 (s33 a 13))) 16 (wr (x5 + 1)) s33))) else (k177 x3 s29)) else (k177 x3 s0)
noncomputable def f_X7_villageLine (a : Nat) (s0 : Mem) : Res :=
  bd (f_X7_begins a 25 (s0 (a + 16) 3) s0) fun r1 s2 => if r1 = 0 then (some (0, s2)) else (bd (f_X7_passesNumber a 0 11 s2) fun r4 s5 => if r4 = 0 then (some (0, s5)) else (bd (f_X9_isTold (a + 16) (s5 a 13) s5) fun r7 s8 => if r7 = 0 then (bd (f_X7_passes a 4 s8) fun r10 s11 => if r10 = 0 then (some (0, s11)) else (bd (f_X7_passesNumber a 1 99 s11) fun r13 s14 => if r13 = 0 then (some (0, s14)) else (jn (fun (v16 : Int) (s17 : Mem) => bd (f_X7_passes a 59 s17) fun r18 s19 => if r18 = 0 then (some (0, s19)) else (bd (f_X9_enter (a + 16) (s5 a 13) (s14 a 13) v16 s19) fun r21 s22 => some (1, s22))) fun j177 => jn (fun (s23 : Mem) => lm (mup s23 a 12 (wr ((s23 a 12) - 1))) fun s24 => bd (f_X7_refuse a 2 s24) fun r25 s26 => some (r25, s26)) fun j142 => f_X7_villageLine_94 a (s5 a 13) j177 j142 FU 0 26 0 s14))) else (lm (mup s8 a 12 (wr ((s8 a 12) - 1))) fun s36 => bd (f_X7_refuse a 2 s36) fun r37 s38 => some (r37, s38))))
set_option maxHeartbeats 4000000 in
set_option maxRecDepth 10000 in
theorem l_X7_villageLine_94 (κ : Kp) (a : Nat) (hA : At7 κ a) (p1 : Int) (h_p1 : InR p1) (p2 : Int) (h_p2 : InR p2) (k177 : Int → Mem → Res) (k142 : Mem → Res) (hk177 : ∀ (z3 : Int) (h_z3 : InR z3) (sz : Mem) (w_sz : WF sz), EO κ M_X7_villageLine R_X7_villageLine 177 [some (vr κ a), some (vi p1), some (vi p2), some (vi z3), none, none] [] sz (k177 z3 sz)) (hk142 : ∀ (sz : Mem) (w_sz : WF sz), EO κ M_X7_villageLine R_X7_villageLine 142 [some (vr κ a), none, none, none, none, none] [] sz (k142 sz)) : ∀ (n : Nat) (x3 : Int) (h_x3 : InR x3) (x4 : Int) (h_x4 : InR x4) (x5 : Int) (h_x5 : InR x5) (s0 : Mem) (w_s0 : WF s0), EO κ M_X7_villageLine R_X7_villageLine 94 [some (vr κ a), some (vi p1), some (vi p2), some (vi x3), some (vi x4), some (vi x5)] [] s0 (f_X7_villageLine_94 a p1 k177 k142 n x3 x4 x5 s0) := by
  intro n
  induction n with
  | zero => exact fun _ _ _ _ _ _ _ _ => q_none
  | succ n ih =>
    intro x3 h_x3 x4 h_x4 x5 h_x5 s0 w_s0
    rw [f_X7_villageLine_94]
    refine q_iload (x := x5) d_X7_villageLine_94 rfl ?_
    refine q_aload_n d_X7_villageLine_96 rfl ?_
    refine q_getI (k := 11) (j := 11) d_X7_villageLine_97 hA.1 fi_7_83 rfl rfl ?_
    refine q_icmp_ge d_X7_villageLine_100 h_x5 (w_s0 _ _) (fun c27 => ?_) (fun c27 => ?_)
    · refine q_aload_n d_X7_villageLine_103 rfl ?_
      refine q_callI (R' := R_X7_next) (runV (As := []) (rest := []) d_X7_villageLine_104.1 cv_7_86 rfl hA.1 rfl rfl ⟨rfl, rfl, by decide, by decide⟩ (Nat.le_of_ble_eq_true rfl) w_s0 rfl) d_X7_villageLine_104.2 (c_X7_next κ a hA s0) rfl (fun r28 s29 h_r28 w_s29 => ?_)
      refine q_iload (x := x4) d_X7_villageLine_107 rfl ?_
      refine q_icmp_ne d_X7_villageLine_109 h_r28 h_x4 (fun c30 => ?_) (fun c30 => ?_)
      · refine q_aload_n d_X7_villageLine_112 rfl ?_
        refine q_dup d_X7_villageLine_113 rfl ?_
        refine q_getI (k := 12) (j := 12) d_X7_villageLine_114 hA.1 fi_7_104 rfl rfl ?_
        refine q_iconst d_X7_villageLine_117 ?_
        refine q_iadd d_X7_villageLine_118 ?_
        refine q_putI (k := 12) (j := 12) d_X7_villageLine_119 hA.1 fp_7_104 rfl rfl (inr_wr _) w_s29 (fun s31 w_s31 => ?_)
        refine q_aload_n d_X7_villageLine_122 rfl ?_
        refine q_iconst d_X7_villageLine_123 ?_
        refine q_bipush d_X7_villageLine_124 rfl ?_
        refine q_callZ (R' := R_X7_passesNumber) (runV (As := [vi 0, vi 11]) (rest := []) d_X7_villageLine_126.1 cv_7_181 rfl hA.1 rfl rfl ⟨rfl, rfl, by decide, by decide⟩ (Nat.le_of_ble_eq_true rfl) w_s31 rfl) d_X7_villageLine_126.2 (c_X7_passesNumber κ a hA 0 (inr_b (Or.inl rfl)) 11 (inr_d rfl) s31) rfl (fun r32 s33 h_r32 w_s33 => ?_)
        refine q_if_ne d_X7_villageLine_129 (inr_b h_r32) (fun c34 => ?_) (fun c34 => ?_)
        · refine q_iconst d_X7_villageLine_132 ?_
          exact q_iretz d_X7_villageLine_133 rfl (Or.inl rfl) w_s33
        · refine q_aload_n d_X7_villageLine_134 rfl ?_
          refine q_getI (k := 13) (j := 13) d_X7_villageLine_135 hA.1 fi_7_154 rfl rfl ?_
          refine q_iload_n (x := p1) d_X7_villageLine_138 rfl ?_
          refine q_icmp_ne d_X7_villageLine_139 (w_s33 _ _) h_p1 (fun c35 => ?_) (fun c35 => ?_)
          · refine q_sub (ls' := [some (vr κ a), none, none, none, none, none]) ⟨rfl, trivial⟩ ?_
            exact hk142 s33 w_s33
          · refine q_iload_n (x := x3) d_X7_villageLine_158 rfl ?_
            refine q_iconst d_X7_villageLine_159 ?_
            refine q_aload_n d_X7_villageLine_160 rfl ?_
            refine q_getI (k := 13) (j := 13) d_X7_villageLine_161 hA.1 fi_7_154 rfl rfl ?_
            refine q_ishl d_X7_villageLine_164 ?_
            refine q_ior d_X7_villageLine_165 ?_
            refine q_istore_n d_X7_villageLine_166 rfl ?_
            refine q_bipush d_X7_villageLine_167 rfl ?_
            refine q_istore d_X7_villageLine_169 rfl ?_
            refine q_iinc (x := x5) d_X7_villageLine_171 rfl rfl ?_
            refine q_goto d_X7_villageLine_174 ?_
            refine q_sub (ls' := [some (vr κ a), some (vi p1), some (vi p2), some (vi (ior x3 (ishl 1 (s33 a 13)))), some (vi 16), some (vi (wr (x5 + 1)))]) ⟨rfl, rfl, rfl, rfl, rfl, rfl, trivial⟩ ?_
            exact ih (ior x3 (ishl 1 (s33 a 13))) (inr_i32 _) 16 (inr_d rfl) (wr (x5 + 1)) (inr_wr _) s33 w_s33
      · refine q_sub (ls' := [some (vr κ a), some (vi p1), some (vi p2), some (vi x3), none, none]) ⟨rfl, rfl, rfl, rfl, trivial⟩ ?_
        exact hk177 x3 h_x3 s29 w_s29
    · refine q_sub (ls' := [some (vr κ a), some (vi p1), some (vi p2), some (vi x3), none, none]) ⟨rfl, rfl, rfl, rfl, trivial⟩ ?_
      exact hk177 x3 h_x3 s0 w_s0
set_option maxHeartbeats 4000000 in
set_option maxRecDepth 10000 in
theorem c_X7_villageLine (κ : Kp) (a : Nat) (hA : At7 κ a) (s0 : Mem) : ∀ r σ', f_X7_villageLine a s0 = some (r, σ') → Ct κ M_X7_villageLine R_X7_villageLine [vr κ a] s0 r σ' := by
  intro r σ' ho
  refine Ct.of (by decide) (Nat.le_of_ble_eq_true rfl) (cat_ok rfl) (fun w_s0 => ?_) ⟨rfl, rfl⟩
  refine q_ent (ls' := [some (vr κ a), none, none, none, none, none]) (o := f_X7_villageLine a s0) ⟨rfl, trivial⟩ ?_ ho
  unfold f_X7_villageLine
  refine q_aload_n d_X7_villageLine_0 rfl ?_
  refine q_bipush d_X7_villageLine_1 rfl ?_
  refine q_aload_n d_X7_villageLine_3 rfl ?_
  refine q_getR (n := 16) d_X7_villageLine_4 hA.1 fi_7_35 rfl (Nat.le_of_ble_eq_true rfl) ?_
  refine q_getI (k := 3) (j := 3) d_X7_villageLine_7 hA.2.2.2.2.1.1 fi_7_211 rfl rfl ?_
  refine q_callZ (R' := R_X7_begins) (runV (As := [vi 25, vi (s0 (a + 16) 3)]) (rest := []) d_X7_villageLine_10.1 cv_7_157 rfl hA.1 rfl rfl ⟨rfl, rfl, by decide, by decide⟩ (Nat.le_of_ble_eq_true rfl) w_s0 rfl) d_X7_villageLine_10.2 (c_X7_begins κ a hA 25 (inr_d rfl) (s0 (a + 16) 3) (w_s0 _ _) s0) rfl (fun r1 s2 h_r1 w_s2 => ?_)
  refine q_if_eq d_X7_villageLine_13 (inr_b h_r1) (fun c3 => ?_) (fun c3 => ?_)
  · refine q_iconst d_X7_villageLine_26 ?_
    exact q_iretz d_X7_villageLine_27 rfl (Or.inl rfl) w_s2
  · refine q_aload_n d_X7_villageLine_16 rfl ?_
    refine q_iconst d_X7_villageLine_17 ?_
    refine q_bipush d_X7_villageLine_18 rfl ?_
    refine q_callZ (R' := R_X7_passesNumber) (runV (As := [vi 0, vi 11]) (rest := []) d_X7_villageLine_20.1 cv_7_181 rfl hA.1 rfl rfl ⟨rfl, rfl, by decide, by decide⟩ (Nat.le_of_ble_eq_true rfl) w_s2 rfl) d_X7_villageLine_20.2 (c_X7_passesNumber κ a hA 0 (inr_b (Or.inl rfl)) 11 (inr_d rfl) s2) rfl (fun r4 s5 h_r4 w_s5 => ?_)
    refine q_if_ne d_X7_villageLine_23 (inr_b h_r4) (fun c6 => ?_) (fun c6 => ?_)
    · refine q_iconst d_X7_villageLine_26 ?_
      exact q_iretz d_X7_villageLine_27 rfl (Or.inl rfl) w_s5
    · refine q_aload_n d_X7_villageLine_28 rfl ?_
      refine q_getI (k := 13) (j := 13) d_X7_villageLine_29 hA.1 fi_7_154 rfl rfl ?_
      refine q_istore_n d_X7_villageLine_32 rfl ?_
      refine q_aload_n d_X7_villageLine_33 rfl ?_
      refine q_getR (n := 16) d_X7_villageLine_34 hA.1 fi_7_35 rfl (Nat.le_of_ble_eq_true rfl) ?_
      refine q_iload_n (x := s5 a 13) d_X7_villageLine_37 rfl ?_
      refine q_callZ (R' := R_X9_isTold) (runV (As := [vi (s5 a 13)]) (rest := []) d_X7_villageLine_38.1 cv_7_212 rfl hA.2.2.2.2.1.1 rfl rfl ⟨rfl, rfl, by decide, by decide⟩ (Nat.le_of_ble_eq_true rfl) w_s5 rfl) d_X7_villageLine_38.2 (c_X9_isTold κ (a + 16) hA.2.2.2.2.1 (s5 a 13) (w_s5 _ _) s5) rfl (fun r7 s8 h_r7 w_s8 => ?_)
      refine q_if_eq d_X7_villageLine_41 (inr_b h_r7) (fun c9 => ?_) (fun c9 => ?_)
      · refine q_aload_n d_X7_villageLine_60 rfl ?_
        refine q_iconst d_X7_villageLine_61 ?_
        refine q_callZ (R' := R_X7_passes) (runV (As := [vi 4]) (rest := []) d_X7_villageLine_62.1 cv_7_167 rfl hA.1 rfl rfl ⟨rfl, rfl, by decide, by decide⟩ (Nat.le_of_ble_eq_true rfl) w_s8 rfl) d_X7_villageLine_62.2 (c_X7_passes κ a hA 4 (inr_d rfl) s8) rfl (fun r10 s11 h_r10 w_s11 => ?_)
        refine q_if_eq d_X7_villageLine_65 (inr_b h_r10) (fun c12 => ?_) (fun c12 => ?_)
        · refine q_iconst d_X7_villageLine_78 ?_
          exact q_iretz d_X7_villageLine_79 rfl (Or.inl rfl) w_s11
        · refine q_aload_n d_X7_villageLine_68 rfl ?_
          refine q_iconst d_X7_villageLine_69 ?_
          refine q_bipush d_X7_villageLine_70 rfl ?_
          refine q_callZ (R' := R_X7_passesNumber) (runV (As := [vi 1, vi 99]) (rest := []) d_X7_villageLine_72.1 cv_7_181 rfl hA.1 rfl rfl ⟨rfl, rfl, by decide, by decide⟩ (Nat.le_of_ble_eq_true rfl) w_s11 rfl) d_X7_villageLine_72.2 (c_X7_passesNumber κ a hA 1 (inr_b (Or.inr rfl)) 99 (inr_d rfl) s11) rfl (fun r13 s14 h_r13 w_s14 => ?_)
          refine q_if_ne d_X7_villageLine_75 (inr_b h_r13) (fun c15 => ?_) (fun c15 => ?_)
          · refine q_iconst d_X7_villageLine_78 ?_
            exact q_iretz d_X7_villageLine_79 rfl (Or.inl rfl) w_s14
          · refine q_aload_n d_X7_villageLine_80 rfl ?_
            refine q_getI (k := 13) (j := 13) d_X7_villageLine_81 hA.1 fi_7_154 rfl rfl ?_
            refine q_istore_n d_X7_villageLine_84 rfl ?_
            refine q_iconst d_X7_villageLine_85 ?_
            refine q_istore_n d_X7_villageLine_86 rfl ?_
            refine q_bipush d_X7_villageLine_87 rfl ?_
            refine q_istore d_X7_villageLine_89 rfl ?_
            refine q_iconst d_X7_villageLine_91 ?_
            refine q_istore d_X7_villageLine_92 rfl ?_
            refine q_jn (α := Int → Mem → Res) (fun j177 => ∀ (v16 : Int) (h_v16 : InR v16) (s17 : Mem) (w_s17 : WF s17), EO κ M_X7_villageLine R_X7_villageLine 177 [some (vr κ a), some (vi (s5 a 13)), some (vi (s14 a 13)), some (vi v16), none, none] [] s17 (j177 v16 s17)) ?_ (fun j177 hj177 => ?_)
            · intro v16 h_v16 s17 w_s17
              refine q_aload_n d_X7_villageLine_177 rfl ?_
              refine q_bipush d_X7_villageLine_178 rfl ?_
              refine q_callZ (R' := R_X7_passes) (runV (As := [vi 59]) (rest := []) d_X7_villageLine_180.1 cv_7_167 rfl hA.1 rfl rfl ⟨rfl, rfl, by decide, by decide⟩ (Nat.le_of_ble_eq_true rfl) w_s17 rfl) d_X7_villageLine_180.2 (c_X7_passes κ a hA 59 (inr_d rfl) s17) rfl (fun r18 s19 h_r18 w_s19 => ?_)
              refine q_if_ne d_X7_villageLine_183 (inr_b h_r18) (fun c20 => ?_) (fun c20 => ?_)
              · refine q_iconst d_X7_villageLine_186 ?_
                exact q_iretz d_X7_villageLine_187 rfl (Or.inl rfl) w_s19
              · refine q_aload_n d_X7_villageLine_188 rfl ?_
                refine q_getR (n := 16) d_X7_villageLine_189 hA.1 fi_7_35 rfl (Nat.le_of_ble_eq_true rfl) ?_
                refine q_iload_n (x := s5 a 13) d_X7_villageLine_192 rfl ?_
                refine q_iload_n (x := s14 a 13) d_X7_villageLine_193 rfl ?_
                refine q_iload_n (x := v16) d_X7_villageLine_194 rfl ?_
                refine q_callV (R' := R_X9_enter) (runV (As := [vi (s5 a 13), vi (s14 a 13), vi v16]) (rest := []) d_X7_villageLine_195.1 cv_7_215 rfl hA.2.2.2.2.1.1 rfl rfl ⟨rfl, rfl, by decide, by decide⟩ (Nat.le_of_ble_eq_true rfl) w_s19 rfl) d_X7_villageLine_195.2 (c_X9_enter κ (a + 16) hA.2.2.2.2.1 (s5 a 13) (w_s5 _ _) (s14 a 13) (w_s14 _ _) v16 h_v16 s19) rfl (fun r21 s22 w_s22 => ?_)
                refine q_iconst d_X7_villageLine_198 ?_
                exact q_iretz d_X7_villageLine_199 rfl (Or.inr rfl) w_s22
            refine q_jn (α := Mem → Res) (fun j142 => ∀ (s23 : Mem) (w_s23 : WF s23), EO κ M_X7_villageLine R_X7_villageLine 142 [some (vr κ a), none, none, none, none, none] [] s23 (j142 s23)) ?_ (fun j142 hj142 => ?_)
            · intro s23 w_s23
              refine q_aload_n d_X7_villageLine_142 rfl ?_
              refine q_dup d_X7_villageLine_143 rfl ?_
              refine q_getI (k := 12) (j := 12) d_X7_villageLine_144 hA.1 fi_7_104 rfl rfl ?_
              refine q_iconst d_X7_villageLine_147 ?_
              refine q_isub d_X7_villageLine_148 ?_
              refine q_putI (k := 12) (j := 12) d_X7_villageLine_149 hA.1 fp_7_104 rfl rfl (inr_wr _) w_s23 (fun s24 w_s24 => ?_)
              refine q_aload_n d_X7_villageLine_152 rfl ?_
              refine q_iconst d_X7_villageLine_153 ?_
              refine q_callZ (R' := R_X7_refuse) (runV (As := [vi 2]) (rest := []) d_X7_villageLine_154.1 cv_7_151 rfl hA.1 rfl rfl ⟨rfl, rfl, by decide, by decide⟩ (Nat.le_of_ble_eq_true rfl) w_s24 rfl) d_X7_villageLine_154.2 (c_X7_refuse κ a hA 2 (inr_d rfl) s24) rfl (fun r25 s26 h_r25 w_s26 => ?_)
              exact q_iretz d_X7_villageLine_157 rfl h_r25 w_s26
            refine q_sub (ls' := [some (vr κ a), some (vi (s5 a 13)), some (vi (s14 a 13)), some (vi 0), some (vi 26), some (vi 0)]) ⟨rfl, rfl, rfl, rfl, rfl, rfl, trivial⟩ ?_
            exact l_X7_villageLine_94 κ a hA (s5 a 13) (w_s5 _ _) (s14 a 13) (w_s14 _ _) j177 j142 hj177 hj142 FU 0 (inr_b (Or.inl rfl)) 26 (inr_d rfl) 0 (inr_b (Or.inl rfl)) s14 w_s14
      · refine q_aload_n d_X7_villageLine_44 rfl ?_
        refine q_dup d_X7_villageLine_45 rfl ?_
        refine q_getI (k := 12) (j := 12) d_X7_villageLine_46 hA.1 fi_7_104 rfl rfl ?_
        refine q_iconst d_X7_villageLine_49 ?_
        refine q_isub d_X7_villageLine_50 ?_
        refine q_putI (k := 12) (j := 12) d_X7_villageLine_51 hA.1 fp_7_104 rfl rfl (inr_wr _) w_s8 (fun s36 w_s36 => ?_)
        refine q_aload_n d_X7_villageLine_54 rfl ?_
        refine q_iconst d_X7_villageLine_55 ?_
        refine q_callZ (R' := R_X7_refuse) (runV (As := [vi 2]) (rest := []) d_X7_villageLine_56.1 cv_7_151 rfl hA.1 rfl rfl ⟨rfl, rfl, by decide, by decide⟩ (Nat.le_of_ble_eq_true rfl) w_s36 rfl) d_X7_villageLine_56.2 (c_X7_refuse κ a hA 2 (inr_d rfl) s36) rfl (fun r37 s38 h_r37 w_s38 => ?_)
        exact q_iretz d_X7_villageLine_59 rfl h_r37 w_s38
abbrev R_X7_reads : Room := { frames := 6, cells := 0, slots := 0, locals := 135 }
noncomputable def f_X7_reads_71 (a : Nat) (p1 : Int) (p2 : Int) : Nat → Int → Mem → Res
  | 0, _, _ => none
  | n + 1, x3, s0 =>
    if x3 < s0 a 11 then (bd (f_X7_next a s0) fun r16 s17 => if r16 = 30 then (some (1, s17)) else (jn (fun (v19 : Int) (s20 : Mem) => if v19 = 0 then (some (0, s20)) else (f_X7_reads_71 a p1 p2 n (wr (x3 + 1)) s20)) fun j150 => if p1 = 0 then (bd (f_X7_lawLine a s17) fun r23 s24 => j150 r23 s24) else (if p1 = 1 then (bd (f_X7_currentLine a s17) fun r26 s27 => j150 r26 s27) else (if p1 = 2 then (bd (f_X7_planLine a p2 s17) fun r29 s30 => j150 r29 s30) else (bd (f_X7_villageLine a s17) fun r31 s32 => j150 r31 s32))))) else (some (1, s0))
noncomputable def f_X7_reads (a : Nat) (x1 : Int) (x2 : Int) (s0 : Mem) : Res :=
  lm (mup s0 a 5 0) fun s1 => lm (mup s1 a 6 (-1)) fun s2 => bd (f_X7_cut a s2) fun r3 s4 => lm (mup s4 a 4 0) fun s5 => bd (f_X11_within x1 0 3 s5) fun r6 s7 => if r6 = 0 then (some (0, s7)) else (lm (mup s7 (a + 1) 4 0) fun s9 => lm (mup s9 (a + 1) 5 0) fun s10 => lm (mup s10 (a + 8) 2 0) fun s11 => lm (mup s11 (a + 11) 4 0) fun s12 => bd (f_X9_clear (a + 16) s12) fun r13 s14 => f_X7_reads_71 a x1 x2 FU 0 s14)
set_option maxHeartbeats 4000000 in
set_option maxRecDepth 10000 in
theorem l_X7_reads_71 (κ : Kp) (a : Nat) (hA : At7 κ a) (p1 : Int) (h_p1 : InR p1) (p2 : Int) (h_p2 : InR p2)   : ∀ (n : Nat) (x3 : Int) (h_x3 : InR x3) (s0 : Mem) (w_s0 : WF s0), EO κ M_X7_reads R_X7_reads 71 [some (vr κ a), some (vi p1), some (vi p2), some (vi x3), none] [] s0 (f_X7_reads_71 a p1 p2 n x3 s0) := by
  intro n
  induction n with
  | zero => exact fun _ _ _ _ => q_none
  | succ n ih =>
    intro x3 h_x3 s0 w_s0
    rw [f_X7_reads_71]
    refine q_iload_n (x := x3) d_X7_reads_71 rfl ?_
    refine q_aload_n d_X7_reads_72 rfl ?_
    refine q_getI (k := 11) (j := 11) d_X7_reads_73 hA.1 fi_7_83 rfl rfl ?_
    refine q_icmp_ge d_X7_reads_76 h_x3 (w_s0 _ _) (fun c15 => ?_) (fun c15 => ?_)
    · refine q_aload_n d_X7_reads_79 rfl ?_
      refine q_callI (R' := R_X7_next) (runV (As := []) (rest := []) d_X7_reads_80.1 cv_7_86 rfl hA.1 rfl rfl ⟨rfl, rfl, by decide, by decide⟩ (Nat.le_of_ble_eq_true rfl) w_s0 rfl) d_X7_reads_80.2 (c_X7_next κ a hA s0) rfl (fun r16 s17 h_r16 w_s17 => ?_)
      refine q_bipush d_X7_reads_83 rfl ?_
      refine q_icmp_eq d_X7_reads_85 h_r16 (inr_d rfl) (fun c18 => ?_) (fun c18 => ?_)
      · refine q_iconst d_X7_reads_163 ?_
        exact q_iretz d_X7_reads_164 rfl (Or.inr rfl) w_s17
      · refine q_iload_n (x := p1) d_X7_reads_88 rfl ?_
        refine q_jn (α := Int → Mem → Res) (fun j150 => ∀ (v19 : Int) (h_v19 : v19 = 0 ∨ v19 = 1) (s20 : Mem) (w_s20 : WF s20), EO κ M_X7_reads R_X7_reads 150 [some (vr κ a), some (vi p1), some (vi p2), some (vi x3), some (vi v19)] [] s20 (j150 v19 s20)) ?_ (fun j150 hj150 => ?_)
        · intro v19 h_v19 s20 w_s20
          refine q_iload (x := v19) d_X7_reads_150 rfl ?_
          refine q_if_ne d_X7_reads_152 (inr_b h_v19) (fun c21 => ?_) (fun c21 => ?_)
          · refine q_iconst d_X7_reads_155 ?_
            exact q_iretz d_X7_reads_156 rfl (Or.inl rfl) w_s20
          · refine q_iinc (x := x3) d_X7_reads_157 rfl rfl ?_
            refine q_goto d_X7_reads_160 ?_
            refine q_sub (ls' := [some (vr κ a), some (vi p1), some (vi p2), some (vi (wr (x3 + 1))), none]) ⟨rfl, rfl, rfl, rfl, trivial⟩ ?_
            exact ih (wr (x3 + 1)) (inr_wr _) s20 w_s20
        refine q_ite (fun c22 => ?_) (fun c22 => ?_)
        · refine q_tswC (tgt := 116) d_X7_reads_89 h_p1 c22 (by decide) (by decide) rfl (by decide) ?_
          refine q_aload_n d_X7_reads_116 rfl ?_
          refine q_callZ (R' := R_X7_lawLine) (runV (As := []) (rest := []) d_X7_reads_117.1 cv_7_90 rfl hA.1 rfl rfl ⟨rfl, rfl, by decide, by decide⟩ (Nat.le_of_ble_eq_true rfl) w_s17 rfl) d_X7_reads_117.2 (c_X7_lawLine κ a hA s17) rfl (fun r23 s24 h_r23 w_s24 => ?_)
          refine q_istore d_X7_reads_120 rfl ?_
          refine q_goto d_X7_reads_122 ?_
          refine q_sub (ls' := [some (vr κ a), some (vi p1), some (vi p2), some (vi x3), some (vi r23)]) ⟨rfl, rfl, rfl, rfl, rfl, trivial⟩ ?_
          exact hj150 r23 h_r23 s24 w_s24
        refine q_ite (fun c25 => ?_) (fun c25 => ?_)
        · refine q_tswC (tgt := 125) d_X7_reads_89 h_p1 c25 (by decide) (by decide) rfl (by decide) ?_
          refine q_aload_n d_X7_reads_125 rfl ?_
          refine q_callZ (R' := R_X7_currentLine) (runV (As := []) (rest := []) d_X7_reads_126.1 cv_7_94 rfl hA.1 rfl rfl ⟨rfl, rfl, by decide, by decide⟩ (Nat.le_of_ble_eq_true rfl) w_s17 rfl) d_X7_reads_126.2 (c_X7_currentLine κ a hA s17) rfl (fun r26 s27 h_r26 w_s27 => ?_)
          refine q_istore d_X7_reads_129 rfl ?_
          refine q_goto d_X7_reads_131 ?_
          refine q_sub (ls' := [some (vr κ a), some (vi p1), some (vi p2), some (vi x3), some (vi r26)]) ⟨rfl, rfl, rfl, rfl, rfl, trivial⟩ ?_
          exact hj150 r26 h_r26 s27 w_s27
        refine q_ite (fun c28 => ?_) (fun c28 => ?_)
        · refine q_tswC (tgt := 134) d_X7_reads_89 h_p1 c28 (by decide) (by decide) rfl (by decide) ?_
          refine q_aload_n d_X7_reads_134 rfl ?_
          refine q_iload_n (x := p2) d_X7_reads_135 rfl ?_
          refine q_callZ (R' := R_X7_planLine) (runV (As := [vi p2]) (rest := []) d_X7_reads_136.1 cv_7_97 rfl hA.1 rfl rfl ⟨rfl, rfl, by decide, by decide⟩ (Nat.le_of_ble_eq_true rfl) w_s17 rfl) d_X7_reads_136.2 (c_X7_planLine κ a hA p2 h_p2 s17) rfl (fun r29 s30 h_r29 w_s30 => ?_)
          refine q_istore d_X7_reads_139 rfl ?_
          refine q_goto d_X7_reads_141 ?_
          refine q_sub (ls' := [some (vr κ a), some (vi p1), some (vi p2), some (vi x3), some (vi r29)]) ⟨rfl, rfl, rfl, rfl, rfl, trivial⟩ ?_
          exact hj150 r29 h_r29 s30 w_s30
        refine q_tswD (tgt := 144) d_X7_reads_89 h_p1 (by omega) (by decide) ?_
        refine q_aload_n d_X7_reads_144 rfl ?_
        refine q_callZ (R' := R_X7_villageLine) (runV (As := []) (rest := []) d_X7_reads_145.1 cv_7_101 rfl hA.1 rfl rfl ⟨rfl, rfl, by decide, by decide⟩ (Nat.le_of_ble_eq_true rfl) w_s17 rfl) d_X7_reads_145.2 (c_X7_villageLine κ a hA s17) rfl (fun r31 s32 h_r31 w_s32 => ?_)
        refine q_istore d_X7_reads_148 rfl ?_
        refine q_sub (ls' := [some (vr κ a), some (vi p1), some (vi p2), some (vi x3), some (vi r31)]) ⟨rfl, rfl, rfl, rfl, rfl, trivial⟩ ?_
        exact hj150 r31 h_r31 s32 w_s32
    · refine q_iconst d_X7_reads_163 ?_
      exact q_iretz d_X7_reads_164 rfl (Or.inr rfl) w_s0
set_option maxHeartbeats 4000000 in
set_option maxRecDepth 10000 in
theorem c_X7_reads (κ : Kp) (a : Nat) (hA : At7 κ a) (x1 : Int) (h_x1 : InR x1) (x2 : Int) (h_x2 : InR x2) (s0 : Mem) : ∀ r σ', f_X7_reads a x1 x2 s0 = some (r, σ') → Ct κ M_X7_reads R_X7_reads [vr κ a, vi x1, vi x2] s0 r σ' := by
  intro r σ' ho
  refine Ct.of (by decide) (Nat.le_of_ble_eq_true rfl) (cat_ok rfl) (fun w_s0 => ?_) ⟨rfl, rfl⟩
  refine q_ent (ls' := [some (vr κ a), some (vi x1), some (vi x2), none, none]) (o := f_X7_reads a x1 x2 s0) ⟨rfl, rfl, rfl, trivial⟩ ?_ ho
  unfold f_X7_reads
  refine q_aload_n d_X7_reads_0 rfl ?_
  refine q_iconst d_X7_reads_1 ?_
  refine q_putI (k := 5) (j := 5) d_X7_reads_2 hA.1 fp_7_62 rfl rfl (inr_b (Or.inl rfl)) w_s0 (fun s1 w_s1 => ?_)
  refine q_aload_n d_X7_reads_5 rfl ?_
  refine q_iconst d_X7_reads_6 ?_
  refine q_putI (k := 6) (j := 6) d_X7_reads_7 hA.1 fp_7_39 rfl rfl (inr_d rfl) w_s1 (fun s2 w_s2 => ?_)
  refine q_aload_n d_X7_reads_10 rfl ?_
  refine q_callV (R' := R_X7_cut) (runV (As := []) (rest := []) d_X7_reads_11.1 cv_7_65 rfl hA.1 rfl rfl ⟨rfl, rfl, by decide, by decide⟩ (Nat.le_of_ble_eq_true rfl) w_s2 rfl) d_X7_reads_11.2 (c_X7_cut κ a hA s2) rfl (fun r3 s4 w_s4 => ?_)
  refine q_aload_n d_X7_reads_14 rfl ?_
  refine q_iconst d_X7_reads_15 ?_
  refine q_putI (k := 4) (j := 4) d_X7_reads_16 hA.1 fp_7_59 rfl rfl (inr_b (Or.inl rfl)) w_s4 (fun s5 w_s5 => ?_)
  refine q_iload_n (x := x1) d_X7_reads_19 rfl ?_
  refine q_iconst d_X7_reads_20 ?_
  refine q_iconst d_X7_reads_21 ?_
  refine q_callZ (R' := R_X11_within) (runN (As := [vi x1, vi 0, vi 3]) (rest := []) d_X7_reads_22.1 cv_7_68 rfl ⟨rfl, rfl, by decide, by decide⟩ (Nat.le_of_ble_eq_true rfl) w_s5 rfl) d_X7_reads_22.2 (c_X11_within κ x1 h_x1 0 (inr_b (Or.inl rfl)) 3 (inr_d rfl) s5) rfl (fun r6 s7 h_r6 w_s7 => ?_)
  refine q_if_ne d_X7_reads_25 (inr_b h_r6) (fun c8 => ?_) (fun c8 => ?_)
  · refine q_iconst d_X7_reads_28 ?_
    exact q_iretz d_X7_reads_29 rfl (Or.inl rfl) w_s7
  · refine q_aload_n d_X7_reads_30 rfl ?_
    refine q_getR (n := 1) d_X7_reads_31 hA.1 fi_7_12 rfl (Nat.le_of_ble_eq_true rfl) ?_
    refine q_iconst d_X7_reads_34 ?_
    refine q_putI (k := 4) (j := 4) d_X7_reads_35 hA.2.1.1 fp_7_72 rfl rfl (inr_b (Or.inl rfl)) w_s7 (fun s9 w_s9 => ?_)
    refine q_aload_n d_X7_reads_38 rfl ?_
    refine q_getR (n := 1) d_X7_reads_39 hA.1 fi_7_12 rfl (Nat.le_of_ble_eq_true rfl) ?_
    refine q_iconst d_X7_reads_42 ?_
    refine q_putI (k := 5) (j := 5) d_X7_reads_43 hA.2.1.1 fp_7_75 rfl rfl (inr_b (Or.inl rfl)) w_s9 (fun s10 w_s10 => ?_)
    refine q_aload_n d_X7_reads_46 rfl ?_
    refine q_getR (n := 8) d_X7_reads_47 hA.1 fi_7_21 rfl (Nat.le_of_ble_eq_true rfl) ?_
    refine q_iconst d_X7_reads_50 ?_
    refine q_putI (k := 2) (j := 2) d_X7_reads_51 hA.2.2.1.1 fp_7_78 rfl rfl (inr_b (Or.inl rfl)) w_s10 (fun s11 w_s11 => ?_)
    refine q_aload_n d_X7_reads_54 rfl ?_
    refine q_getR (n := 11) d_X7_reads_55 hA.1 fi_7_28 rfl (Nat.le_of_ble_eq_true rfl) ?_
    refine q_iconst d_X7_reads_58 ?_
    refine q_putI (k := 4) (j := 4) d_X7_reads_59 hA.2.2.2.1.1 fp_7_79 rfl rfl (inr_b (Or.inl rfl)) w_s11 (fun s12 w_s12 => ?_)
    refine q_aload_n d_X7_reads_62 rfl ?_
    refine q_getR (n := 16) d_X7_reads_63 hA.1 fi_7_35 rfl (Nat.le_of_ble_eq_true rfl) ?_
    refine q_callV (R' := R_X9_clear) (runV (As := []) (rest := []) d_X7_reads_66.1 cv_7_80 rfl hA.2.2.2.2.1.1 rfl rfl ⟨rfl, rfl, by decide, by decide⟩ (Nat.le_of_ble_eq_true rfl) w_s12 rfl) d_X7_reads_66.2 (c_X9_clear κ (a + 16) hA.2.2.2.2.1 s12) rfl (fun r13 s14 w_s14 => ?_)
    refine q_iconst d_X7_reads_69 ?_
    refine q_istore_n d_X7_reads_70 rfl ?_
    refine q_sub (ls' := [some (vr κ a), some (vi x1), some (vi x2), some (vi 0), none]) ⟨rfl, rfl, rfl, rfl, trivial⟩ ?_
    exact l_X7_reads_71 κ a hA x1 h_x1 x2 h_x2   FU 0 (inr_b (Or.inl rfl)) s14 w_s14
abbrev R_X8_begin : Room := { frames := 3, cells := 0, slots := 0, locals := 102 }
noncomputable def f_X8_begin (a : Nat) (a1 : Nat) (s0 : Mem) : Res :=
  gd ((0 : Int) ≤ 0 ∧ (0 : Int) < 11) (bd (f_X4_become ((a + 1) + 3 + 9 * (0 : Int).toNat) (a1 + 1) s0) fun r2 s3 => gd ((0 : Int) ≤ 0 ∧ (0 : Int) < 11) (some (((((a + 1) + 3 + 9 * (0 : Int).toNat) : Nat) : Int), s3)))
set_option maxHeartbeats 4000000 in
set_option maxRecDepth 10000 in
theorem c_X8_begin (κ : Kp) (a : Nat) (hA : At8 κ a) (a1 : Nat) (hA1 : At10 κ a1) (s0 : Mem) : ∀ r σ', f_X8_begin a a1 s0 = some (r, σ') → Ct κ M_X8_begin R_X8_begin [vr κ a, vr κ a1] s0 r σ' := by
  intro r σ' ho
  refine Ct.of (by decide) (Nat.le_of_ble_eq_true rfl) (cat_ok rfl) (fun w_s0 => ?_) ⟨rfl, rfl⟩
  refine q_ent (ls' := [some (vr κ a), some (vr κ a1)]) (o := f_X8_begin a a1 s0) ⟨rfl, rfl, trivial⟩ ?_ ho
  unfold f_X8_begin
  refine q_aload_n d_X8_begin_0 rfl ?_
  refine q_getR (n := 1) d_X8_begin_1 hA.1 fi_8_11 rfl (Nat.le_of_ble_eq_true rfl) ?_
  refine q_iconst d_X8_begin_4 ?_
  refine q_aaload (m := 11) d_X8_begin_5 hA.2.1 (by decide) (by decide) rfl (fun g1 => ?_)
  refine q_aload_n d_X8_begin_6 rfl ?_
  refine q_getR (n := 1) d_X8_begin_7 hA1.1 fi_8_25 rfl (Nat.le_of_ble_eq_true rfl) ?_
  refine q_callV (R' := R_X4_become) (runV (As := [vr κ (a1 + 1)]) (rest := []) d_X8_begin_10.1 cv_8_31 rfl (hA.2.2.1 _ (toNat_lt g1)).1 rfl rfl ⟨rfl, rfl, by decide, by decide⟩ (Nat.le_of_ble_eq_true rfl) w_s0 rfl) d_X8_begin_10.2 (c_X4_become κ ((a + 1) + 3 + 9 * (0 : Int).toNat) (hA.2.2.1 _ (toNat_lt g1)) (a1 + 1) hA1.2.1 s0) rfl (fun r2 s3 w_s3 => ?_)
  refine q_aload_n d_X8_begin_13 rfl ?_
  refine q_getR (n := 1) d_X8_begin_14 hA.1 fi_8_11 rfl (Nat.le_of_ble_eq_true rfl) ?_
  refine q_iconst d_X8_begin_17 ?_
  refine q_aaload (m := 11) d_X8_begin_18 hA.2.1 (by decide) (by decide) rfl (fun g4 => ?_)
  exact q_aret d_X8_begin_19 rfl (isN_le hA.2.2.2 (hA.2.2.1 _ (toNat_lt g4))) w_s3
abbrev R_X10_write : Room := { frames := 1, cells := 0, slots := 0, locals := 22 }
noncomputable def f_X10_write (a : Nat) (a1 : Nat) (x2 : Int) (x3 : Int) (x4 : Int) (x5 : Int) (s0 : Mem) : Res :=
  if x5 = 0 then (some (0, s0)) else (bd (f_X11_within (s0 a1 16) 0 149 s0) fun r2 s3 => if r2 = 0 then (some (0, s3)) else (gd ((0 : Int) ≤ wr (4 * (s3 a1 16)) ∧ wr (4 * (s3 a1 16)) < 600) (lm (mup s3 (a + 10) (wr (4 * (s3 a1 16))) (s3 a1 14)) fun s6 => gd ((0 : Int) ≤ wr ((wr (4 * (s3 a1 16))) + 1) ∧ wr ((wr (4 * (s3 a1 16))) + 1) < 600) (lm (mup s6 (a + 10) (wr ((wr (4 * (s3 a1 16))) + 1)) x2) fun s8 => gd ((0 : Int) ≤ wr ((wr (4 * (s3 a1 16))) + 2) ∧ wr ((wr (4 * (s3 a1 16))) + 2) < 600) (lm (mup s8 (a + 10) (wr ((wr (4 * (s3 a1 16))) + 2)) x3) fun s10 => gd ((0 : Int) ≤ wr ((wr (4 * (s3 a1 16))) + 3) ∧ wr ((wr (4 * (s3 a1 16))) + 3) < 600) (lm (mup s10 (a + 10) (wr ((wr (4 * (s3 a1 16))) + 3)) x4) fun s12 => lm (mup s12 a1 16 (wr ((s12 a1 16) + 1))) fun s13 => some (0, s13)))))))
set_option maxHeartbeats 4000000 in
set_option maxRecDepth 10000 in
theorem c_X10_write (κ : Kp) (a : Nat) (hA : At10 κ a) (a1 : Nat) (hA1 : At4 κ a1) (x2 : Int) (h_x2 : InR x2) (x3 : Int) (h_x3 : InR x3) (x4 : Int) (h_x4 : InR x4) (x5 : Int) (h_x5 : InR x5) (s0 : Mem) : ∀ r σ', f_X10_write a a1 x2 x3 x4 x5 s0 = some (r, σ') → Ct κ M_X10_write R_X10_write [vr κ a, vr κ a1, vi x2, vi x3, vi x4, vi x5] s0 r σ' := by
  intro r σ' ho
  refine Ct.of (by decide) (Nat.le_of_ble_eq_true rfl) (cat_ok rfl) (fun w_s0 => ?_) ⟨rfl, rfl⟩
  refine q_ent (ls' := [some (vr κ a), some (vr κ a1), some (vi x2), some (vi x3), some (vi x4), some (vi x5), none]) (o := f_X10_write a a1 x2 x3 x4 x5 s0) ⟨rfl, rfl, rfl, rfl, rfl, rfl, trivial⟩ ?_ ho
  unfold f_X10_write
  refine q_iload (x := x5) d_X10_write_0 rfl ?_
  refine q_if_eq d_X10_write_2 h_x5 (fun c1 => ?_) (fun c1 => ?_)
  · exact q_vret d_X10_write_19 rfl w_s0
  · refine q_aload_n d_X10_write_5 rfl ?_
    refine q_getI (k := 16) (j := 16) d_X10_write_6 hA1.1 fi_10_198 rfl rfl ?_
    refine q_iconst d_X10_write_9 ?_
    refine q_sipush d_X10_write_10 rfl ?_
    refine q_callZ (R' := R_X11_within) (runN (As := [vi (s0 a1 16), vi 0, vi 149]) (rest := []) d_X10_write_13.1 cv_10_200 rfl ⟨rfl, rfl, by decide, by decide⟩ (Nat.le_of_ble_eq_true rfl) w_s0 rfl) d_X10_write_13.2 (c_X11_within κ (s0 a1 16) (w_s0 _ _) 0 (inr_b (Or.inl rfl)) 149 (inr_d rfl) s0) rfl (fun r2 s3 h_r2 w_s3 => ?_)
    refine q_if_ne d_X10_write_16 (inr_b h_r2) (fun c4 => ?_) (fun c4 => ?_)
    · exact q_vret d_X10_write_19 rfl w_s3
    · refine q_iconst d_X10_write_20 ?_
      refine q_aload_n d_X10_write_21 rfl ?_
      refine q_getI (k := 16) (j := 16) d_X10_write_22 hA1.1 fi_10_198 rfl rfl ?_
      refine q_imul d_X10_write_25 ?_
      refine q_istore d_X10_write_26 rfl ?_
      refine q_aload_n d_X10_write_28 rfl ?_
      refine q_getR (n := 10) d_X10_write_29 hA.1 fi_10_18 rfl (Nat.le_of_ble_eq_true rfl) ?_
      refine q_iload (x := wr (4 * (s3 a1 16))) d_X10_write_32 rfl ?_
      refine q_aload_n d_X10_write_34 rfl ?_
      refine q_getI (k := 14) (j := 14) d_X10_write_35 hA1.1 fi_10_97 rfl rfl ?_
      refine q_iastore (m := 600) d_X10_write_38 hA.2.2.1 (by decide) rfl (w_s3 _ _) w_s3 (fun g5 s6 w_s6 => ?_)
      refine q_aload_n d_X10_write_39 rfl ?_
      refine q_getR (n := 10) d_X10_write_40 hA.1 fi_10_18 rfl (Nat.le_of_ble_eq_true rfl) ?_
      refine q_iload (x := wr (4 * (s3 a1 16))) d_X10_write_43 rfl ?_
      refine q_iconst d_X10_write_45 ?_
      refine q_iadd d_X10_write_46 ?_
      refine q_iload_n (x := x2) d_X10_write_47 rfl ?_
      refine q_iastore (m := 600) d_X10_write_48 hA.2.2.1 (by decide) rfl h_x2 w_s6 (fun g7 s8 w_s8 => ?_)
      refine q_aload_n d_X10_write_49 rfl ?_
      refine q_getR (n := 10) d_X10_write_50 hA.1 fi_10_18 rfl (Nat.le_of_ble_eq_true rfl) ?_
      refine q_iload (x := wr (4 * (s3 a1 16))) d_X10_write_53 rfl ?_
      refine q_iconst d_X10_write_55 ?_
      refine q_iadd d_X10_write_56 ?_
      refine q_iload_n (x := x3) d_X10_write_57 rfl ?_
      refine q_iastore (m := 600) d_X10_write_58 hA.2.2.1 (by decide) rfl h_x3 w_s8 (fun g9 s10 w_s10 => ?_)
      refine q_aload_n d_X10_write_59 rfl ?_
      refine q_getR (n := 10) d_X10_write_60 hA.1 fi_10_18 rfl (Nat.le_of_ble_eq_true rfl) ?_
      refine q_iload (x := wr (4 * (s3 a1 16))) d_X10_write_63 rfl ?_
      refine q_iconst d_X10_write_65 ?_
      refine q_iadd d_X10_write_66 ?_
      refine q_iload (x := x4) d_X10_write_67 rfl ?_
      refine q_iastore (m := 600) d_X10_write_69 hA.2.2.1 (by decide) rfl h_x4 w_s10 (fun g11 s12 w_s12 => ?_)
      refine q_aload_n d_X10_write_70 rfl ?_
      refine q_dup d_X10_write_71 rfl ?_
      refine q_getI (k := 16) (j := 16) d_X10_write_72 hA1.1 fi_10_198 rfl rfl ?_
      refine q_iconst d_X10_write_75 ?_
      refine q_iadd d_X10_write_76 ?_
      refine q_putI (k := 16) (j := 16) d_X10_write_77 hA1.1 fp_10_198 rfl rfl (inr_wr _) w_s12 (fun s13 w_s13 => ?_)
      exact q_vret d_X10_write_80 rfl w_s13
abbrev R_X10_turnAbout : Room := { frames := 2, cells := 0, slots := 0, locals := 48 }
noncomputable def f_X10_turnAbout (a : Nat) (a1 : Nat) (x2 : Int) (x3 : Int) (s0 : Mem) : Res :=
  gd ((0 : Int) ≤ x2 ∧ x2 < 10) (gd ((0 : Int) ≤ x2 ∧ x2 < 10) (lm (mup s0 (a1 + 6) x2 (wr (1 - (s0 (a1 + 6) x2)))) fun s3 => bd (f_X10_write a a1 1 x2 0 x3 s3) fun r4 s5 => some (0, s5)))
set_option maxHeartbeats 4000000 in
set_option maxRecDepth 10000 in
theorem c_X10_turnAbout (κ : Kp) (a : Nat) (hA : At10 κ a) (a1 : Nat) (hA1 : At4 κ a1) (x2 : Int) (h_x2 : InR x2) (x3 : Int) (h_x3 : InR x3) (s0 : Mem) : ∀ r σ', f_X10_turnAbout a a1 x2 x3 s0 = some (r, σ') → Ct κ M_X10_turnAbout R_X10_turnAbout [vr κ a, vr κ a1, vi x2, vi x3] s0 r σ' := by
  intro r σ' ho
  refine Ct.of (by decide) (Nat.le_of_ble_eq_true rfl) (cat_ok rfl) (fun w_s0 => ?_) ⟨rfl, rfl⟩
  refine q_ent (ls' := [some (vr κ a), some (vr κ a1), some (vi x2), some (vi x3)]) (o := f_X10_turnAbout a a1 x2 x3 s0) ⟨rfl, rfl, rfl, rfl, trivial⟩ ?_ ho
  unfold f_X10_turnAbout
  refine q_aload_n d_X10_turnAbout_0 rfl ?_
  refine q_getR (n := 6) d_X10_turnAbout_1 hA1.1 fi_10_189 rfl (Nat.le_of_ble_eq_true rfl) ?_
  refine q_iload_n (x := x2) d_X10_turnAbout_4 rfl ?_
  refine q_iconst d_X10_turnAbout_5 ?_
  refine q_aload_n d_X10_turnAbout_6 rfl ?_
  refine q_getR (n := 6) d_X10_turnAbout_7 hA1.1 fi_10_189 rfl (Nat.le_of_ble_eq_true rfl) ?_
  refine q_iload_n (x := x2) d_X10_turnAbout_10 rfl ?_
  refine q_iaload (m := 10) d_X10_turnAbout_11 hA1.2.2.2.2.2.2.1 (by decide) rfl (fun g1 => ?_)
  refine q_isub d_X10_turnAbout_12 ?_
  refine q_iastore (m := 10) d_X10_turnAbout_13 hA1.2.2.2.2.2.2.1 (by decide) rfl (inr_wr _) w_s0 (fun g2 s3 w_s3 => ?_)
  refine q_aload_n d_X10_turnAbout_14 rfl ?_
  refine q_aload_n d_X10_turnAbout_15 rfl ?_
  refine q_iconst d_X10_turnAbout_16 ?_
  refine q_iload_n (x := x2) d_X10_turnAbout_17 rfl ?_
  refine q_iconst d_X10_turnAbout_18 ?_
  refine q_iload_n (x := x3) d_X10_turnAbout_19 rfl ?_
  refine q_callV (R' := R_X10_write) (runV (As := [vr κ a1, vi 1, vi x2, vi 0, vi x3]) (rest := []) d_X10_turnAbout_20.1 cv_10_166 rfl hA.1 rfl rfl ⟨rfl, rfl, by decide, by decide⟩ (Nat.le_of_ble_eq_true rfl) w_s3 rfl) d_X10_turnAbout_20.2 (c_X10_write κ a hA a1 hA1 1 (inr_b (Or.inr rfl)) x2 h_x2 0 (inr_b (Or.inl rfl)) x3 h_x3 s3) rfl (fun r4 s5 w_s5 => ?_)
  exact q_vret d_X10_turnAbout_23 rfl w_s5
abbrev R_X10_bringHome : Room := { frames := 2, cells := 0, slots := 0, locals := 48 }
noncomputable def f_X10_bringHome (a : Nat) (a1 : Nat) (x2 : Int) (x3 : Int) (s0 : Mem) : Res :=
  bd (f_X4_takeOff a1 x2 s0) fun r1 s2 => lm (mup s2 a1 15 (wr ((s2 a1 15) + r1))) fun s3 => bd (f_X10_write a a1 2 x2 r1 x3 s3) fun r4 s5 => some (r1, s5)
set_option maxHeartbeats 4000000 in
set_option maxRecDepth 10000 in
theorem c_X10_bringHome (κ : Kp) (a : Nat) (hA : At10 κ a) (a1 : Nat) (hA1 : At4 κ a1) (x2 : Int) (h_x2 : InR x2) (x3 : Int) (h_x3 : InR x3) (s0 : Mem) : ∀ r σ', f_X10_bringHome a a1 x2 x3 s0 = some (r, σ') → Ct κ M_X10_bringHome R_X10_bringHome [vr κ a, vr κ a1, vi x2, vi x3] s0 r σ' := by
  intro r σ' ho
  refine Ct.of (by decide) (Nat.le_of_ble_eq_true rfl) (cat_ok rfl) (fun w_s0 => ?_) ⟨rfl, rfl⟩
  refine q_ent (ls' := [some (vr κ a), some (vr κ a1), some (vi x2), some (vi x3), none]) (o := f_X10_bringHome a a1 x2 x3 s0) ⟨rfl, rfl, rfl, rfl, trivial⟩ ?_ ho
  unfold f_X10_bringHome
  refine q_aload_n d_X10_bringHome_0 rfl ?_
  refine q_iload_n (x := x2) d_X10_bringHome_1 rfl ?_
  refine q_callI (R' := R_X4_takeOff) (runV (As := [vi x2]) (rest := []) d_X10_bringHome_2.1 cv_10_186 rfl hA1.1 rfl rfl ⟨rfl, rfl, by decide, by decide⟩ (Nat.le_of_ble_eq_true rfl) w_s0 rfl) d_X10_bringHome_2.2 (c_X4_takeOff κ a1 hA1 x2 h_x2 s0) rfl (fun r1 s2 h_r1 w_s2 => ?_)
  refine q_istore d_X10_bringHome_5 rfl ?_
  refine q_aload_n d_X10_bringHome_7 rfl ?_
  refine q_dup d_X10_bringHome_8 rfl ?_
  refine q_getI (k := 15) (j := 15) d_X10_bringHome_9 hA1.1 fi_10_192 rfl rfl ?_
  refine q_iload (x := r1) d_X10_bringHome_12 rfl ?_
  refine q_iadd d_X10_bringHome_14 ?_
  refine q_putI (k := 15) (j := 15) d_X10_bringHome_15 hA1.1 fp_10_192 rfl rfl (inr_wr _) w_s2 (fun s3 w_s3 => ?_)
  refine q_aload_n d_X10_bringHome_18 rfl ?_
  refine q_aload_n d_X10_bringHome_19 rfl ?_
  refine q_iconst d_X10_bringHome_20 ?_
  refine q_iload_n (x := x2) d_X10_bringHome_21 rfl ?_
  refine q_iload (x := r1) d_X10_bringHome_22 rfl ?_
  refine q_iload_n (x := x3) d_X10_bringHome_24 rfl ?_
  refine q_callV (R' := R_X10_write) (runV (As := [vr κ a1, vi 2, vi x2, vi r1, vi x3]) (rest := []) d_X10_bringHome_25.1 cv_10_166 rfl hA.1 rfl rfl ⟨rfl, rfl, by decide, by decide⟩ (Nat.le_of_ble_eq_true rfl) w_s3 rfl) d_X10_bringHome_25.2 (c_X10_write κ a hA a1 hA1 2 (inr_d rfl) x2 h_x2 r1 h_r1 x3 h_x3 s3) rfl (fun r4 s5 w_s5 => ?_)
  refine q_iload (x := r1) d_X10_bringHome_28 rfl ?_
  exact q_ireti d_X10_bringHome_30 rfl h_r1 w_s5
abbrev R_X10_bringTo : Room := { frames := 2, cells := 0, slots := 0, locals := 48 }
noncomputable def f_X10_bringTo (a : Nat) (a1 : Nat) (x2 : Int) (x3 : Int) (x4 : Int) (s0 : Mem) : Res :=
  gd ((0 : Int) ≤ x2 ∧ x2 < 10) (lm (mup s0 (a1 + 3) x2 x3) fun s2 => bd (f_X10_write a a1 5 x2 x3 x4 s2) fun r3 s4 => some (0, s4))
set_option maxHeartbeats 4000000 in
set_option maxRecDepth 10000 in
theorem c_X10_bringTo (κ : Kp) (a : Nat) (hA : At10 κ a) (a1 : Nat) (hA1 : At4 κ a1) (x2 : Int) (h_x2 : InR x2) (x3 : Int) (h_x3 : InR x3) (x4 : Int) (h_x4 : InR x4) (s0 : Mem) : ∀ r σ', f_X10_bringTo a a1 x2 x3 x4 s0 = some (r, σ') → Ct κ M_X10_bringTo R_X10_bringTo [vr κ a, vr κ a1, vi x2, vi x3, vi x4] s0 r σ' := by
  intro r σ' ho
  refine Ct.of (by decide) (Nat.le_of_ble_eq_true rfl) (cat_ok rfl) (fun w_s0 => ?_) ⟨rfl, rfl⟩
  refine q_ent (ls' := [some (vr κ a), some (vr κ a1), some (vi x2), some (vi x3), some (vi x4)]) (o := f_X10_bringTo a a1 x2 x3 x4 s0) ⟨rfl, rfl, rfl, rfl, rfl, trivial⟩ ?_ ho
  unfold f_X10_bringTo
  refine q_aload_n d_X10_bringTo_0 rfl ?_
  refine q_getR (n := 3) d_X10_bringTo_1 hA1.1 fi_10_195 rfl (Nat.le_of_ble_eq_true rfl) ?_
  refine q_iload_n (x := x2) d_X10_bringTo_4 rfl ?_
  refine q_iload_n (x := x3) d_X10_bringTo_5 rfl ?_
  refine q_iastore (m := 10) d_X10_bringTo_6 hA1.2.2.2.1 (by decide) rfl h_x3 w_s0 (fun g1 s2 w_s2 => ?_)
  refine q_aload_n d_X10_bringTo_7 rfl ?_
  refine q_aload_n d_X10_bringTo_8 rfl ?_
  refine q_iconst d_X10_bringTo_9 ?_
  refine q_iload_n (x := x2) d_X10_bringTo_10 rfl ?_
  refine q_iload_n (x := x3) d_X10_bringTo_11 rfl ?_
  refine q_iload (x := x4) d_X10_bringTo_12 rfl ?_
  refine q_callV (R' := R_X10_write) (runV (As := [vr κ a1, vi 5, vi x2, vi x3, vi x4]) (rest := []) d_X10_bringTo_14.1 cv_10_166 rfl hA.1 rfl rfl ⟨rfl, rfl, by decide, by decide⟩ (Nat.le_of_ble_eq_true rfl) w_s2 rfl) d_X10_bringTo_14.2 (c_X10_write κ a hA a1 hA1 5 (inr_d rfl) x2 h_x2 x3 h_x3 x4 h_x4 s2) rfl (fun r3 s4 w_s4 => ?_)
  exact q_vret d_X10_bringTo_17 rfl w_s4
abbrev R_X10_follow : Room := { frames := 3, cells := 0, slots := 0, locals := 72 }
noncomputable def f_X10_follow (a : Nat) (a1 : Nat) (x2 : Int) (x3 : Int) (s0 : Mem) : Res :=
  gd ((0 : Int) ≤ x2 ∧ x2 < 16) (gd ((0 : Int) ≤ x2 ∧ x2 < 16) (if s0 ((a + 21) + 2) x2 = 1 then (gd ((0 : Int) ≤ x2 ∧ x2 < 16) (lm (mup s0 a1 12 (s0 ((a + 21) + 4) x2)) fun s5 => some (0, s5))) else (bd (f_X4_afloat a1 (s0 ((a + 21) + 3) x2) s0) fun r6 s7 => if r6 = 0 then (some (0, s7)) else (gd ((0 : Int) ≤ x2 ∧ x2 < 16) (if s7 ((a + 21) + 2) x2 = 21 then (bd (f_X10_turnAbout a a1 (s0 ((a + 21) + 3) x2) x3 s7) fun r11 s12 => some (0, s12)) else (if s7 ((a + 21) + 2) x2 = 22 then (bd (f_X10_bringHome a a1 (s0 ((a + 21) + 3) x2) x3 s7) fun r14 s15 => some (0, s15)) else (gd ((0 : Int) ≤ x2 ∧ x2 < 16) (bd (f_X10_bringTo a a1 (s0 ((a + 21) + 3) x2) (s7 ((a + 21) + 4) x2) x3 s7) fun r17 s18 => some (0, s18)))))))))
set_option maxHeartbeats 4000000 in
set_option maxRecDepth 10000 in
theorem c_X10_follow (κ : Kp) (a : Nat) (hA : At10 κ a) (a1 : Nat) (hA1 : At4 κ a1) (x2 : Int) (h_x2 : InR x2) (x3 : Int) (h_x3 : InR x3) (s0 : Mem) : ∀ r σ', f_X10_follow a a1 x2 x3 s0 = some (r, σ') → Ct κ M_X10_follow R_X10_follow [vr κ a, vr κ a1, vi x2, vi x3] s0 r σ' := by
  intro r σ' ho
  refine Ct.of (by decide) (Nat.le_of_ble_eq_true rfl) (cat_ok rfl) (fun w_s0 => ?_) ⟨rfl, rfl⟩
  refine q_ent (ls' := [some (vr κ a), some (vr κ a1), some (vi x2), some (vi x3), none]) (o := f_X10_follow a a1 x2 x3 s0) ⟨rfl, rfl, rfl, rfl, trivial⟩ ?_ ho
  unfold f_X10_follow
  refine q_aload_n d_X10_follow_0 rfl ?_
  refine q_getR (n := 21) d_X10_follow_1 hA.1 fi_10_39 rfl (Nat.le_of_ble_eq_true rfl) ?_
  refine q_getR (n := 3) d_X10_follow_4 hA.2.2.2.2.2.1.1 fi_10_139 rfl (Nat.le_of_ble_eq_true rfl) ?_
  refine q_iload_n (x := x2) d_X10_follow_7 rfl ?_
  refine q_iaload (m := 16) d_X10_follow_8 hA.2.2.2.2.2.1.2.2.2.1 (by decide) rfl (fun g1 => ?_)
  refine q_istore d_X10_follow_9 rfl ?_
  refine q_aload_n d_X10_follow_11 rfl ?_
  refine q_getR (n := 21) d_X10_follow_12 hA.1 fi_10_39 rfl (Nat.le_of_ble_eq_true rfl) ?_
  refine q_getR (n := 2) d_X10_follow_15 hA.2.2.2.2.2.1.1 fi_10_141 rfl (Nat.le_of_ble_eq_true rfl) ?_
  refine q_iload_n (x := x2) d_X10_follow_18 rfl ?_
  refine q_iaload (m := 16) d_X10_follow_19 hA.2.2.2.2.2.1.2.2.1 (by decide) rfl (fun g2 => ?_)
  refine q_iconst d_X10_follow_20 ?_
  refine q_icmp_ne d_X10_follow_21 (w_s0 _ _) (inr_b (Or.inr rfl)) (fun c3 => ?_) (fun c3 => ?_)
  · refine q_aload_n d_X10_follow_24 rfl ?_
    refine q_aload_n d_X10_follow_25 rfl ?_
    refine q_getR (n := 21) d_X10_follow_26 hA.1 fi_10_39 rfl (Nat.le_of_ble_eq_true rfl) ?_
    refine q_getR (n := 4) d_X10_follow_29 hA.2.2.2.2.2.1.1 fi_10_144 rfl (Nat.le_of_ble_eq_true rfl) ?_
    refine q_iload_n (x := x2) d_X10_follow_32 rfl ?_
    refine q_iaload (m := 16) d_X10_follow_33 hA.2.2.2.2.2.1.2.2.2.2 (by decide) rfl (fun g4 => ?_)
    refine q_putI (k := 12) (j := 12) d_X10_follow_34 hA1.1 fp_10_147 rfl rfl (w_s0 _ _) w_s0 (fun s5 w_s5 => ?_)
    refine q_goto d_X10_follow_37 ?_
    exact q_vret d_X10_follow_124 rfl w_s5
  · refine q_aload_n d_X10_follow_40 rfl ?_
    refine q_iload (x := s0 ((a + 21) + 3) x2) d_X10_follow_41 rfl ?_
    refine q_callZ (R' := R_X4_afloat) (runV (As := [vi (s0 ((a + 21) + 3) x2)]) (rest := []) d_X10_follow_43.1 cv_10_115 rfl hA1.1 rfl rfl ⟨rfl, rfl, by decide, by decide⟩ (Nat.le_of_ble_eq_true rfl) w_s0 rfl) d_X10_follow_43.2 (c_X4_afloat κ a1 hA1 (s0 ((a + 21) + 3) x2) (w_s0 _ _) s0) rfl (fun r6 s7 h_r6 w_s7 => ?_)
    refine q_if_eq d_X10_follow_46 (inr_b h_r6) (fun c8 => ?_) (fun c8 => ?_)
    · exact q_vret d_X10_follow_124 rfl w_s7
    · refine q_aload_n d_X10_follow_49 rfl ?_
      refine q_getR (n := 21) d_X10_follow_50 hA.1 fi_10_39 rfl (Nat.le_of_ble_eq_true rfl) ?_
      refine q_getR (n := 2) d_X10_follow_53 hA.2.2.2.2.2.1.1 fi_10_141 rfl (Nat.le_of_ble_eq_true rfl) ?_
      refine q_iload_n (x := x2) d_X10_follow_56 rfl ?_
      refine q_iaload (m := 16) d_X10_follow_57 hA.2.2.2.2.2.1.2.2.1 (by decide) rfl (fun g9 => ?_)
      refine q_ite (fun c10 => ?_) (fun c10 => ?_)
      · refine q_lsw (tgt := 84) (off := 26) d_X10_follow_58 (w_s7 _ _) (by decide) (by rw [c10]; rfl) (by decide) ?_
        refine q_aload_n d_X10_follow_84 rfl ?_
        refine q_aload_n d_X10_follow_85 rfl ?_
        refine q_iload (x := s0 ((a + 21) + 3) x2) d_X10_follow_86 rfl ?_
        refine q_iload_n (x := x3) d_X10_follow_88 rfl ?_
        refine q_callV (R' := R_X10_turnAbout) (runV (As := [vr κ a1, vi (s0 ((a + 21) + 3) x2), vi x3]) (rest := []) d_X10_follow_89.1 cv_10_150 rfl hA.1 rfl rfl ⟨rfl, rfl, by decide, by decide⟩ (Nat.le_of_ble_eq_true rfl) w_s7 rfl) d_X10_follow_89.2 (c_X10_turnAbout κ a hA a1 hA1 (s0 ((a + 21) + 3) x2) (w_s0 _ _) x3 h_x3 s7) rfl (fun r11 s12 w_s12 => ?_)
        refine q_goto d_X10_follow_92 ?_
        exact q_vret d_X10_follow_124 rfl w_s12
      refine q_ite (fun c13 => ?_) (fun c13 => ?_)
      · refine q_lsw (tgt := 95) (off := 37) d_X10_follow_58 (w_s7 _ _) (by decide) (by rw [c13]; rfl) (by decide) ?_
        refine q_aload_n d_X10_follow_95 rfl ?_
        refine q_aload_n d_X10_follow_96 rfl ?_
        refine q_iload (x := s0 ((a + 21) + 3) x2) d_X10_follow_97 rfl ?_
        refine q_iload_n (x := x3) d_X10_follow_99 rfl ?_
        refine q_callI (R' := R_X10_bringHome) (runV (As := [vr κ a1, vi (s0 ((a + 21) + 3) x2), vi x3]) (rest := []) d_X10_follow_100.1 cv_10_153 rfl hA.1 rfl rfl ⟨rfl, rfl, by decide, by decide⟩ (Nat.le_of_ble_eq_true rfl) w_s7 rfl) d_X10_follow_100.2 (c_X10_bringHome κ a hA a1 hA1 (s0 ((a + 21) + 3) x2) (w_s0 _ _) x3 h_x3 s7) rfl (fun r14 s15 h_r14 w_s15 => ?_)
        refine q_pop d_X10_follow_103 rfl ?_
        refine q_goto d_X10_follow_104 ?_
        exact q_vret d_X10_follow_124 rfl w_s15
      refine q_lsw (tgt := 107) (off := 49) d_X10_follow_58 (w_s7 _ _) (by decide) (by
    show Op.lookupswitch.offset [(21, 26), (22, 37)] 49 (s7 ((a + 21) + 2) x2) = 49
    rw [Op.lookupswitch.offset_cons, if_neg (fun q => c10 q.symm), Op.lookupswitch.offset_cons, if_neg (fun q => c13 q.symm), Op.lookupswitch.offset_nil]) (by decide) ?_
      refine q_aload_n d_X10_follow_107 rfl ?_
      refine q_aload_n d_X10_follow_108 rfl ?_
      refine q_iload (x := s0 ((a + 21) + 3) x2) d_X10_follow_109 rfl ?_
      refine q_aload_n d_X10_follow_111 rfl ?_
      refine q_getR (n := 21) d_X10_follow_112 hA.1 fi_10_39 rfl (Nat.le_of_ble_eq_true rfl) ?_
      refine q_getR (n := 4) d_X10_follow_115 hA.2.2.2.2.2.1.1 fi_10_144 rfl (Nat.le_of_ble_eq_true rfl) ?_
      refine q_iload_n (x := x2) d_X10_follow_118 rfl ?_
      refine q_iaload (m := 16) d_X10_follow_119 hA.2.2.2.2.2.1.2.2.2.2 (by decide) rfl (fun g16 => ?_)
      refine q_iload_n (x := x3) d_X10_follow_120 rfl ?_
      refine q_callV (R' := R_X10_bringTo) (runV (As := [vr κ a1, vi (s0 ((a + 21) + 3) x2), vi (s7 ((a + 21) + 4) x2), vi x3]) (rest := []) d_X10_follow_121.1 cv_10_156 rfl hA.1 rfl rfl ⟨rfl, rfl, by decide, by decide⟩ (Nat.le_of_ble_eq_true rfl) w_s7 rfl) d_X10_follow_121.2 (c_X10_bringTo κ a hA a1 hA1 (s0 ((a + 21) + 3) x2) (w_s0 _ _) (s7 ((a + 21) + 4) x2) (w_s7 _ _) x3 h_x3 s7) rfl (fun r17 s18 w_s18 => ?_)
      exact q_vret d_X10_follow_124 rfl w_s18
abbrev R_X10_lose : Room := { frames := 2, cells := 0, slots := 0, locals := 48 }
noncomputable def f_X10_lose (a : Nat) (a1 : Nat) (x2 : Int) (x3 : Int) (x4 : Int) (s0 : Mem) : Res :=
  gd ((0 : Int) ≤ x2 ∧ x2 < 10) (lm (mup s0 (a1 + 7) x2 x3) fun s2 => bd (f_X4_takeOff a1 x2 s2) fun r3 s4 => bd (f_X10_write a a1 (wr (2 + x3)) x2 r3 x4 s4) fun r5 s6 => some (0, s6))
set_option maxHeartbeats 4000000 in
set_option maxRecDepth 10000 in
theorem c_X10_lose (κ : Kp) (a : Nat) (hA : At10 κ a) (a1 : Nat) (hA1 : At4 κ a1) (x2 : Int) (h_x2 : InR x2) (x3 : Int) (h_x3 : InR x3) (x4 : Int) (h_x4 : InR x4) (s0 : Mem) : ∀ r σ', f_X10_lose a a1 x2 x3 x4 s0 = some (r, σ') → Ct κ M_X10_lose R_X10_lose [vr κ a, vr κ a1, vi x2, vi x3, vi x4] s0 r σ' := by
  intro r σ' ho
  refine Ct.of (by decide) (Nat.le_of_ble_eq_true rfl) (cat_ok rfl) (fun w_s0 => ?_) ⟨rfl, rfl⟩
  refine q_ent (ls' := [some (vr κ a), some (vr κ a1), some (vi x2), some (vi x3), some (vi x4)]) (o := f_X10_lose a a1 x2 x3 x4 s0) ⟨rfl, rfl, rfl, rfl, rfl, trivial⟩ ?_ ho
  unfold f_X10_lose
  refine q_aload_n d_X10_lose_0 rfl ?_
  refine q_getR (n := 7) d_X10_lose_1 hA1.1 fi_10_183 rfl (Nat.le_of_ble_eq_true rfl) ?_
  refine q_iload_n (x := x2) d_X10_lose_4 rfl ?_
  refine q_iload_n (x := x3) d_X10_lose_5 rfl ?_
  refine q_iastore (m := 10) d_X10_lose_6 hA1.2.2.2.2.2.2.2.1 (by decide) rfl h_x3 w_s0 (fun g1 s2 w_s2 => ?_)
  refine q_aload_n d_X10_lose_7 rfl ?_
  refine q_aload_n d_X10_lose_8 rfl ?_
  refine q_iconst d_X10_lose_9 ?_
  refine q_iload_n (x := x3) d_X10_lose_10 rfl ?_
  refine q_iadd d_X10_lose_11 ?_
  refine q_iload_n (x := x2) d_X10_lose_12 rfl ?_
  refine q_aload_n d_X10_lose_13 rfl ?_
  refine q_iload_n (x := x2) d_X10_lose_14 rfl ?_
  refine q_callI (R' := R_X4_takeOff) (runV (As := [vi x2]) (rest := [vi x2, vi (wr (2 + x3)), vr κ a1, vr κ a]) d_X10_lose_15.1 cv_10_186 rfl hA1.1 rfl rfl ⟨rfl, rfl, by decide, by decide⟩ (Nat.le_of_ble_eq_true rfl) w_s2 rfl) d_X10_lose_15.2 (c_X4_takeOff κ a1 hA1 x2 h_x2 s2) rfl (fun r3 s4 h_r3 w_s4 => ?_)
  refine q_iload (x := x4) d_X10_lose_18 rfl ?_
  refine q_callV (R' := R_X10_write) (runV (As := [vr κ a1, vi (wr (2 + x3)), vi x2, vi r3, vi x4]) (rest := []) d_X10_lose_20.1 cv_10_166 rfl hA.1 rfl rfl ⟨rfl, rfl, by decide, by decide⟩ (Nat.le_of_ble_eq_true rfl) w_s4 rfl) d_X10_lose_20.2 (c_X10_write κ a hA a1 hA1 (wr (2 + x3)) (inr_wr _) x2 h_x2 r3 h_r3 x4 h_x4 s4) rfl (fun r5 s6 w_s6 => ?_)
  exact q_vret d_X10_lose_23 rfl w_s6
abbrev R_X10_shoot : Room := { frames := 3, cells := 0, slots := 0, locals := 78 }
noncomputable def f_X10_shoot (a : Nat) (a1 : Nat) (x2 : Int) (x3 : Int) (s0 : Mem) : Res :=
  bd (f_X2_tells (a + 11) 10 a1 x2 s0) fun r1 s2 => bd (f_X2_tells (a + 11) 11 a1 x2 s2) fun r3 s4 => gd ((0 : Int) ≤ x2 ∧ x2 < 10) (jn (fun (y6 : Int) => bd (f_X4_stickIn a1 x2 y6 s4) fun r7 s8 => jn (fun (s9 : Mem) => lm (mup s9 a1 10 (mmn 99 (wr ((s9 a1 10) + (s9 a1 12))))) fun s10 => bd (f_X4_lean a1 x2 s10) fun r11 s12 => bd (f_X2_tells (a + 11) 12 a1 x2 s12) fun r13 s14 => if r13 < r11 then (bd (f_X10_lose a a1 x2 1 x3 s14) fun r16 s17 => some (r7, s17)) else (if x3 = 0 then (some (r7, s14)) else (bd (f_X4_burns a1 s14) fun r19 s20 => if r19 = 0 then (some (r7, s20)) else (bd (f_X10_lose a a1 x2 2 x3 s20) fun r22 s23 => some (r7, s23))))) fun j70 => if 0 < r7 then (bd (f_X10_write a a1 0 x2 r7 x3 s8) fun r25 s26 => j70 s26) else (j70 s8)) fun j50 => if s4 (a1 + 2) x2 = 2 then (j50 0) else (gd ((100 : Int) ≠ 0) (j50 (wr (Int.tdiv (wr (r1 * r3)) 100)))))
set_option maxHeartbeats 4000000 in
set_option maxRecDepth 10000 in
theorem c_X10_shoot (κ : Kp) (a : Nat) (hA : At10 κ a) (a1 : Nat) (hA1 : At4 κ a1) (x2 : Int) (h_x2 : InR x2) (x3 : Int) (h_x3 : InR x3) (s0 : Mem) : ∀ r σ', f_X10_shoot a a1 x2 x3 s0 = some (r, σ') → Ct κ M_X10_shoot R_X10_shoot [vr κ a, vr κ a1, vi x2, vi x3] s0 r σ' := by
  intro r σ' ho
  refine Ct.of (by decide) (Nat.le_of_ble_eq_true rfl) (cat_ok rfl) (fun w_s0 => ?_) ⟨rfl, rfl⟩
  refine q_ent (ls' := [some (vr κ a), some (vr κ a1), some (vi x2), some (vi x3), none, none, none]) (o := f_X10_shoot a a1 x2 x3 s0) ⟨rfl, rfl, rfl, rfl, trivial⟩ ?_ ho
  unfold f_X10_shoot
  refine q_aload_n d_X10_shoot_0 rfl ?_
  refine q_getR (n := 11) d_X10_shoot_1 hA.1 fi_10_25 rfl (Nat.le_of_ble_eq_true rfl) ?_
  refine q_bipush d_X10_shoot_4 rfl ?_
  refine q_aload_n d_X10_shoot_6 rfl ?_
  refine q_iload_n (x := x2) d_X10_shoot_7 rfl ?_
  refine q_callI (R' := R_X2_tells) (runV (As := [vi 10, vr κ a1, vi x2]) (rest := []) d_X10_shoot_8.1 cv_10_129 rfl hA.2.2.2.1.1 rfl rfl ⟨rfl, rfl, by decide, by decide⟩ (Nat.le_of_ble_eq_true rfl) w_s0 rfl) d_X10_shoot_8.2 (c_X2_tells κ (a + 11) hA.2.2.2.1 10 (inr_d rfl) a1 hA1 x2 h_x2 s0) rfl (fun r1 s2 h_r1 w_s2 => ?_)
  refine q_istore d_X10_shoot_11 rfl ?_
  refine q_aload_n d_X10_shoot_13 rfl ?_
  refine q_getR (n := 11) d_X10_shoot_14 hA.1 fi_10_25 rfl (Nat.le_of_ble_eq_true rfl) ?_
  refine q_bipush d_X10_shoot_17 rfl ?_
  refine q_aload_n d_X10_shoot_19 rfl ?_
  refine q_iload_n (x := x2) d_X10_shoot_20 rfl ?_
  refine q_callI (R' := R_X2_tells) (runV (As := [vi 11, vr κ a1, vi x2]) (rest := []) d_X10_shoot_21.1 cv_10_129 rfl hA.2.2.2.1.1 rfl rfl ⟨rfl, rfl, by decide, by decide⟩ (Nat.le_of_ble_eq_true rfl) w_s2 rfl) d_X10_shoot_21.2 (c_X2_tells κ (a + 11) hA.2.2.2.1 11 (inr_d rfl) a1 hA1 x2 h_x2 s2) rfl (fun r3 s4 h_r3 w_s4 => ?_)
  refine q_istore d_X10_shoot_24 rfl ?_
  refine q_aload_n d_X10_shoot_26 rfl ?_
  refine q_iload_n (x := x2) d_X10_shoot_27 rfl ?_
  refine q_aload_n d_X10_shoot_28 rfl ?_
  refine q_getR (n := 2) d_X10_shoot_29 hA1.1 fi_10_160 rfl (Nat.le_of_ble_eq_true rfl) ?_
  refine q_iload_n (x := x2) d_X10_shoot_32 rfl ?_
  refine q_iaload (m := 10) d_X10_shoot_33 hA1.2.2.1 (by decide) rfl (fun g5 => ?_)
  refine q_iconst d_X10_shoot_34 ?_
  refine q_jn (α := Int → Res) (fun j50 => ∀ (y6 : Int) (h_y6 : InR y6), EO κ M_X10_shoot R_X10_shoot 50 [some (vr κ a), some (vr κ a1), some (vi x2), some (vi x3), none, none, none] [vi y6, vi x2, vr κ a1] s4 (j50 y6)) ?_ (fun j50 hj50 => ?_)
  · intro y6 h_y6
    refine q_callI (R' := R_X4_stickIn) (runV (As := [vi x2, vi y6]) (rest := []) d_X10_shoot_50.1 cv_10_163 rfl hA1.1 rfl rfl ⟨rfl, rfl, by decide, by decide⟩ (Nat.le_of_ble_eq_true rfl) w_s4 rfl) d_X10_shoot_50.2 (c_X4_stickIn κ a1 hA1 x2 h_x2 y6 h_y6 s4) rfl (fun r7 s8 h_r7 w_s8 => ?_)
    refine q_istore d_X10_shoot_53 rfl ?_
    refine q_iload (x := r7) d_X10_shoot_55 rfl ?_
    refine q_jn (α := Mem → Res) (fun j70 => ∀ (s9 : Mem) (w_s9 : WF s9), EO κ M_X10_shoot R_X10_shoot 70 [some (vr κ a), some (vr κ a1), some (vi x2), some (vi x3), none, none, some (vi r7)] [] s9 (j70 s9)) ?_ (fun j70 hj70 => ?_)
    · intro s9 w_s9
      refine q_aload_n d_X10_shoot_70 rfl ?_
      refine q_bipush d_X10_shoot_71 rfl ?_
      refine q_aload_n d_X10_shoot_73 rfl ?_
      refine q_getI (k := 10) (j := 10) d_X10_shoot_74 hA1.1 fi_10_126 rfl rfl ?_
      refine q_aload_n d_X10_shoot_77 rfl ?_
      refine q_getI (k := 12) (j := 12) d_X10_shoot_78 hA1.1 fi_10_147 rfl rfl ?_
      refine q_iadd d_X10_shoot_81 ?_
      refine q_mmin d_X10_shoot_82 cv_10_170 mw_min ⟨by decide, Nat.le_of_ble_eq_true rfl⟩ (inr_d rfl) (inr_wr _) ?_
      refine q_putI (k := 10) (j := 10) d_X10_shoot_85 hA1.1 fp_10_126 rfl rfl (inr_mmn (inr_d rfl) (inr_wr _)) w_s9 (fun s10 w_s10 => ?_)
      refine q_aload_n d_X10_shoot_88 rfl ?_
      refine q_iload_n (x := x2) d_X10_shoot_89 rfl ?_
      refine q_callI (R' := R_X4_lean) (runV (As := [vi x2]) (rest := []) d_X10_shoot_90.1 cv_10_173 rfl hA1.1 rfl rfl ⟨rfl, rfl, by decide, by decide⟩ (Nat.le_of_ble_eq_true rfl) w_s10 rfl) d_X10_shoot_90.2 (c_X4_lean κ a1 hA1 x2 h_x2 s10) rfl (fun r11 s12 h_r11 w_s12 => ?_)
      refine q_aload_n d_X10_shoot_93 rfl ?_
      refine q_getR (n := 11) d_X10_shoot_94 hA.1 fi_10_25 rfl (Nat.le_of_ble_eq_true rfl) ?_
      refine q_bipush d_X10_shoot_97 rfl ?_
      refine q_aload_n d_X10_shoot_99 rfl ?_
      refine q_iload_n (x := x2) d_X10_shoot_100 rfl ?_
      refine q_callI (R' := R_X2_tells) (runV (As := [vi 12, vr κ a1, vi x2]) (rest := [vi r11]) d_X10_shoot_101.1 cv_10_129 rfl hA.2.2.2.1.1 rfl rfl ⟨rfl, rfl, by decide, by decide⟩ (Nat.le_of_ble_eq_true rfl) w_s12 rfl) d_X10_shoot_101.2 (c_X2_tells κ (a + 11) hA.2.2.2.1 12 (inr_d rfl) a1 hA1 x2 h_x2 s12) rfl (fun r13 s14 h_r13 w_s14 => ?_)
      refine q_icmp_le d_X10_shoot_104 h_r11 h_r13 (fun c15 => ?_) (fun c15 => ?_)
      · refine q_aload_n d_X10_shoot_107 rfl ?_
        refine q_aload_n d_X10_shoot_108 rfl ?_
        refine q_iload_n (x := x2) d_X10_shoot_109 rfl ?_
        refine q_iconst d_X10_shoot_110 ?_
        refine q_iload_n (x := x3) d_X10_shoot_111 rfl ?_
        refine q_callV (R' := R_X10_lose) (runV (As := [vr κ a1, vi x2, vi 1, vi x3]) (rest := []) d_X10_shoot_112.1 cv_10_176 rfl hA.1 rfl rfl ⟨rfl, rfl, by decide, by decide⟩ (Nat.le_of_ble_eq_true rfl) w_s14 rfl) d_X10_shoot_112.2 (c_X10_lose κ a hA a1 hA1 x2 h_x2 1 (inr_b (Or.inr rfl)) x3 h_x3 s14) rfl (fun r16 s17 w_s17 => ?_)
        refine q_goto d_X10_shoot_115 ?_
        refine q_iload (x := r7) d_X10_shoot_137 rfl ?_
        exact q_ireti d_X10_shoot_139 rfl h_r7 w_s17
      · refine q_iload_n (x := x3) d_X10_shoot_118 rfl ?_
        refine q_if_eq d_X10_shoot_119 h_x3 (fun c18 => ?_) (fun c18 => ?_)
        · refine q_iload (x := r7) d_X10_shoot_137 rfl ?_
          exact q_ireti d_X10_shoot_139 rfl h_r7 w_s14
        · refine q_aload_n d_X10_shoot_122 rfl ?_
          refine q_callZ (R' := R_X4_burns) (runV (As := []) (rest := []) d_X10_shoot_123.1 cv_10_179 rfl hA1.1 rfl rfl ⟨rfl, rfl, by decide, by decide⟩ (Nat.le_of_ble_eq_true rfl) w_s14 rfl) d_X10_shoot_123.2 (c_X4_burns κ a1 hA1 s14) rfl (fun r19 s20 h_r19 w_s20 => ?_)
          refine q_if_eq d_X10_shoot_126 (inr_b h_r19) (fun c21 => ?_) (fun c21 => ?_)
          · refine q_iload (x := r7) d_X10_shoot_137 rfl ?_
            exact q_ireti d_X10_shoot_139 rfl h_r7 w_s20
          · refine q_aload_n d_X10_shoot_129 rfl ?_
            refine q_aload_n d_X10_shoot_130 rfl ?_
            refine q_iload_n (x := x2) d_X10_shoot_131 rfl ?_
            refine q_iconst d_X10_shoot_132 ?_
            refine q_iload_n (x := x3) d_X10_shoot_133 rfl ?_
            refine q_callV (R' := R_X10_lose) (runV (As := [vr κ a1, vi x2, vi 2, vi x3]) (rest := []) d_X10_shoot_134.1 cv_10_176 rfl hA.1 rfl rfl ⟨rfl, rfl, by decide, by decide⟩ (Nat.le_of_ble_eq_true rfl) w_s20 rfl) d_X10_shoot_134.2 (c_X10_lose κ a hA a1 hA1 x2 h_x2 2 (inr_d rfl) x3 h_x3 s20) rfl (fun r22 s23 w_s23 => ?_)
            refine q_iload (x := r7) d_X10_shoot_137 rfl ?_
            exact q_ireti d_X10_shoot_139 rfl h_r7 w_s23
    refine q_if_le d_X10_shoot_57 h_r7 (fun c24 => ?_) (fun c24 => ?_)
    · refine q_aload_n d_X10_shoot_60 rfl ?_
      refine q_aload_n d_X10_shoot_61 rfl ?_
      refine q_iconst d_X10_shoot_62 ?_
      refine q_iload_n (x := x2) d_X10_shoot_63 rfl ?_
      refine q_iload (x := r7) d_X10_shoot_64 rfl ?_
      refine q_iload_n (x := x3) d_X10_shoot_66 rfl ?_
      refine q_callV (R' := R_X10_write) (runV (As := [vr κ a1, vi 0, vi x2, vi r7, vi x3]) (rest := []) d_X10_shoot_67.1 cv_10_166 rfl hA.1 rfl rfl ⟨rfl, rfl, by decide, by decide⟩ (Nat.le_of_ble_eq_true rfl) w_s8 rfl) d_X10_shoot_67.2 (c_X10_write κ a hA a1 hA1 0 (inr_b (Or.inl rfl)) x2 h_x2 r7 h_r7 x3 h_x3 s8) rfl (fun r25 s26 w_s26 => ?_)
      refine q_sub (ls' := [some (vr κ a), some (vr κ a1), some (vi x2), some (vi x3), none, none, some (vi r7)]) ⟨rfl, rfl, rfl, rfl, rfl, trivial⟩ ?_
      exact hj70 s26 w_s26
    · refine q_sub (ls' := [some (vr κ a), some (vr κ a1), some (vi x2), some (vi x3), none, none, some (vi r7)]) ⟨rfl, rfl, rfl, rfl, rfl, trivial⟩ ?_
      exact hj70 s8 w_s8
  refine q_icmp_ne d_X10_shoot_35 (w_s4 _ _) (inr_d rfl) (fun c27 => ?_) (fun c27 => ?_)
  · refine q_iconst d_X10_shoot_38 ?_
    refine q_goto d_X10_shoot_39 ?_
    refine q_sub (ls' := [some (vr κ a), some (vr κ a1), some (vi x2), some (vi x3), none, none, none]) ⟨rfl, rfl, rfl, rfl, trivial⟩ ?_
    exact hj50 0 (inr_b (Or.inl rfl))
  · refine q_iload (x := r1) d_X10_shoot_42 rfl ?_
    refine q_iload (x := r3) d_X10_shoot_44 rfl ?_
    refine q_imul d_X10_shoot_46 ?_
    refine q_bipush d_X10_shoot_47 rfl ?_
    refine q_idiv d_X10_shoot_49 (inr_wr _) (inr_d rfl) (fun g28 => ?_)
    refine q_sub (ls' := [some (vr κ a), some (vr κ a1), some (vi x2), some (vi x3), none, none, none]) ⟨rfl, rfl, rfl, rfl, trivial⟩ ?_
    exact hj50 (wr (Int.tdiv (wr (r1 * r3)) 100)) (inr_wr _)
abbrev R_X10_pass : Room := { frames := 4, cells := 0, slots := 0, locals := 104 }
noncomputable def f_X10_pass_65 (a : Nat) (a1 : Nat) (p2 : Int) (k100 : Int → Mem → Res) : Nat → Int → Int → Mem → Res
  | 0, _, _, _ => none
  | n + 1, x3, x4, s0 =>
    if x4 < s0 a1 8 then (bd (f_X4_afloat a1 x4 s0) fun r18 s19 => jn (fun (v20 : Int) (s21 : Mem) => f_X10_pass_65 a a1 p2 k100 n v20 (wr (x4 + 1)) s21) fun j94 => if r18 = 0 then (j94 x3 s19) else (bd (f_X10_shoot a a1 x4 p2 s19) fun r23 s24 => j94 (wr (x3 + r23)) s24)) else (k100 x3 s0)
noncomputable def f_X10_pass_2 (a : Nat) (a1 : Nat) (p2 : Int) (k42 : Mem → Res) : Nat → Int → Mem → Res
  | 0, _, _ => none
  | n + 1, x3, s0 =>
    if x3 < s0 (a + 21) 4 then (gd ((0 : Int) ≤ x3 ∧ x3 < 16) (jn (fun (s27 : Mem) => f_X10_pass_2 a a1 p2 k42 n (wr (x3 + 1)) s27) fun j36 => if s0 ((a + 21) + 1) x3 = s0 a1 14 then (bd (f_X10_follow a a1 x3 p2 s0) fun r29 s30 => j36 s30) else (j36 s0))) else (k42 s0)
noncomputable def f_X10_pass (a : Nat) (a1 : Nat) (x2 : Int) (s0 : Mem) : Res :=
  jn (fun (s1 : Mem) => gd ((24 : Int) ≠ 0) (bd (f_X1_goesAt (a + 18) (Int.tmod (s1 a1 14) 24) s1) fun r3 s4 => bd (f_X4_drift a1 r3 s4) fun r5 s6 => jn (fun (v7 : Int) (s8 : Mem) => jn (fun (s9 : Mem) => bd (f_X2_tells (a + 11) 13 a1 (-1) s9) fun r10 s11 => lm (mup s11 a1 10 (mmx 0 (wr ((s9 a1 10) - r10)))) fun s12 => lm (mup s12 a1 14 (wr ((s12 a1 14) + 1))) fun s13 => some (v7, s13)) fun j108 => if x2 = 0 then (j108 s8) else (bd (f_X4_fogMoves a1 s8) fun r15 s16 => j108 s16)) fun j100 => f_X10_pass_65 a a1 x2 j100 FU 0 0 s6)) fun j42 => f_X10_pass_2 a a1 x2 j42 FU 0 s0
set_option maxHeartbeats 4000000 in
set_option maxRecDepth 10000 in
theorem l_X10_pass_65 (κ : Kp) (a : Nat) (hA : At10 κ a) (a1 : Nat) (hA1 : At4 κ a1) (p2 : Int) (h_p2 : InR p2) (k100 : Int → Mem → Res) (hk100 : ∀ (z3 : Int) (h_z3 : InR z3) (sz : Mem) (w_sz : WF sz), EO κ M_X10_pass R_X10_pass 100 [some (vr κ a), some (vr κ a1), some (vi p2), some (vi z3), none] [] sz (k100 z3 sz)) : ∀ (n : Nat) (x3 : Int) (h_x3 : InR x3) (x4 : Int) (h_x4 : InR x4) (s0 : Mem) (w_s0 : WF s0), EO κ M_X10_pass R_X10_pass 65 [some (vr κ a), some (vr κ a1), some (vi p2), some (vi x3), some (vi x4)] [] s0 (f_X10_pass_65 a a1 p2 k100 n x3 x4 s0) := by
  intro n
  induction n with
  | zero => exact fun _ _ _ _ _ _ => q_none
  | succ n ih =>
    intro x3 h_x3 x4 h_x4 s0 w_s0
    rw [f_X10_pass_65]
    refine q_iload (x := x4) d_X10_pass_65 rfl ?_
    refine q_aload_n d_X10_pass_67 rfl ?_
    refine q_getI (k := 8) (j := 8) d_X10_pass_68 hA1.1 fi_10_112 rfl rfl ?_
    refine q_icmp_ge d_X10_pass_71 h_x4 (w_s0 _ _) (fun c17 => ?_) (fun c17 => ?_)
    · refine q_aload_n d_X10_pass_74 rfl ?_
      refine q_iload (x := x4) d_X10_pass_75 rfl ?_
      refine q_callZ (R' := R_X4_afloat) (runV (As := [vi x4]) (rest := []) d_X10_pass_77.1 cv_10_115 rfl hA1.1 rfl rfl ⟨rfl, rfl, by decide, by decide⟩ (Nat.le_of_ble_eq_true rfl) w_s0 rfl) d_X10_pass_77.2 (c_X4_afloat κ a1 hA1 x4 h_x4 s0) rfl (fun r18 s19 h_r18 w_s19 => ?_)
      refine q_jn (α := Int → Mem → Res) (fun j94 => ∀ (v20 : Int) (h_v20 : InR v20) (s21 : Mem) (w_s21 : WF s21), EO κ M_X10_pass R_X10_pass 94 [some (vr κ a), some (vr κ a1), some (vi p2), some (vi v20), some (vi x4)] [] s21 (j94 v20 s21)) ?_ (fun j94 hj94 => ?_)
      · intro v20 h_v20 s21 w_s21
        refine q_iinc (x := x4) d_X10_pass_94 rfl rfl ?_
        refine q_goto d_X10_pass_97 ?_
        refine q_sub (ls' := [some (vr κ a), some (vr κ a1), some (vi p2), some (vi v20), some (vi (wr (x4 + 1)))]) ⟨rfl, rfl, rfl, rfl, rfl, trivial⟩ ?_
        exact ih v20 h_v20 (wr (x4 + 1)) (inr_wr _) s21 w_s21
      refine q_if_eq d_X10_pass_80 (inr_b h_r18) (fun c22 => ?_) (fun c22 => ?_)
      · refine q_sub (ls' := [some (vr κ a), some (vr κ a1), some (vi p2), some (vi x3), some (vi x4)]) ⟨rfl, rfl, rfl, rfl, rfl, trivial⟩ ?_
        exact hj94 x3 h_x3 s19 w_s19
      · refine q_iload_n (x := x3) d_X10_pass_83 rfl ?_
        refine q_aload_n d_X10_pass_84 rfl ?_
        refine q_aload_n d_X10_pass_85 rfl ?_
        refine q_iload (x := x4) d_X10_pass_86 rfl ?_
        refine q_iload_n (x := p2) d_X10_pass_88 rfl ?_
        refine q_callI (R' := R_X10_shoot) (runV (As := [vr κ a1, vi x4, vi p2]) (rest := [vi x3]) d_X10_pass_89.1 cv_10_119 rfl hA.1 rfl rfl ⟨rfl, rfl, by decide, by decide⟩ (Nat.le_of_ble_eq_true rfl) w_s19 rfl) d_X10_pass_89.2 (c_X10_shoot κ a hA a1 hA1 x4 h_x4 p2 h_p2 s19) rfl (fun r23 s24 h_r23 w_s24 => ?_)
        refine q_iadd d_X10_pass_92 ?_
        refine q_istore_n d_X10_pass_93 rfl ?_
        refine q_sub (ls' := [some (vr κ a), some (vr κ a1), some (vi p2), some (vi (wr (x3 + r23))), some (vi x4)]) ⟨rfl, rfl, rfl, rfl, rfl, trivial⟩ ?_
        exact hj94 (wr (x3 + r23)) (inr_wr _) s24 w_s24
    · refine q_sub (ls' := [some (vr κ a), some (vr κ a1), some (vi p2), some (vi x3), none]) ⟨rfl, rfl, rfl, rfl, trivial⟩ ?_
      exact hk100 x3 h_x3 s0 w_s0
set_option maxHeartbeats 4000000 in
set_option maxRecDepth 10000 in
theorem l_X10_pass_2 (κ : Kp) (a : Nat) (hA : At10 κ a) (a1 : Nat) (hA1 : At4 κ a1) (p2 : Int) (h_p2 : InR p2) (k42 : Mem → Res) (hk42 : ∀ (sz : Mem) (w_sz : WF sz), EO κ M_X10_pass R_X10_pass 42 [some (vr κ a), some (vr κ a1), some (vi p2), none, none] [] sz (k42 sz)) : ∀ (n : Nat) (x3 : Int) (h_x3 : InR x3) (s0 : Mem) (w_s0 : WF s0), EO κ M_X10_pass R_X10_pass 2 [some (vr κ a), some (vr κ a1), some (vi p2), some (vi x3), none] [] s0 (f_X10_pass_2 a a1 p2 k42 n x3 s0) := by
  intro n
  induction n with
  | zero => exact fun _ _ _ _ => q_none
  | succ n ih =>
    intro x3 h_x3 s0 w_s0
    rw [f_X10_pass_2]
    refine q_iload_n (x := x3) d_X10_pass_2 rfl ?_
    refine q_aload_n d_X10_pass_3 rfl ?_
    refine q_getR (n := 21) d_X10_pass_4 hA.1 fi_10_39 rfl (Nat.le_of_ble_eq_true rfl) ?_
    refine q_getI (k := 4) (j := 4) d_X10_pass_7 hA.2.2.2.2.2.1.1 fi_10_90 rfl rfl ?_
    refine q_icmp_ge d_X10_pass_10 h_x3 (w_s0 _ _) (fun c25 => ?_) (fun c25 => ?_)
    · refine q_aload_n d_X10_pass_13 rfl ?_
      refine q_getR (n := 21) d_X10_pass_14 hA.1 fi_10_39 rfl (Nat.le_of_ble_eq_true rfl) ?_
      refine q_getR (n := 1) d_X10_pass_17 hA.2.2.2.2.2.1.1 fi_10_94 rfl (Nat.le_of_ble_eq_true rfl) ?_
      refine q_iload_n (x := x3) d_X10_pass_20 rfl ?_
      refine q_iaload (m := 16) d_X10_pass_21 hA.2.2.2.2.2.1.2.1 (by decide) rfl (fun g26 => ?_)
      refine q_aload_n d_X10_pass_22 rfl ?_
      refine q_getI (k := 14) (j := 14) d_X10_pass_23 hA1.1 fi_10_97 rfl rfl ?_
      refine q_jn (α := Mem → Res) (fun j36 => ∀ (s27 : Mem) (w_s27 : WF s27), EO κ M_X10_pass R_X10_pass 36 [some (vr κ a), some (vr κ a1), some (vi p2), some (vi x3), none] [] s27 (j36 s27)) ?_ (fun j36 hj36 => ?_)
      · intro s27 w_s27
        refine q_iinc (x := x3) d_X10_pass_36 rfl rfl ?_
        refine q_goto d_X10_pass_39 ?_
        refine q_sub (ls' := [some (vr κ a), some (vr κ a1), some (vi p2), some (vi (wr (x3 + 1))), none]) ⟨rfl, rfl, rfl, rfl, trivial⟩ ?_
        exact ih (wr (x3 + 1)) (inr_wr _) s27 w_s27
      refine q_icmp_ne d_X10_pass_26 (w_s0 _ _) (w_s0 _ _) (fun c28 => ?_) (fun c28 => ?_)
      · refine q_aload_n d_X10_pass_29 rfl ?_
        refine q_aload_n d_X10_pass_30 rfl ?_
        refine q_iload_n (x := x3) d_X10_pass_31 rfl ?_
        refine q_iload_n (x := p2) d_X10_pass_32 rfl ?_
        refine q_callV (R' := R_X10_follow) (runV (As := [vr κ a1, vi x3, vi p2]) (rest := []) d_X10_pass_33.1 cv_10_100 rfl hA.1 rfl rfl ⟨rfl, rfl, by decide, by decide⟩ (Nat.le_of_ble_eq_true rfl) w_s0 rfl) d_X10_pass_33.2 (c_X10_follow κ a hA a1 hA1 x3 h_x3 p2 h_p2 s0) rfl (fun r29 s30 w_s30 => ?_)
        refine q_sub (ls' := [some (vr κ a), some (vr κ a1), some (vi p2), some (vi x3), none]) ⟨rfl, rfl, rfl, rfl, trivial⟩ ?_
        exact hj36 s30 w_s30
      · refine q_sub (ls' := [some (vr κ a), some (vr κ a1), some (vi p2), some (vi x3), none]) ⟨rfl, rfl, rfl, rfl, trivial⟩ ?_
        exact hj36 s0 w_s0
    · refine q_sub (ls' := [some (vr κ a), some (vr κ a1), some (vi p2), none, none]) ⟨rfl, rfl, rfl, trivial⟩ ?_
      exact hk42 s0 w_s0
set_option maxHeartbeats 4000000 in
set_option maxRecDepth 10000 in
theorem c_X10_pass (κ : Kp) (a : Nat) (hA : At10 κ a) (a1 : Nat) (hA1 : At4 κ a1) (x2 : Int) (h_x2 : InR x2) (s0 : Mem) : ∀ r σ', f_X10_pass a a1 x2 s0 = some (r, σ') → Ct κ M_X10_pass R_X10_pass [vr κ a, vr κ a1, vi x2] s0 r σ' := by
  intro r σ' ho
  refine Ct.of (by decide) (Nat.le_of_ble_eq_true rfl) (cat_ok rfl) (fun w_s0 => ?_) ⟨rfl, rfl⟩
  refine q_ent (ls' := [some (vr κ a), some (vr κ a1), some (vi x2), none, none]) (o := f_X10_pass a a1 x2 s0) ⟨rfl, rfl, rfl, trivial⟩ ?_ ho
  unfold f_X10_pass
  refine q_iconst d_X10_pass_0 ?_
  refine q_istore_n d_X10_pass_1 rfl ?_
  refine q_jn (α := Mem → Res) (fun j42 => ∀ (s1 : Mem) (w_s1 : WF s1), EO κ M_X10_pass R_X10_pass 42 [some (vr κ a), some (vr κ a1), some (vi x2), none, none] [] s1 (j42 s1)) ?_ (fun j42 hj42 => ?_)
  · intro s1 w_s1
    refine q_aload_n d_X10_pass_42 rfl ?_
    refine q_aload_n d_X10_pass_43 rfl ?_
    refine q_getR (n := 18) d_X10_pass_44 hA.1 fi_10_32 rfl (Nat.le_of_ble_eq_true rfl) ?_
    refine q_aload_n d_X10_pass_47 rfl ?_
    refine q_getI (k := 14) (j := 14) d_X10_pass_48 hA1.1 fi_10_97 rfl rfl ?_
    refine q_bipush d_X10_pass_51 rfl ?_
    refine q_irem d_X10_pass_53 (w_s1 _ _) (inr_d rfl) (fun g2 => ?_)
    refine q_callI (R' := R_X1_goesAt) (runV (As := [vi (Int.tmod (s1 a1 14) 24)]) (rest := [vr κ a1]) d_X10_pass_54.1 cv_10_104 rfl hA.2.2.2.2.1.1 rfl rfl ⟨rfl, rfl, by decide, by decide⟩ (Nat.le_of_ble_eq_true rfl) w_s1 rfl) d_X10_pass_54.2 (c_X1_goesAt κ (a + 18) hA.2.2.2.2.1 (Int.tmod (s1 a1 14) 24) (inr_tmod (w_s1 _ _) (inr_d rfl)) s1) rfl (fun r3 s4 h_r3 w_s4 => ?_)
    refine q_callV (R' := R_X4_drift) (runV (As := [vi r3]) (rest := []) d_X10_pass_57.1 cv_10_108 rfl hA1.1 rfl rfl ⟨rfl, rfl, by decide, by decide⟩ (Nat.le_of_ble_eq_true rfl) w_s4 rfl) d_X10_pass_57.2 (c_X4_drift κ a1 hA1 r3 h_r3 s4) rfl (fun r5 s6 w_s6 => ?_)
    refine q_iconst d_X10_pass_60 ?_
    refine q_istore_n d_X10_pass_61 rfl ?_
    refine q_iconst d_X10_pass_62 ?_
    refine q_istore d_X10_pass_63 rfl ?_
    refine q_jn (α := Int → Mem → Res) (fun j100 => ∀ (v7 : Int) (h_v7 : InR v7) (s8 : Mem) (w_s8 : WF s8), EO κ M_X10_pass R_X10_pass 100 [some (vr κ a), some (vr κ a1), some (vi x2), some (vi v7), none] [] s8 (j100 v7 s8)) ?_ (fun j100 hj100 => ?_)
    · intro v7 h_v7 s8 w_s8
      refine q_iload_n (x := x2) d_X10_pass_100 rfl ?_
      refine q_jn (α := Mem → Res) (fun j108 => ∀ (s9 : Mem) (w_s9 : WF s9), EO κ M_X10_pass R_X10_pass 108 [some (vr κ a), some (vr κ a1), none, some (vi v7), none] [] s9 (j108 s9)) ?_ (fun j108 hj108 => ?_)
      · intro s9 w_s9
        refine q_aload_n d_X10_pass_108 rfl ?_
        refine q_iconst d_X10_pass_109 ?_
        refine q_aload_n d_X10_pass_110 rfl ?_
        refine q_getI (k := 10) (j := 10) d_X10_pass_111 hA1.1 fi_10_126 rfl rfl ?_
        refine q_aload_n d_X10_pass_114 rfl ?_
        refine q_getR (n := 11) d_X10_pass_115 hA.1 fi_10_25 rfl (Nat.le_of_ble_eq_true rfl) ?_
        refine q_bipush d_X10_pass_118 rfl ?_
        refine q_aload_n d_X10_pass_120 rfl ?_
        refine q_iconst d_X10_pass_121 ?_
        refine q_callI (R' := R_X2_tells) (runV (As := [vi 13, vr κ a1, vi (-1)]) (rest := [vi (s9 a1 10), vi 0, vr κ a1]) d_X10_pass_122.1 cv_10_129 rfl hA.2.2.2.1.1 rfl rfl ⟨rfl, rfl, by decide, by decide⟩ (Nat.le_of_ble_eq_true rfl) w_s9 rfl) d_X10_pass_122.2 (c_X2_tells κ (a + 11) hA.2.2.2.1 13 (inr_d rfl) a1 hA1 (-1) (inr_d rfl) s9) rfl (fun r10 s11 h_r10 w_s11 => ?_)
        refine q_isub d_X10_pass_125 ?_
        refine q_mmax d_X10_pass_126 cv_10_133 mw_max ⟨by decide, Nat.le_of_ble_eq_true rfl⟩ (inr_b (Or.inl rfl)) (inr_wr _) ?_
        refine q_putI (k := 10) (j := 10) d_X10_pass_129 hA1.1 fp_10_126 rfl rfl (inr_mmx (inr_b (Or.inl rfl)) (inr_wr _)) w_s11 (fun s12 w_s12 => ?_)
        refine q_aload_n d_X10_pass_132 rfl ?_
        refine q_dup d_X10_pass_133 rfl ?_
        refine q_getI (k := 14) (j := 14) d_X10_pass_134 hA1.1 fi_10_97 rfl rfl ?_
        refine q_iconst d_X10_pass_137 ?_
        refine q_iadd d_X10_pass_138 ?_
        refine q_putI (k := 14) (j := 14) d_X10_pass_139 hA1.1 fp_10_97 rfl rfl (inr_wr _) w_s12 (fun s13 w_s13 => ?_)
        refine q_iload_n (x := v7) d_X10_pass_142 rfl ?_
        exact q_ireti d_X10_pass_143 rfl h_v7 w_s13
      refine q_if_eq d_X10_pass_101 h_x2 (fun c14 => ?_) (fun c14 => ?_)
      · refine q_sub (ls' := [some (vr κ a), some (vr κ a1), none, some (vi v7), none]) ⟨rfl, rfl, rfl, trivial⟩ ?_
        exact hj108 s8 w_s8
      · refine q_aload_n d_X10_pass_104 rfl ?_
        refine q_callV (R' := R_X4_fogMoves) (runV (As := []) (rest := []) d_X10_pass_105.1 cv_10_123 rfl hA1.1 rfl rfl ⟨rfl, rfl, by decide, by decide⟩ (Nat.le_of_ble_eq_true rfl) w_s8 rfl) d_X10_pass_105.2 (c_X4_fogMoves κ a1 hA1 s8) rfl (fun r15 s16 w_s16 => ?_)
        refine q_sub (ls' := [some (vr κ a), some (vr κ a1), none, some (vi v7), none]) ⟨rfl, rfl, rfl, trivial⟩ ?_
        exact hj108 s16 w_s16
    refine q_sub (ls' := [some (vr κ a), some (vr κ a1), some (vi x2), some (vi 0), some (vi 0)]) ⟨rfl, rfl, rfl, rfl, rfl, trivial⟩ ?_
    exact l_X10_pass_65 κ a hA a1 hA1 x2 h_x2 j100 hj100 FU 0 (inr_b (Or.inl rfl)) 0 (inr_b (Or.inl rfl)) s6 w_s6
  refine q_sub (ls' := [some (vr κ a), some (vr κ a1), some (vi x2), some (vi 0), none]) ⟨rfl, rfl, rfl, rfl, trivial⟩ ?_
  exact l_X10_pass_2 κ a hA a1 hA1 x2 h_x2 j42 hj42 FU 0 (inr_b (Or.inl rfl)) s0 w_s0
abbrev R_X8_behind : Room := { frames := 5, cells := 0, slots := 0, locals := 128 }
noncomputable def f_X8_behind_9 (a1 : Nat) (p2 : Int) (a3 : Nat) (k28 : Mem → Res) : Nat → Int → Mem → Res
  | 0, _, _ => none
  | n + 1, x4, s0 =>
    if x4 < p2 then (bd (f_X10_pass a1 a3 0 s0) fun r6 s7 => f_X8_behind_9 a1 p2 a3 k28 n (wr (x4 + 1)) s7) else (k28 s0)
noncomputable def f_X8_behind (a : Nat) (a1 : Nat) (x2 : Int) (s0 : Mem) : Res :=
  bd (f_X8_begin a a1 s0) fun r1 s2 => gd (isN r1.toNat) (jn (fun (s4 : Mem) => some (((r1.toNat : Nat) : Int), s4)) fun j28 => f_X8_behind_9 a1 x2 (r1.toNat) j28 FU 0 s2)
set_option maxHeartbeats 4000000 in
set_option maxRecDepth 10000 in
theorem l_X8_behind_9 (κ : Kp) (a1 : Nat) (hA1 : At10 κ a1) (p2 : Int) (h_p2 : InR p2) (a3 : Nat) (hA3 : At4 κ a3) (k28 : Mem → Res) (hk28 : ∀ (sz : Mem) (w_sz : WF sz), EO κ M_X8_behind R_X8_behind 28 [none, none, none, some (vr κ a3), none] [] sz (k28 sz)) : ∀ (n : Nat) (x4 : Int) (h_x4 : InR x4) (s0 : Mem) (w_s0 : WF s0), EO κ M_X8_behind R_X8_behind 9 [none, some (vr κ a1), some (vi p2), some (vr κ a3), some (vi x4)] [] s0 (f_X8_behind_9 a1 p2 a3 k28 n x4 s0) := by
  intro n
  induction n with
  | zero => exact fun _ _ _ _ => q_none
  | succ n ih =>
    intro x4 h_x4 s0 w_s0
    rw [f_X8_behind_9]
    refine q_iload (x := x4) d_X8_behind_9 rfl ?_
    refine q_iload_n (x := p2) d_X8_behind_11 rfl ?_
    refine q_icmp_ge d_X8_behind_12 h_x4 h_p2 (fun c5 => ?_) (fun c5 => ?_)
    · refine q_aload_n d_X8_behind_15 rfl ?_
      refine q_aload_n d_X8_behind_16 rfl ?_
      refine q_iconst d_X8_behind_17 ?_
      refine q_callI (R' := R_X10_pass) (runV (As := [vr κ a3, vi 0]) (rest := []) d_X8_behind_18.1 cv_8_39 rfl hA1.1 rfl rfl ⟨rfl, rfl, by decide, by decide⟩ (Nat.le_of_ble_eq_true rfl) w_s0 rfl) d_X8_behind_18.2 (c_X10_pass κ a1 hA1 a3 hA3 0 (inr_b (Or.inl rfl)) s0) rfl (fun r6 s7 h_r6 w_s7 => ?_)
      refine q_pop d_X8_behind_21 rfl ?_
      refine q_iinc (x := x4) d_X8_behind_22 rfl rfl ?_
      refine q_goto d_X8_behind_25 ?_
      refine q_sub (ls' := [none, some (vr κ a1), some (vi p2), some (vr κ a3), some (vi (wr (x4 + 1)))]) ⟨rfl, rfl, rfl, rfl, trivial⟩ ?_
      exact ih (wr (x4 + 1)) (inr_wr _) s7 w_s7
    · refine q_sub (ls' := [none, none, none, some (vr κ a3), none]) ⟨rfl, trivial⟩ ?_
      exact hk28 s0 w_s0
set_option maxHeartbeats 4000000 in
set_option maxRecDepth 10000 in
theorem c_X8_behind (κ : Kp) (a : Nat) (hA : At8 κ a) (a1 : Nat) (hA1 : At10 κ a1) (x2 : Int) (h_x2 : InR x2) (s0 : Mem) : ∀ r σ', f_X8_behind a a1 x2 s0 = some (r, σ') → Ct κ M_X8_behind R_X8_behind [vr κ a, vr κ a1, vi x2] s0 r σ' := by
  intro r σ' ho
  refine Ct.of (by decide) (Nat.le_of_ble_eq_true rfl) (cat_ok rfl) (fun w_s0 => ?_) ⟨rfl, rfl⟩
  refine q_ent (ls' := [some (vr κ a), some (vr κ a1), some (vi x2), none, none]) (o := f_X8_behind a a1 x2 s0) ⟨rfl, rfl, rfl, trivial⟩ ?_ ho
  unfold f_X8_behind
  refine q_aload_n d_X8_behind_0 rfl ?_
  refine q_aload_n d_X8_behind_1 rfl ?_
  refine q_callR (R' := R_X8_begin) (runV (As := [vr κ a1]) (rest := []) d_X8_behind_2.1 cv_8_35 rfl hA.1 rfl rfl ⟨rfl, rfl, by decide, by decide⟩ (Nat.le_of_ble_eq_true rfl) w_s0 rfl) d_X8_behind_2.2 (c_X8_begin κ a hA a1 hA1 s0) rfl (fun r1 s2 h_r1 w_s2 => ?_)
  refine q_gd (fun g3 => ?_)
  refine q_astore_n d_X8_behind_5 rfl ?_
  refine q_iconst d_X8_behind_6 ?_
  refine q_istore d_X8_behind_7 rfl ?_
  refine q_jn (α := Mem → Res) (fun j28 => ∀ (s4 : Mem) (w_s4 : WF s4), EO κ M_X8_behind R_X8_behind 28 [none, none, none, some (vr κ (r1.toNat)), none] [] s4 (j28 s4)) ?_ (fun j28 hj28 => ?_)
  · intro s4 w_s4
    refine q_aload_n d_X8_behind_28 rfl ?_
    exact q_aret d_X8_behind_29 rfl (isN_le hA.2.2.2 (at4_x hA.2.2.2 g3)) w_s4
  refine q_sub (ls' := [none, some (vr κ a1), some (vi x2), some (vr κ (r1.toNat)), some (vi 0)]) ⟨rfl, rfl, rfl, rfl, trivial⟩ ?_
  exact l_X8_behind_9 κ a1 hA1 x2 h_x2 (r1.toNat) (at4_x hA.2.2.2 g3) j28 hj28 FU 0 (inr_b (Or.inl rfl)) s2 w_s2
abbrev R_X8_lostBehind : Room := { frames := 5, cells := 0, slots := 0, locals := 128 }
noncomputable def f_X8_lostBehind_9 (a1 : Nat) (p2 : Int) (a3 : Nat) (k40 : Mem → Res) : Nat → Int → Mem → Res
  | 0, _, _ => none
  | n + 1, x4, s0 =>
    if 99 < x4 then (k40 s0) else (bd (f_X10_pass a1 a3 0 s0) fun r6 s7 => bd (f_X4_afloat a3 p2 s7) fun r8 s9 => if r8 = 0 then (some (x4, s9)) else (f_X8_lostBehind_9 a1 p2 a3 k40 n (wr (x4 + 1)) s9))
noncomputable def f_X8_lostBehind (a : Nat) (a1 : Nat) (x2 : Int) (s0 : Mem) : Res :=
  bd (f_X8_begin a a1 s0) fun r1 s2 => gd (isN r1.toNat) (jn (fun (s4 : Mem) => some ((-1), s4)) fun j40 => f_X8_lostBehind_9 a1 x2 (r1.toNat) j40 FU 1 s2)
set_option maxHeartbeats 4000000 in
set_option maxRecDepth 10000 in
theorem l_X8_lostBehind_9 (κ : Kp) (a1 : Nat) (hA1 : At10 κ a1) (p2 : Int) (h_p2 : InR p2) (a3 : Nat) (hA3 : At4 κ a3) (k40 : Mem → Res) (hk40 : ∀ (sz : Mem) (w_sz : WF sz), EO κ M_X8_lostBehind R_X8_lostBehind 40 [none, none, none, none, none] [] sz (k40 sz)) : ∀ (n : Nat) (x4 : Int) (h_x4 : InR x4) (s0 : Mem) (w_s0 : WF s0), EO κ M_X8_lostBehind R_X8_lostBehind 9 [none, some (vr κ a1), some (vi p2), some (vr κ a3), some (vi x4)] [] s0 (f_X8_lostBehind_9 a1 p2 a3 k40 n x4 s0) := by
  intro n
  induction n with
  | zero => exact fun _ _ _ _ => q_none
  | succ n ih =>
    intro x4 h_x4 s0 w_s0
    rw [f_X8_lostBehind_9]
    refine q_iload (x := x4) d_X8_lostBehind_9 rfl ?_
    refine q_bipush d_X8_lostBehind_11 rfl ?_
    refine q_icmp_gt d_X8_lostBehind_13 h_x4 (inr_d rfl) (fun c5 => ?_) (fun c5 => ?_)
    · refine q_sub (ls' := [none, none, none, none, none]) trivial ?_
      exact hk40 s0 w_s0
    · refine q_aload_n d_X8_lostBehind_16 rfl ?_
      refine q_aload_n d_X8_lostBehind_17 rfl ?_
      refine q_iconst d_X8_lostBehind_18 ?_
      refine q_callI (R' := R_X10_pass) (runV (As := [vr κ a3, vi 0]) (rest := []) d_X8_lostBehind_19.1 cv_8_39 rfl hA1.1 rfl rfl ⟨rfl, rfl, by decide, by decide⟩ (Nat.le_of_ble_eq_true rfl) w_s0 rfl) d_X8_lostBehind_19.2 (c_X10_pass κ a1 hA1 a3 hA3 0 (inr_b (Or.inl rfl)) s0) rfl (fun r6 s7 h_r6 w_s7 => ?_)
      refine q_pop d_X8_lostBehind_22 rfl ?_
      refine q_aload_n d_X8_lostBehind_23 rfl ?_
      refine q_iload_n (x := p2) d_X8_lostBehind_24 rfl ?_
      refine q_callZ (R' := R_X4_afloat) (runV (As := [vi p2]) (rest := []) d_X8_lostBehind_25.1 cv_8_43 rfl hA3.1 rfl rfl ⟨rfl, rfl, by decide, by decide⟩ (Nat.le_of_ble_eq_true rfl) w_s7 rfl) d_X8_lostBehind_25.2 (c_X4_afloat κ a3 hA3 p2 h_p2 s7) rfl (fun r8 s9 h_r8 w_s9 => ?_)
      refine q_if_ne d_X8_lostBehind_28 (inr_b h_r8) (fun c10 => ?_) (fun c10 => ?_)
      · refine q_iload (x := x4) d_X8_lostBehind_31 rfl ?_
        exact q_ireti d_X8_lostBehind_33 rfl h_x4 w_s9
      · refine q_iinc (x := x4) d_X8_lostBehind_34 rfl rfl ?_
        refine q_goto d_X8_lostBehind_37 ?_
        refine q_sub (ls' := [none, some (vr κ a1), some (vi p2), some (vr κ a3), some (vi (wr (x4 + 1)))]) ⟨rfl, rfl, rfl, rfl, trivial⟩ ?_
        exact ih (wr (x4 + 1)) (inr_wr _) s9 w_s9
set_option maxHeartbeats 4000000 in
set_option maxRecDepth 10000 in
theorem c_X8_lostBehind (κ : Kp) (a : Nat) (hA : At8 κ a) (a1 : Nat) (hA1 : At10 κ a1) (x2 : Int) (h_x2 : InR x2) (s0 : Mem) : ∀ r σ', f_X8_lostBehind a a1 x2 s0 = some (r, σ') → Ct κ M_X8_lostBehind R_X8_lostBehind [vr κ a, vr κ a1, vi x2] s0 r σ' := by
  intro r σ' ho
  refine Ct.of (by decide) (Nat.le_of_ble_eq_true rfl) (cat_ok rfl) (fun w_s0 => ?_) ⟨rfl, rfl⟩
  refine q_ent (ls' := [some (vr κ a), some (vr κ a1), some (vi x2), none, none]) (o := f_X8_lostBehind a a1 x2 s0) ⟨rfl, rfl, rfl, trivial⟩ ?_ ho
  unfold f_X8_lostBehind
  refine q_aload_n d_X8_lostBehind_0 rfl ?_
  refine q_aload_n d_X8_lostBehind_1 rfl ?_
  refine q_callR (R' := R_X8_begin) (runV (As := [vr κ a1]) (rest := []) d_X8_lostBehind_2.1 cv_8_35 rfl hA.1 rfl rfl ⟨rfl, rfl, by decide, by decide⟩ (Nat.le_of_ble_eq_true rfl) w_s0 rfl) d_X8_lostBehind_2.2 (c_X8_begin κ a hA a1 hA1 s0) rfl (fun r1 s2 h_r1 w_s2 => ?_)
  refine q_gd (fun g3 => ?_)
  refine q_astore_n d_X8_lostBehind_5 rfl ?_
  refine q_iconst d_X8_lostBehind_6 ?_
  refine q_istore d_X8_lostBehind_7 rfl ?_
  refine q_jn (α := Mem → Res) (fun j40 => ∀ (s4 : Mem) (w_s4 : WF s4), EO κ M_X8_lostBehind R_X8_lostBehind 40 [none, none, none, none, none] [] s4 (j40 s4)) ?_ (fun j40 hj40 => ?_)
  · intro s4 w_s4
    refine q_iconst d_X8_lostBehind_40 ?_
    exact q_ireti d_X8_lostBehind_41 rfl (inr_d rfl) w_s4
  refine q_sub (ls' := [none, some (vr κ a1), some (vi x2), some (vr κ (r1.toNat)), some (vi 1)]) ⟨rfl, rfl, rfl, rfl, trivial⟩ ?_
  exact l_X8_lostBehind_9 κ a1 hA1 x2 h_x2 (r1.toNat) (at4_x hA.2.2.2 g3) j40 hj40 FU 1 (inr_b (Or.inr rfl)) s2 w_s2
abbrev R_X8_hadBehind : Room := { frames := 5, cells := 0, slots := 0, locals := 128 }
noncomputable def f_X8_hadBehind_9 (a1 : Nat) (p2 : Int) (a3 : Nat) (k40 : Mem → Res) : Nat → Int → Mem → Res
  | 0, _, _ => none
  | n + 1, x4, s0 =>
    if 99 < x4 then (k40 s0) else (bd (f_X4_had a3 s0) fun r6 s7 => if r6 < p2 then (bd (f_X10_pass a1 a3 0 s7) fun r9 s10 => f_X8_hadBehind_9 a1 p2 a3 k40 n (wr (x4 + 1)) s10) else (some (x4, s7)))
noncomputable def f_X8_hadBehind (a : Nat) (a1 : Nat) (x2 : Int) (s0 : Mem) : Res :=
  bd (f_X8_begin a a1 s0) fun r1 s2 => gd (isN r1.toNat) (jn (fun (s4 : Mem) => some ((-1), s4)) fun j40 => f_X8_hadBehind_9 a1 x2 (r1.toNat) j40 FU 0 s2)
set_option maxHeartbeats 4000000 in
set_option maxRecDepth 10000 in
theorem l_X8_hadBehind_9 (κ : Kp) (a1 : Nat) (hA1 : At10 κ a1) (p2 : Int) (h_p2 : InR p2) (a3 : Nat) (hA3 : At4 κ a3) (k40 : Mem → Res) (hk40 : ∀ (sz : Mem) (w_sz : WF sz), EO κ M_X8_hadBehind R_X8_hadBehind 40 [none, none, none, none, none] [] sz (k40 sz)) : ∀ (n : Nat) (x4 : Int) (h_x4 : InR x4) (s0 : Mem) (w_s0 : WF s0), EO κ M_X8_hadBehind R_X8_hadBehind 9 [none, some (vr κ a1), some (vi p2), some (vr κ a3), some (vi x4)] [] s0 (f_X8_hadBehind_9 a1 p2 a3 k40 n x4 s0) := by
  intro n
  induction n with
  | zero => exact fun _ _ _ _ => q_none
  | succ n ih =>
    intro x4 h_x4 s0 w_s0
    rw [f_X8_hadBehind_9]
    refine q_iload (x := x4) d_X8_hadBehind_9 rfl ?_
    refine q_bipush d_X8_hadBehind_11 rfl ?_
    refine q_icmp_gt d_X8_hadBehind_13 h_x4 (inr_d rfl) (fun c5 => ?_) (fun c5 => ?_)
    · refine q_sub (ls' := [none, none, none, none, none]) trivial ?_
      exact hk40 s0 w_s0
    · refine q_aload_n d_X8_hadBehind_16 rfl ?_
      refine q_callI (R' := R_X4_had) (runV (As := []) (rest := []) d_X8_hadBehind_17.1 cv_8_47 rfl hA3.1 rfl rfl ⟨rfl, rfl, by decide, by decide⟩ (Nat.le_of_ble_eq_true rfl) w_s0 rfl) d_X8_hadBehind_17.2 (c_X4_had κ a3 hA3 s0) rfl (fun r6 s7 h_r6 w_s7 => ?_)
      refine q_iload_n (x := p2) d_X8_hadBehind_20 rfl ?_
      refine q_icmp_lt d_X8_hadBehind_21 h_r6 h_p2 (fun c8 => ?_) (fun c8 => ?_)
      · refine q_aload_n d_X8_hadBehind_27 rfl ?_
        refine q_aload_n d_X8_hadBehind_28 rfl ?_
        refine q_iconst d_X8_hadBehind_29 ?_
        refine q_callI (R' := R_X10_pass) (runV (As := [vr κ a3, vi 0]) (rest := []) d_X8_hadBehind_30.1 cv_8_39 rfl hA1.1 rfl rfl ⟨rfl, rfl, by decide, by decide⟩ (Nat.le_of_ble_eq_true rfl) w_s7 rfl) d_X8_hadBehind_30.2 (c_X10_pass κ a1 hA1 a3 hA3 0 (inr_b (Or.inl rfl)) s7) rfl (fun r9 s10 h_r9 w_s10 => ?_)
        refine q_pop d_X8_hadBehind_33 rfl ?_
        refine q_iinc (x := x4) d_X8_hadBehind_34 rfl rfl ?_
        refine q_goto d_X8_hadBehind_37 ?_
        refine q_sub (ls' := [none, some (vr κ a1), some (vi p2), some (vr κ a3), some (vi (wr (x4 + 1)))]) ⟨rfl, rfl, rfl, rfl, trivial⟩ ?_
        exact ih (wr (x4 + 1)) (inr_wr _) s10 w_s10
      · refine q_iload (x := x4) d_X8_hadBehind_24 rfl ?_
        exact q_ireti d_X8_hadBehind_26 rfl h_x4 w_s7
set_option maxHeartbeats 4000000 in
set_option maxRecDepth 10000 in
theorem c_X8_hadBehind (κ : Kp) (a : Nat) (hA : At8 κ a) (a1 : Nat) (hA1 : At10 κ a1) (x2 : Int) (h_x2 : InR x2) (s0 : Mem) : ∀ r σ', f_X8_hadBehind a a1 x2 s0 = some (r, σ') → Ct κ M_X8_hadBehind R_X8_hadBehind [vr κ a, vr κ a1, vi x2] s0 r σ' := by
  intro r σ' ho
  refine Ct.of (by decide) (Nat.le_of_ble_eq_true rfl) (cat_ok rfl) (fun w_s0 => ?_) ⟨rfl, rfl⟩
  refine q_ent (ls' := [some (vr κ a), some (vr κ a1), some (vi x2), none, none]) (o := f_X8_hadBehind a a1 x2 s0) ⟨rfl, rfl, rfl, trivial⟩ ?_ ho
  unfold f_X8_hadBehind
  refine q_aload_n d_X8_hadBehind_0 rfl ?_
  refine q_aload_n d_X8_hadBehind_1 rfl ?_
  refine q_callR (R' := R_X8_begin) (runV (As := [vr κ a1]) (rest := []) d_X8_hadBehind_2.1 cv_8_35 rfl hA.1 rfl rfl ⟨rfl, rfl, by decide, by decide⟩ (Nat.le_of_ble_eq_true rfl) w_s0 rfl) d_X8_hadBehind_2.2 (c_X8_begin κ a hA a1 hA1 s0) rfl (fun r1 s2 h_r1 w_s2 => ?_)
  refine q_gd (fun g3 => ?_)
  refine q_astore_n d_X8_hadBehind_5 rfl ?_
  refine q_iconst d_X8_hadBehind_6 ?_
  refine q_istore d_X8_hadBehind_7 rfl ?_
  refine q_jn (α := Mem → Res) (fun j40 => ∀ (s4 : Mem) (w_s4 : WF s4), EO κ M_X8_hadBehind R_X8_hadBehind 40 [none, none, none, none, none] [] s4 (j40 s4)) ?_ (fun j40 hj40 => ?_)
  · intro s4 w_s4
    refine q_iconst d_X8_hadBehind_40 ?_
    exact q_ireti d_X8_hadBehind_41 rfl (inr_d rfl) w_s4
  refine q_sub (ls' := [none, some (vr κ a1), some (vi x2), some (vr κ (r1.toNat)), some (vi 0)]) ⟨rfl, rfl, rfl, rfl, trivial⟩ ?_
  exact l_X8_hadBehind_9 κ a1 hA1 x2 h_x2 (r1.toNat) (at4_x hA.2.2.2 g3) j40 hj40 FU 0 (inr_b (Or.inl rfl)) s2 w_s2
abbrev R_X8_mirrored : Room := { frames := 0, cells := 0, slots := 0, locals := 0 }
noncomputable def f_X8_mirrored_4 (p0 : Int) (p1 : Int) (k29 : Int → Res) (s0 : Mem) : Nat → Int → Int → Res
  | 0, _, _ => none
  | n + 1, x2, x3 =>
    if x3 < p1 then (f_X8_mirrored_4 p0 p1 k29 s0 n (ior x2 (ishl (iand (ishr p0 x3) 1) (wr ((wr (p1 - 1)) - x3)))) (wr (x3 + 1))) else (k29 x2)
noncomputable def f_X8_mirrored (x0 : Int) (x1 : Int) (s0 : Mem) : Res :=
  jn (fun (v1 : Int) => some (v1, s0)) fun j29 => f_X8_mirrored_4 x0 x1 j29 s0 FU 0 0
set_option maxHeartbeats 4000000 in
set_option maxRecDepth 10000 in
theorem l_X8_mirrored_4 (κ : Kp) (p0 : Int) (h_p0 : InR p0) (p1 : Int) (h_p1 : InR p1) (k29 : Int → Res) (s0 : Mem) (w_s0 : WF s0) (hk29 : ∀ (z2 : Int) (h_z2 : InR z2), EO κ M_X8_mirrored R_X8_mirrored 29 [none, none, some (vi z2), none] [] s0 (k29 z2)) : ∀ (n : Nat) (x2 : Int) (h_x2 : InR x2) (x3 : Int) (h_x3 : InR x3), EO κ M_X8_mirrored R_X8_mirrored 4 [some (vi p0), some (vi p1), some (vi x2), some (vi x3)] [] s0 (f_X8_mirrored_4 p0 p1 k29 s0 n x2 x3) := by
  intro n
  induction n with
  | zero => exact fun _ _ _ _ => q_none
  | succ n ih =>
    intro x2 h_x2 x3 h_x3
    rw [f_X8_mirrored_4]
    refine q_iload_n (x := x3) d_X8_mirrored_4 rfl ?_
    refine q_iload_n (x := p1) d_X8_mirrored_5 rfl ?_
    refine q_icmp_ge d_X8_mirrored_6 h_x3 h_p1 (fun c2 => ?_) (fun c2 => ?_)
    · refine q_iload_n (x := x2) d_X8_mirrored_9 rfl ?_
      refine q_iload_n (x := p0) d_X8_mirrored_10 rfl ?_
      refine q_iload_n (x := x3) d_X8_mirrored_11 rfl ?_
      refine q_ishr d_X8_mirrored_12 ?_
      refine q_iconst d_X8_mirrored_13 ?_
      refine q_iand d_X8_mirrored_14 ?_
      refine q_iload_n (x := p1) d_X8_mirrored_15 rfl ?_
      refine q_iconst d_X8_mirrored_16 ?_
      refine q_isub d_X8_mirrored_17 ?_
      refine q_iload_n (x := x3) d_X8_mirrored_18 rfl ?_
      refine q_isub d_X8_mirrored_19 ?_
      refine q_ishl d_X8_mirrored_20 ?_
      refine q_ior d_X8_mirrored_21 ?_
      refine q_istore_n d_X8_mirrored_22 rfl ?_
      refine q_iinc (x := x3) d_X8_mirrored_23 rfl rfl ?_
      refine q_goto d_X8_mirrored_26 ?_
      refine q_sub (ls' := [some (vi p0), some (vi p1), some (vi (ior x2 (ishl (iand (ishr p0 x3) 1) (wr ((wr (p1 - 1)) - x3))))), some (vi (wr (x3 + 1)))]) ⟨rfl, rfl, rfl, rfl, trivial⟩ ?_
      exact ih (ior x2 (ishl (iand (ishr p0 x3) 1) (wr ((wr (p1 - 1)) - x3)))) (inr_i32 _) (wr (x3 + 1)) (inr_wr _)
    · refine q_sub (ls' := [none, none, some (vi x2), none]) ⟨rfl, trivial⟩ ?_
      exact hk29 x2 h_x2
set_option maxHeartbeats 4000000 in
set_option maxRecDepth 10000 in
theorem c_X8_mirrored (κ : Kp) (x0 : Int) (h_x0 : InR x0) (x1 : Int) (h_x1 : InR x1) (s0 : Mem) : ∀ r σ', f_X8_mirrored x0 x1 s0 = some (r, σ') → Ct κ M_X8_mirrored R_X8_mirrored [vi x0, vi x1] s0 r σ' := by
  intro r σ' ho
  refine Ct.of (by decide) (Nat.le_of_ble_eq_true rfl) (cat_ok rfl) (fun w_s0 => ?_) ⟨rfl, rfl⟩
  refine q_ent (ls' := [some (vi x0), some (vi x1), none, none]) (o := f_X8_mirrored x0 x1 s0) ⟨rfl, rfl, trivial⟩ ?_ ho
  unfold f_X8_mirrored
  refine q_iconst d_X8_mirrored_0 ?_
  refine q_istore_n d_X8_mirrored_1 rfl ?_
  refine q_iconst d_X8_mirrored_2 ?_
  refine q_istore_n d_X8_mirrored_3 rfl ?_
  refine q_jn (α := Int → Res) (fun j29 => ∀ (v1 : Int) (h_v1 : InR v1), EO κ M_X8_mirrored R_X8_mirrored 29 [none, none, some (vi v1), none] [] s0 (j29 v1)) ?_ (fun j29 hj29 => ?_)
  · intro v1 h_v1
    refine q_iload_n (x := v1) d_X8_mirrored_29 rfl ?_
    exact q_ireti d_X8_mirrored_30 rfl h_v1 w_s0
  refine q_sub (ls' := [some (vi x0), some (vi x1), some (vi 0), some (vi 0)]) ⟨rfl, rfl, rfl, rfl, trivial⟩ ?_
  exact l_X8_mirrored_4 κ x0 h_x0 x1 h_x1 j29 s0 w_s0 hj29 FU 0 (inr_b (Or.inl rfl)) 0 (inr_b (Or.inl rfl))
abbrev R_X8_bestTurns : Room := { frames := 5, cells := 0, slots := 0, locals := 128 }
noncomputable def f_X8_bestTurns_53 (a : Nat) (a1 : Nat) (p2 : Int) (p3 : Int) (p7 : Int) (k126 : Mem → Res) : Nat → Int → Mem → Res
  | 0, _, _ => none
  | n + 1, x9, s0 =>
    if x9 < p3 then (if x9 < 10 then (gd ((0 : Int) ≤ wr (x9 + 1) ∧ wr (x9 + 1) < 11) (gd ((0 : Int) ≤ x9 ∧ x9 < 11) (bd (f_X4_become ((a + 1) + 3 + 9 * (wr (x9 + 1)).toNat) ((a + 1) + 3 + 9 * x9.toNat) s0) fun r33 s34 => jn (fun (s35 : Mem) => bd (f_X10_pass a1 ((a + 1) + 3 + 9 * (wr (x9 + 1)).toNat) 0 s35) fun r36 s37 => f_X8_bestTurns_53 a a1 p2 p3 p7 k126 n (wr (x9 + 1)) s37) fun j112 => if iand (ishr p7 (wr ((wr (p3 - 1)) - x9))) 1 = 1 then (bd (f_X10_turnAbout a1 ((a + 1) + 3 + 9 * (wr (x9 + 1)).toNat) p2 0 s34) fun r39 s40 => j112 s40) else (j112 s34)))) else (k126 s0)) else (k126 s0)
noncomputable def f_X8_bestTurns_15 (a : Nat) (a1 : Nat) (p2 : Int) (p3 : Int) (k198 : Int → Int → Mem → Res) : Nat → Int → Int → Int → Mem → Res
  | 0, _, _, _, _ => none
  | n + 1, x5, x6, x7, s0 =>
    if x7 < ishl 1 p3 then (jn (fun (y10 : Int) (s11 : Mem) => jn (fun (s12 : Mem) => bd (f_X8_mirrored x7 p3 s12) fun r13 s14 => gd ((0 : Int) ≤ p3 ∧ p3 < 11) (bd (f_X4_afloat ((a + 1) + 3 + 9 * p3.toNat) p2 s14) fun r16 s17 => jn (fun (y18 : Int) (s19 : Mem) => jn (fun (v20 : Int) (v21 : Int) => f_X8_bestTurns_15 a a1 p2 p3 k198 n v20 v21 (wr (x7 + 1)) s19) fun j192 => jn (fun (_ : Unit) => j192 y18 r13) fun j184 => if x5 < y18 then (j184 ()) else (if y18 = x5 then (if r13 < x6 then (j184 ()) else (j192 x5 x6)) else (j192 x5 x6))) fun j161 => if r16 = 0 then (j161 (-1) s17) else (gd ((0 : Int) ≤ p3 ∧ p3 < 11) (bd (f_X4_stuckIn ((a + 1) + 3 + 9 * p3.toNat) p2 s17) fun r27 s28 => j161 r27 s28)))) fun j126 => f_X8_bestTurns_53 a a1 p2 p3 x7 j126 FU y10 s11) fun j47 => if x7 = 0 then (j47 0 s0) else (bd (f_J6_bitCount_0f7a4 (wr ((iand x7 (wr (-x7))) - 1)) s0) fun r42 s43 => j47 (wr ((wr (p3 - 1)) - r42)) s43)) else (k198 x5 x6 s0)
noncomputable def f_X8_bestTurns (a : Nat) (a1 : Nat) (x2 : Int) (x3 : Int) (x4 : Int) (s0 : Mem) : Res :=
  bd (f_X8_begin a a1 s0) fun r1 s2 => gd (isN r1.toNat) (jn (fun (v4 : Int) (v5 : Int) (s6 : Mem) => if v4 = (-1) then (some ((-1), s6)) else (if x4 = 0 then (some (v4, s6)) else (some (v5, s6)))) fun j198 => f_X8_bestTurns_15 a a1 x2 x3 j198 FU (-1) (-1) 0 s2)
set_option maxHeartbeats 4000000 in
set_option maxRecDepth 10000 in
theorem l_X8_bestTurns_53 (κ : Kp) (a : Nat) (hA : At8 κ a) (a1 : Nat) (hA1 : At10 κ a1) (p2 : Int) (h_p2 : InR p2) (p3 : Int) (h_p3 : InR p3) (p4 : Int) (h_p4 : InR p4) (p5 : Int) (h_p5 : InR p5) (p6 : Int) (h_p6 : InR p6) (p7 : Int) (h_p7 : InR p7) (k126 : Mem → Res) (hk126 : ∀ (sz : Mem) (w_sz : WF sz), EO κ M_X8_bestTurns R_X8_bestTurns 126 [some (vr κ a), some (vr κ a1), some (vi p2), some (vi p3), some (vi p4), some (vi p5), some (vi p6), some (vi p7), none, none, none] [] sz (k126 sz)) : ∀ (n : Nat) (x9 : Int) (h_x9 : InR x9) (s0 : Mem) (w_s0 : WF s0), EO κ M_X8_bestTurns R_X8_bestTurns 53 [some (vr κ a), some (vr κ a1), some (vi p2), some (vi p3), some (vi p4), some (vi p5), some (vi p6), some (vi p7), none, some (vi x9), none] [] s0 (f_X8_bestTurns_53 a a1 p2 p3 p7 k126 n x9 s0) := by
  intro n
  induction n with
  | zero => exact fun _ _ _ _ => q_none
  | succ n ih =>
    intro x9 h_x9 s0 w_s0
    rw [f_X8_bestTurns_53]
    refine q_iload (x := x9) d_X8_bestTurns_53 rfl ?_
    refine q_iload_n (x := p3) d_X8_bestTurns_55 rfl ?_
    refine q_icmp_ge d_X8_bestTurns_56 h_x9 h_p3 (fun c29 => ?_) (fun c29 => ?_)
    · refine q_iload (x := x9) d_X8_bestTurns_59 rfl ?_
      refine q_bipush d_X8_bestTurns_61 rfl ?_
      refine q_icmp_ge d_X8_bestTurns_63 h_x9 (inr_d rfl) (fun c30 => ?_) (fun c30 => ?_)
      · refine q_aload_n d_X8_bestTurns_66 rfl ?_
        refine q_getR (n := 1) d_X8_bestTurns_67 hA.1 fi_8_11 rfl (Nat.le_of_ble_eq_true rfl) ?_
        refine q_iload (x := x9) d_X8_bestTurns_70 rfl ?_
        refine q_iconst d_X8_bestTurns_72 ?_
        refine q_iadd d_X8_bestTurns_73 ?_
        refine q_aaload (m := 11) d_X8_bestTurns_74 hA.2.1 (by decide) (by decide) rfl (fun g31 => ?_)
        refine q_astore d_X8_bestTurns_75 rfl ?_
        refine q_aload d_X8_bestTurns_77 rfl ?_
        refine q_aload_n d_X8_bestTurns_79 rfl ?_
        refine q_getR (n := 1) d_X8_bestTurns_80 hA.1 fi_8_11 rfl (Nat.le_of_ble_eq_true rfl) ?_
        refine q_iload (x := x9) d_X8_bestTurns_83 rfl ?_
        refine q_aaload (m := 11) d_X8_bestTurns_85 hA.2.1 (by decide) (by decide) rfl (fun g32 => ?_)
        refine q_callV (R' := R_X4_become) (runV (As := [vr κ ((a + 1) + 3 + 9 * x9.toNat)]) (rest := []) d_X8_bestTurns_86.1 cv_8_31 rfl (hA.2.2.1 _ (toNat_lt g31)).1 rfl rfl ⟨rfl, rfl, by decide, by decide⟩ (Nat.le_of_ble_eq_true rfl) w_s0 rfl) d_X8_bestTurns_86.2 (c_X4_become κ ((a + 1) + 3 + 9 * (wr (x9 + 1)).toNat) (hA.2.2.1 _ (toNat_lt g31)) ((a + 1) + 3 + 9 * x9.toNat) (hA.2.2.1 _ (toNat_lt g32)) s0) rfl (fun r33 s34 w_s34 => ?_)
        refine q_iload (x := p7) d_X8_bestTurns_89 rfl ?_
        refine q_iload_n (x := p3) d_X8_bestTurns_91 rfl ?_
        refine q_iconst d_X8_bestTurns_92 ?_
        refine q_isub d_X8_bestTurns_93 ?_
        refine q_iload (x := x9) d_X8_bestTurns_94 rfl ?_
        refine q_isub d_X8_bestTurns_96 ?_
        refine q_ishr d_X8_bestTurns_97 ?_
        refine q_iconst d_X8_bestTurns_98 ?_
        refine q_iand d_X8_bestTurns_99 ?_
        refine q_iconst d_X8_bestTurns_100 ?_
        refine q_jn (α := Mem → Res) (fun j112 => ∀ (s35 : Mem) (w_s35 : WF s35), EO κ M_X8_bestTurns R_X8_bestTurns 112 [some (vr κ a), some (vr κ a1), some (vi p2), some (vi p3), some (vi p4), some (vi p5), some (vi p6), some (vi p7), none, some (vi x9), some (vr κ ((a + 1) + 3 + 9 * (wr (x9 + 1)).toNat))] [] s35 (j112 s35)) ?_ (fun j112 hj112 => ?_)
        · intro s35 w_s35
          refine q_aload_n d_X8_bestTurns_112 rfl ?_
          refine q_aload d_X8_bestTurns_113 rfl ?_
          refine q_iconst d_X8_bestTurns_115 ?_
          refine q_callI (R' := R_X10_pass) (runV (As := [vr κ ((a + 1) + 3 + 9 * (wr (x9 + 1)).toNat), vi 0]) (rest := []) d_X8_bestTurns_116.1 cv_8_39 rfl hA1.1 rfl rfl ⟨rfl, rfl, by decide, by decide⟩ (Nat.le_of_ble_eq_true rfl) w_s35 rfl) d_X8_bestTurns_116.2 (c_X10_pass κ a1 hA1 ((a + 1) + 3 + 9 * (wr (x9 + 1)).toNat) (hA.2.2.1 _ (toNat_lt g31)) 0 (inr_b (Or.inl rfl)) s35) rfl (fun r36 s37 h_r36 w_s37 => ?_)
          refine q_pop d_X8_bestTurns_119 rfl ?_
          refine q_iinc (x := x9) d_X8_bestTurns_120 rfl rfl ?_
          refine q_goto d_X8_bestTurns_123 ?_
          refine q_sub (ls' := [some (vr κ a), some (vr κ a1), some (vi p2), some (vi p3), some (vi p4), some (vi p5), some (vi p6), some (vi p7), none, some (vi (wr (x9 + 1))), none]) ⟨rfl, rfl, rfl, rfl, rfl, rfl, rfl, rfl, rfl, trivial⟩ ?_
          exact ih (wr (x9 + 1)) (inr_wr _) s37 w_s37
        refine q_icmp_ne d_X8_bestTurns_101 (inr_i32 _) (inr_b (Or.inr rfl)) (fun c38 => ?_) (fun c38 => ?_)
        · refine q_aload_n d_X8_bestTurns_104 rfl ?_
          refine q_aload d_X8_bestTurns_105 rfl ?_
          refine q_iload_n (x := p2) d_X8_bestTurns_107 rfl ?_
          refine q_iconst d_X8_bestTurns_108 ?_
          refine q_callV (R' := R_X10_turnAbout) (runV (As := [vr κ ((a + 1) + 3 + 9 * (wr (x9 + 1)).toNat), vi p2, vi 0]) (rest := []) d_X8_bestTurns_109.1 cv_8_57 rfl hA1.1 rfl rfl ⟨rfl, rfl, by decide, by decide⟩ (Nat.le_of_ble_eq_true rfl) w_s34 rfl) d_X8_bestTurns_109.2 (c_X10_turnAbout κ a1 hA1 ((a + 1) + 3 + 9 * (wr (x9 + 1)).toNat) (hA.2.2.1 _ (toNat_lt g31)) p2 h_p2 0 (inr_b (Or.inl rfl)) s34) rfl (fun r39 s40 w_s40 => ?_)
          refine q_sub (ls' := [some (vr κ a), some (vr κ a1), some (vi p2), some (vi p3), some (vi p4), some (vi p5), some (vi p6), some (vi p7), none, some (vi x9), some (vr κ ((a + 1) + 3 + 9 * (wr (x9 + 1)).toNat))]) ⟨rfl, rfl, rfl, rfl, rfl, rfl, rfl, rfl, rfl, rfl, trivial⟩ ?_
          exact hj112 s40 w_s40
        · refine q_sub (ls' := [some (vr κ a), some (vr κ a1), some (vi p2), some (vi p3), some (vi p4), some (vi p5), some (vi p6), some (vi p7), none, some (vi x9), some (vr κ ((a + 1) + 3 + 9 * (wr (x9 + 1)).toNat))]) ⟨rfl, rfl, rfl, rfl, rfl, rfl, rfl, rfl, rfl, rfl, trivial⟩ ?_
          exact hj112 s34 w_s34
      · refine q_sub (ls' := [some (vr κ a), some (vr κ a1), some (vi p2), some (vi p3), some (vi p4), some (vi p5), some (vi p6), some (vi p7), none, none, none]) ⟨rfl, rfl, rfl, rfl, rfl, rfl, rfl, rfl, trivial⟩ ?_
        exact hk126 s0 w_s0
    · refine q_sub (ls' := [some (vr κ a), some (vr κ a1), some (vi p2), some (vi p3), some (vi p4), some (vi p5), some (vi p6), some (vi p7), none, none, none]) ⟨rfl, rfl, rfl, rfl, rfl, rfl, rfl, rfl, trivial⟩ ?_
      exact hk126 s0 w_s0
set_option maxHeartbeats 4000000 in
set_option maxRecDepth 10000 in
theorem l_X8_bestTurns_15 (κ : Kp) (a : Nat) (hA : At8 κ a) (a1 : Nat) (hA1 : At10 κ a1) (p2 : Int) (h_p2 : InR p2) (p3 : Int) (h_p3 : InR p3) (p4 : Int) (h_p4 : InR p4) (k198 : Int → Int → Mem → Res) (hk198 : ∀ (z5 : Int) (h_z5 : InR z5) (z6 : Int) (h_z6 : InR z6) (sz : Mem) (w_sz : WF sz), EO κ M_X8_bestTurns R_X8_bestTurns 198 [none, none, none, none, some (vi p4), some (vi z5), some (vi z6), none, none, none, none] [] sz (k198 z5 z6 sz)) : ∀ (n : Nat) (x5 : Int) (h_x5 : InR x5) (x6 : Int) (h_x6 : InR x6) (x7 : Int) (h_x7 : InR x7) (s0 : Mem) (w_s0 : WF s0), EO κ M_X8_bestTurns R_X8_bestTurns 15 [some (vr κ a), some (vr κ a1), some (vi p2), some (vi p3), some (vi p4), some (vi x5), some (vi x6), some (vi x7), none, none, none] [] s0 (f_X8_bestTurns_15 a a1 p2 p3 k198 n x5 x6 x7 s0) := by
  intro n
  induction n with
  | zero => exact fun _ _ _ _ _ _ _ _ => q_none
  | succ n ih =>
    intro x5 h_x5 x6 h_x6 x7 h_x7 s0 w_s0
    rw [f_X8_bestTurns_15]
    refine q_iload (x := x7) d_X8_bestTurns_15 rfl ?_
    refine q_iconst d_X8_bestTurns_17 ?_
    refine q_iload_n (x := p3) d_X8_bestTurns_18 rfl ?_
    refine q_ishl d_X8_bestTurns_19 ?_
    refine q_icmp_ge d_X8_bestTurns_20 h_x7 (inr_i32 _) (fun c9 => ?_) (fun c9 => ?_)
    · refine q_iload (x := x7) d_X8_bestTurns_23 rfl ?_
      refine q_jn (α := Int → Mem → Res) (fun j47 => ∀ (y10 : Int) (h_y10 : InR y10) (s11 : Mem) (w_s11 : WF s11), EO κ M_X8_bestTurns R_X8_bestTurns 47 [some (vr κ a), some (vr κ a1), some (vi p2), some (vi p3), some (vi p4), some (vi x5), some (vi x6), some (vi x7), none, none, none] [vi y10] s11 (j47 y10 s11)) ?_ (fun j47 hj47 => ?_)
      · intro y10 h_y10 s11 w_s11
        refine q_istore d_X8_bestTurns_47 rfl ?_
        refine q_iload (x := y10) d_X8_bestTurns_49 rfl ?_
        refine q_istore d_X8_bestTurns_51 rfl ?_
        refine q_jn (α := Mem → Res) (fun j126 => ∀ (s12 : Mem) (w_s12 : WF s12), EO κ M_X8_bestTurns R_X8_bestTurns 126 [some (vr κ a), some (vr κ a1), some (vi p2), some (vi p3), some (vi p4), some (vi x5), some (vi x6), some (vi x7), none, none, none] [] s12 (j126 s12)) ?_ (fun j126 hj126 => ?_)
        · intro s12 w_s12
          refine q_iload (x := x7) d_X8_bestTurns_126 rfl ?_
          refine q_iload_n (x := p3) d_X8_bestTurns_128 rfl ?_
          refine q_callI (R' := R_X8_mirrored) (runS (As := [vi x7, vi p3]) (rest := []) d_X8_bestTurns_129.1 cv_8_61 rfl ⟨rfl, rfl, by decide, by decide⟩ (Nat.le_of_ble_eq_true rfl) w_s12 rfl) d_X8_bestTurns_129.2 (c_X8_mirrored κ x7 h_x7 p3 h_p3 s12) rfl (fun r13 s14 h_r13 w_s14 => ?_)
          refine q_istore d_X8_bestTurns_132 rfl ?_
          refine q_aload_n d_X8_bestTurns_134 rfl ?_
          refine q_getR (n := 1) d_X8_bestTurns_135 hA.1 fi_8_11 rfl (Nat.le_of_ble_eq_true rfl) ?_
          refine q_iload_n (x := p3) d_X8_bestTurns_138 rfl ?_
          refine q_aaload (m := 11) d_X8_bestTurns_139 hA.2.1 (by decide) (by decide) rfl (fun g15 => ?_)
          refine q_iload_n (x := p2) d_X8_bestTurns_140 rfl ?_
          refine q_callZ (R' := R_X4_afloat) (runV (As := [vi p2]) (rest := []) d_X8_bestTurns_141.1 cv_8_43 rfl (hA.2.2.1 _ (toNat_lt g15)).1 rfl rfl ⟨rfl, rfl, by decide, by decide⟩ (Nat.le_of_ble_eq_true rfl) w_s14 rfl) d_X8_bestTurns_141.2 (c_X4_afloat κ ((a + 1) + 3 + 9 * p3.toNat) (hA.2.2.1 _ (toNat_lt g15)) p2 h_p2 s14) rfl (fun r16 s17 h_r16 w_s17 => ?_)
          refine q_jn (α := Int → Mem → Res) (fun j161 => ∀ (y18 : Int) (h_y18 : InR y18) (s19 : Mem) (w_s19 : WF s19), EO κ M_X8_bestTurns R_X8_bestTurns 161 [some (vr κ a), some (vr κ a1), some (vi p2), some (vi p3), some (vi p4), some (vi x5), some (vi x6), some (vi x7), none, some (vi r13), none] [vi y18] s19 (j161 y18 s19)) ?_ (fun j161 hj161 => ?_)
          · intro y18 h_y18 s19 w_s19
            refine q_istore d_X8_bestTurns_161 rfl ?_
            refine q_iload (x := y18) d_X8_bestTurns_163 rfl ?_
            refine q_iload (x := x5) d_X8_bestTurns_165 rfl ?_
            refine q_jn (α := Int → Int → Res) (fun j192 => ∀ (v20 : Int) (h_v20 : InR v20) (v21 : Int) (h_v21 : InR v21), EO κ M_X8_bestTurns R_X8_bestTurns 192 [some (vr κ a), some (vr κ a1), some (vi p2), some (vi p3), some (vi p4), some (vi v20), some (vi v21), some (vi x7), none, none, none] [] s19 (j192 v20 v21)) ?_ (fun j192 hj192 => ?_)
            · intro v20 h_v20 v21 h_v21
              refine q_iinc (x := x7) d_X8_bestTurns_192 rfl rfl ?_
              refine q_goto d_X8_bestTurns_195 ?_
              refine q_sub (ls' := [some (vr κ a), some (vr κ a1), some (vi p2), some (vi p3), some (vi p4), some (vi v20), some (vi v21), some (vi (wr (x7 + 1))), none, none, none]) ⟨rfl, rfl, rfl, rfl, rfl, rfl, rfl, rfl, trivial⟩ ?_
              exact ih v20 h_v20 v21 h_v21 (wr (x7 + 1)) (inr_wr _) s19 w_s19
            refine q_jn (α := Unit → Res) (fun j184 => EO κ M_X8_bestTurns R_X8_bestTurns 184 [some (vr κ a), some (vr κ a1), some (vi p2), some (vi p3), some (vi p4), none, none, some (vi x7), none, some (vi r13), some (vi y18)] [] s19 (j184 ())) ?_ (fun j184 hj184 => ?_)
            · refine q_iload (x := y18) d_X8_bestTurns_184 rfl ?_
              refine q_istore d_X8_bestTurns_186 rfl ?_
              refine q_iload (x := r13) d_X8_bestTurns_188 rfl ?_
              refine q_istore d_X8_bestTurns_190 rfl ?_
              refine q_sub (ls' := [some (vr κ a), some (vr κ a1), some (vi p2), some (vi p3), some (vi p4), some (vi y18), some (vi r13), some (vi x7), none, none, none]) ⟨rfl, rfl, rfl, rfl, rfl, rfl, rfl, rfl, trivial⟩ ?_
              exact hj192 y18 h_y18 r13 h_r13
            refine q_icmp_gt d_X8_bestTurns_167 h_y18 h_x5 (fun c22 => ?_) (fun c22 => ?_)
            · refine q_sub (ls' := [some (vr κ a), some (vr κ a1), some (vi p2), some (vi p3), some (vi p4), none, none, some (vi x7), none, some (vi r13), some (vi y18)]) ⟨rfl, rfl, rfl, rfl, rfl, rfl, rfl, rfl, trivial⟩ ?_
              exact hj184 
            · refine q_iload (x := y18) d_X8_bestTurns_170 rfl ?_
              refine q_iload (x := x5) d_X8_bestTurns_172 rfl ?_
              refine q_icmp_ne d_X8_bestTurns_174 h_y18 h_x5 (fun c23 => ?_) (fun c23 => ?_)
              · refine q_iload (x := r13) d_X8_bestTurns_177 rfl ?_
                refine q_iload (x := x6) d_X8_bestTurns_179 rfl ?_
                refine q_icmp_ge d_X8_bestTurns_181 h_r13 h_x6 (fun c24 => ?_) (fun c24 => ?_)
                · refine q_sub (ls' := [some (vr κ a), some (vr κ a1), some (vi p2), some (vi p3), some (vi p4), none, none, some (vi x7), none, some (vi r13), some (vi y18)]) ⟨rfl, rfl, rfl, rfl, rfl, rfl, rfl, rfl, trivial⟩ ?_
                  exact hj184 
                · refine q_sub (ls' := [some (vr κ a), some (vr κ a1), some (vi p2), some (vi p3), some (vi p4), some (vi x5), some (vi x6), some (vi x7), none, none, none]) ⟨rfl, rfl, rfl, rfl, rfl, rfl, rfl, rfl, trivial⟩ ?_
                  exact hj192 x5 h_x5 x6 h_x6
              · refine q_sub (ls' := [some (vr κ a), some (vr κ a1), some (vi p2), some (vi p3), some (vi p4), some (vi x5), some (vi x6), some (vi x7), none, none, none]) ⟨rfl, rfl, rfl, rfl, rfl, rfl, rfl, rfl, trivial⟩ ?_
                exact hj192 x5 h_x5 x6 h_x6
          refine q_if_eq d_X8_bestTurns_144 (inr_b h_r16) (fun c25 => ?_) (fun c25 => ?_)
          · refine q_iconst d_X8_bestTurns_160 ?_
            refine q_sub (ls' := [some (vr κ a), some (vr κ a1), some (vi p2), some (vi p3), some (vi p4), some (vi x5), some (vi x6), some (vi x7), none, some (vi r13), none]) ⟨rfl, rfl, rfl, rfl, rfl, rfl, rfl, rfl, rfl, trivial⟩ ?_
            exact hj161 (-1) (inr_d rfl) s17 w_s17
          · refine q_aload_n d_X8_bestTurns_147 rfl ?_
            refine q_getR (n := 1) d_X8_bestTurns_148 hA.1 fi_8_11 rfl (Nat.le_of_ble_eq_true rfl) ?_
            refine q_iload_n (x := p3) d_X8_bestTurns_151 rfl ?_
            refine q_aaload (m := 11) d_X8_bestTurns_152 hA.2.1 (by decide) (by decide) rfl (fun g26 => ?_)
            refine q_iload_n (x := p2) d_X8_bestTurns_153 rfl ?_
            refine q_callI (R' := R_X4_stuckIn) (runV (As := [vi p2]) (rest := []) d_X8_bestTurns_154.1 cv_8_65 rfl (hA.2.2.1 _ (toNat_lt g26)).1 rfl rfl ⟨rfl, rfl, by decide, by decide⟩ (Nat.le_of_ble_eq_true rfl) w_s17 rfl) d_X8_bestTurns_154.2 (c_X4_stuckIn κ ((a + 1) + 3 + 9 * p3.toNat) (hA.2.2.1 _ (toNat_lt g26)) p2 h_p2 s17) rfl (fun r27 s28 h_r27 w_s28 => ?_)
            refine q_goto d_X8_bestTurns_157 ?_
            refine q_sub (ls' := [some (vr κ a), some (vr κ a1), some (vi p2), some (vi p3), some (vi p4), some (vi x5), some (vi x6), some (vi x7), none, some (vi r13), none]) ⟨rfl, rfl, rfl, rfl, rfl, rfl, rfl, rfl, rfl, trivial⟩ ?_
            exact hj161 r27 h_r27 s28 w_s28
        refine q_sub (ls' := [some (vr κ a), some (vr κ a1), some (vi p2), some (vi p3), some (vi p4), some (vi x5), some (vi x6), some (vi x7), none, some (vi y10), none]) ⟨rfl, rfl, rfl, rfl, rfl, rfl, rfl, rfl, rfl, trivial⟩ ?_
        exact l_X8_bestTurns_53 κ a hA a1 hA1 p2 h_p2 p3 h_p3 p4 h_p4 x5 h_x5 x6 h_x6 x7 h_x7 j126 hj126 FU y10 h_y10 s11 w_s11
      refine q_if_ne d_X8_bestTurns_25 h_x7 (fun c41 => ?_) (fun c41 => ?_)
      · refine q_iconst d_X8_bestTurns_28 ?_
        refine q_goto d_X8_bestTurns_29 ?_
        refine q_sub (ls' := [some (vr κ a), some (vr κ a1), some (vi p2), some (vi p3), some (vi p4), some (vi x5), some (vi x6), some (vi x7), none, none, none]) ⟨rfl, rfl, rfl, rfl, rfl, rfl, rfl, rfl, trivial⟩ ?_
        exact hj47 0 (inr_b (Or.inl rfl)) s0 w_s0
      · refine q_iload_n (x := p3) d_X8_bestTurns_32 rfl ?_
        refine q_iconst d_X8_bestTurns_33 ?_
        refine q_isub d_X8_bestTurns_34 ?_
        refine q_iload (x := x7) d_X8_bestTurns_35 rfl ?_
        refine q_iload (x := x7) d_X8_bestTurns_37 rfl ?_
        refine q_ineg d_X8_bestTurns_39 ?_
        refine q_iand d_X8_bestTurns_40 ?_
        refine q_iconst d_X8_bestTurns_41 ?_
        refine q_isub d_X8_bestTurns_42 ?_
        refine q_callI (R' := R_J6_bitCount_0f7a4) (runS (As := [vi (wr ((iand x7 (wr (-x7))) - 1))]) (rest := [vi (wr (p3 - 1))]) d_X8_bestTurns_43.1 cv_8_51 rfl ⟨rfl, rfl, by decide, by decide⟩ (Nat.le_of_ble_eq_true rfl) w_s0 rfl) d_X8_bestTurns_43.2 (c_J6_bitCount_0f7a4 κ (wr ((iand x7 (wr (-x7))) - 1)) (inr_wr _) s0) rfl (fun r42 s43 h_r42 w_s43 => ?_)
        refine q_isub d_X8_bestTurns_46 ?_
        refine q_sub (ls' := [some (vr κ a), some (vr κ a1), some (vi p2), some (vi p3), some (vi p4), some (vi x5), some (vi x6), some (vi x7), none, none, none]) ⟨rfl, rfl, rfl, rfl, rfl, rfl, rfl, rfl, trivial⟩ ?_
        exact hj47 (wr ((wr (p3 - 1)) - r42)) (inr_wr _) s43 w_s43
    · refine q_sub (ls' := [none, none, none, none, some (vi p4), some (vi x5), some (vi x6), none, none, none, none]) ⟨rfl, rfl, rfl, trivial⟩ ?_
      exact hk198 x5 h_x5 x6 h_x6 s0 w_s0
set_option maxHeartbeats 4000000 in
set_option maxRecDepth 10000 in
theorem c_X8_bestTurns (κ : Kp) (a : Nat) (hA : At8 κ a) (a1 : Nat) (hA1 : At10 κ a1) (x2 : Int) (h_x2 : InR x2) (x3 : Int) (h_x3 : InR x3) (x4 : Int) (h_x4 : InR x4) (s0 : Mem) : ∀ r σ', f_X8_bestTurns a a1 x2 x3 x4 s0 = some (r, σ') → Ct κ M_X8_bestTurns R_X8_bestTurns [vr κ a, vr κ a1, vi x2, vi x3, vi x4] s0 r σ' := by
  intro r σ' ho
  refine Ct.of (by decide) (Nat.le_of_ble_eq_true rfl) (cat_ok rfl) (fun w_s0 => ?_) ⟨rfl, rfl⟩
  refine q_ent (ls' := [some (vr κ a), some (vr κ a1), some (vi x2), some (vi x3), some (vi x4), none, none, none, none, none, none]) (o := f_X8_bestTurns a a1 x2 x3 x4 s0) ⟨rfl, rfl, rfl, rfl, rfl, trivial⟩ ?_ ho
  unfold f_X8_bestTurns
  refine q_aload_n d_X8_bestTurns_0 rfl ?_
  refine q_aload_n d_X8_bestTurns_1 rfl ?_
  refine q_callR (R' := R_X8_begin) (runV (As := [vr κ a1]) (rest := []) d_X8_bestTurns_2.1 cv_8_35 rfl hA.1 rfl rfl ⟨rfl, rfl, by decide, by decide⟩ (Nat.le_of_ble_eq_true rfl) w_s0 rfl) d_X8_bestTurns_2.2 (c_X8_begin κ a hA a1 hA1 s0) rfl (fun r1 s2 h_r1 w_s2 => ?_)
  refine q_gd (fun g3 => ?_)
  refine q_pop d_X8_bestTurns_5 rfl ?_
  refine q_iconst d_X8_bestTurns_6 ?_
  refine q_istore d_X8_bestTurns_7 rfl ?_
  refine q_iconst d_X8_bestTurns_9 ?_
  refine q_istore d_X8_bestTurns_10 rfl ?_
  refine q_iconst d_X8_bestTurns_12 ?_
  refine q_istore d_X8_bestTurns_13 rfl ?_
  refine q_jn (α := Int → Int → Mem → Res) (fun j198 => ∀ (v4 : Int) (h_v4 : InR v4) (v5 : Int) (h_v5 : InR v5) (s6 : Mem) (w_s6 : WF s6), EO κ M_X8_bestTurns R_X8_bestTurns 198 [none, none, none, none, some (vi x4), some (vi v4), some (vi v5), none, none, none, none] [] s6 (j198 v4 v5 s6)) ?_ (fun j198 hj198 => ?_)
  · intro v4 h_v4 v5 h_v5 s6 w_s6
    refine q_iload (x := v4) d_X8_bestTurns_198 rfl ?_
    refine q_iconst d_X8_bestTurns_200 ?_
    refine q_icmp_ne d_X8_bestTurns_201 h_v4 (inr_d rfl) (fun c7 => ?_) (fun c7 => ?_)
    · refine q_iconst d_X8_bestTurns_204 ?_
      exact q_ireti d_X8_bestTurns_205 rfl (inr_d rfl) w_s6
    · refine q_iload (x := x4) d_X8_bestTurns_206 rfl ?_
      refine q_if_ne d_X8_bestTurns_208 h_x4 (fun c8 => ?_) (fun c8 => ?_)
      · refine q_iload (x := v4) d_X8_bestTurns_211 rfl ?_
        refine q_goto d_X8_bestTurns_213 ?_
        exact q_ireti d_X8_bestTurns_218 rfl h_v4 w_s6
      · refine q_iload (x := v5) d_X8_bestTurns_216 rfl ?_
        exact q_ireti d_X8_bestTurns_218 rfl h_v5 w_s6
  refine q_sub (ls' := [some (vr κ a), some (vr κ a1), some (vi x2), some (vi x3), some (vi x4), some (vi (-1)), some (vi (-1)), some (vi 0), none, none, none]) ⟨rfl, rfl, rfl, rfl, rfl, rfl, rfl, rfl, trivial⟩ ?_
  exact l_X8_bestTurns_15 κ a hA a1 hA1 x2 h_x2 x3 h_x3 x4 h_x4 j198 hj198 FU (-1) (inr_d rfl) (-1) (inr_d rfl) 0 (inr_b (Or.inl rfl)) s2 w_s2
abbrev R_X8_bestReach : Room := { frames := 5, cells := 0, slots := 0, locals := 128 }
noncomputable def f_X8_bestReach_68 (a1 : Nat) (p2 : Int) (a7 : Nat) (k88 : Mem → Res) : Nat → Int → Mem → Res
  | 0, _, _ => none
  | n + 1, x8, s0 =>
    if x8 < p2 then (bd (f_X10_pass a1 a7 0 s0) fun r21 s22 => f_X8_bestReach_68 a1 p2 a7 k88 n (wr (x8 + 1)) s22) else (k88 s0)
noncomputable def f_X8_bestReach_28 (a1 : Nat) (p6 : Int) (a7 : Nat) (k65 : Mem → Res) : Nat → Int → Mem → Res
  | 0, _, _ => none
  | n + 1, x8, s0 =>
    if x8 < s0 a7 8 then (bd (f_X4_afloat a7 x8 s0) fun r24 s25 => jn (fun (s26 : Mem) => f_X8_bestReach_28 a1 p6 a7 k65 n (wr (x8 + 1)) s26) fun j59 => if r24 = 0 then (j59 s25) else (bd (f_X10_bringTo a1 a7 x8 p6 0 s25) fun r28 s29 => j59 s29)) else (k65 s0)
noncomputable def f_X8_bestReach_11 (a : Nat) (a1 : Nat) (p2 : Int) (k145 : Int → Mem → Res) : Nat → Int → Int → Int → Int → Mem → Res
  | 0, _, _, _, _, _ => none
  | n + 1, x3, x4, x5, x6, s0 =>
    if x6 < 16 then (bd (f_X8_begin a a1 s0) fun r4 s5 => gd (isN r4.toNat) (jn (fun (s7 : Mem) => jn (fun (s8 : Mem) => bd (f_X4_howManyLost (r4.toNat) s8) fun r9 s10 => bd (f_X4_had (r4.toNat) s10) fun r11 s12 => jn (fun (v13 : Int) (v14 : Int) (v15 : Int) => f_X8_bestReach_11 a a1 p2 k145 n v13 v14 v15 (wr (x6 + 1)) s12) fun j139 => jn (fun (_ : Unit) => j139 x6 r9 r11) fun j128 => if x6 = 0 then (j128 ()) else (if r9 < x4 then (j128 ()) else (if r9 = x4 then (if x5 < r11 then (j128 ()) else (j139 x3 x4 x5)) else (j139 x3 x4 x5)))) fun j88 => f_X8_bestReach_68 a1 p2 (r4.toNat) j88 FU 0 s7) fun j65 => f_X8_bestReach_28 a1 x6 (r4.toNat) j65 FU 0 s5)) else (k145 x3 s0)
noncomputable def f_X8_bestReach (a : Nat) (a1 : Nat) (x2 : Int) (s0 : Mem) : Res :=
  jn (fun (v1 : Int) (s2 : Mem) => some (v1, s2)) fun j145 => f_X8_bestReach_11 a a1 x2 j145 FU 0 0 0 0 s0
set_option maxHeartbeats 4000000 in
set_option maxRecDepth 10000 in
theorem l_X8_bestReach_68 (κ : Kp) (a : Nat) (hA : At8 κ a) (a1 : Nat) (hA1 : At10 κ a1) (p2 : Int) (h_p2 : InR p2) (p3 : Int) (h_p3 : InR p3) (p4 : Int) (h_p4 : InR p4) (p5 : Int) (h_p5 : InR p5) (p6 : Int) (h_p6 : InR p6) (a7 : Nat) (hA7 : At4 κ a7) (k88 : Mem → Res) (hk88 : ∀ (sz : Mem) (w_sz : WF sz), EO κ M_X8_bestReach R_X8_bestReach 88 [some (vr κ a), some (vr κ a1), some (vi p2), some (vi p3), some (vi p4), some (vi p5), some (vi p6), some (vr κ a7), none, none] [] sz (k88 sz)) : ∀ (n : Nat) (x8 : Int) (h_x8 : InR x8) (s0 : Mem) (w_s0 : WF s0), EO κ M_X8_bestReach R_X8_bestReach 68 [some (vr κ a), some (vr κ a1), some (vi p2), some (vi p3), some (vi p4), some (vi p5), some (vi p6), some (vr κ a7), some (vi x8), none] [] s0 (f_X8_bestReach_68 a1 p2 a7 k88 n x8 s0) := by
  intro n
  induction n with
  | zero => exact fun _ _ _ _ => q_none
  | succ n ih =>
    intro x8 h_x8 s0 w_s0
    rw [f_X8_bestReach_68]
    refine q_iload (x := x8) d_X8_bestReach_68 rfl ?_
    refine q_iload_n (x := p2) d_X8_bestReach_70 rfl ?_
    refine q_icmp_ge d_X8_bestReach_71 h_x8 h_p2 (fun c20 => ?_) (fun c20 => ?_)
    · refine q_aload_n d_X8_bestReach_74 rfl ?_
      refine q_aload d_X8_bestReach_75 rfl ?_
      refine q_iconst d_X8_bestReach_77 ?_
      refine q_callI (R' := R_X10_pass) (runV (As := [vr κ a7, vi 0]) (rest := []) d_X8_bestReach_78.1 cv_8_39 rfl hA1.1 rfl rfl ⟨rfl, rfl, by decide, by decide⟩ (Nat.le_of_ble_eq_true rfl) w_s0 rfl) d_X8_bestReach_78.2 (c_X10_pass κ a1 hA1 a7 hA7 0 (inr_b (Or.inl rfl)) s0) rfl (fun r21 s22 h_r21 w_s22 => ?_)
      refine q_pop d_X8_bestReach_81 rfl ?_
      refine q_iinc (x := x8) d_X8_bestReach_82 rfl rfl ?_
      refine q_goto d_X8_bestReach_85 ?_
      refine q_sub (ls' := [some (vr κ a), some (vr κ a1), some (vi p2), some (vi p3), some (vi p4), some (vi p5), some (vi p6), some (vr κ a7), some (vi (wr (x8 + 1))), none]) ⟨rfl, rfl, rfl, rfl, rfl, rfl, rfl, rfl, rfl, trivial⟩ ?_
      exact ih (wr (x8 + 1)) (inr_wr _) s22 w_s22
    · refine q_sub (ls' := [some (vr κ a), some (vr κ a1), some (vi p2), some (vi p3), some (vi p4), some (vi p5), some (vi p6), some (vr κ a7), none, none]) ⟨rfl, rfl, rfl, rfl, rfl, rfl, rfl, rfl, trivial⟩ ?_
      exact hk88 s0 w_s0
set_option maxHeartbeats 4000000 in
set_option maxRecDepth 10000 in
theorem l_X8_bestReach_28 (κ : Kp) (a : Nat) (hA : At8 κ a) (a1 : Nat) (hA1 : At10 κ a1) (p2 : Int) (h_p2 : InR p2) (p3 : Int) (h_p3 : InR p3) (p4 : Int) (h_p4 : InR p4) (p5 : Int) (h_p5 : InR p5) (p6 : Int) (h_p6 : InR p6) (a7 : Nat) (hA7 : At4 κ a7) (k65 : Mem → Res) (hk65 : ∀ (sz : Mem) (w_sz : WF sz), EO κ M_X8_bestReach R_X8_bestReach 65 [some (vr κ a), some (vr κ a1), some (vi p2), some (vi p3), some (vi p4), some (vi p5), some (vi p6), some (vr κ a7), none, none] [] sz (k65 sz)) : ∀ (n : Nat) (x8 : Int) (h_x8 : InR x8) (s0 : Mem) (w_s0 : WF s0), EO κ M_X8_bestReach R_X8_bestReach 28 [some (vr κ a), some (vr κ a1), some (vi p2), some (vi p3), some (vi p4), some (vi p5), some (vi p6), some (vr κ a7), some (vi x8), none] [] s0 (f_X8_bestReach_28 a1 p6 a7 k65 n x8 s0) := by
  intro n
  induction n with
  | zero => exact fun _ _ _ _ => q_none
  | succ n ih =>
    intro x8 h_x8 s0 w_s0
    rw [f_X8_bestReach_28]
    refine q_iload (x := x8) d_X8_bestReach_28 rfl ?_
    refine q_aload d_X8_bestReach_30 rfl ?_
    refine q_getI (k := 8) (j := 8) d_X8_bestReach_32 hA7.1 fi_8_68 rfl rfl ?_
    refine q_icmp_ge d_X8_bestReach_35 h_x8 (w_s0 _ _) (fun c23 => ?_) (fun c23 => ?_)
    · refine q_aload d_X8_bestReach_38 rfl ?_
      refine q_iload (x := x8) d_X8_bestReach_40 rfl ?_
      refine q_callZ (R' := R_X4_afloat) (runV (As := [vi x8]) (rest := []) d_X8_bestReach_42.1 cv_8_43 rfl hA7.1 rfl rfl ⟨rfl, rfl, by decide, by decide⟩ (Nat.le_of_ble_eq_true rfl) w_s0 rfl) d_X8_bestReach_42.2 (c_X4_afloat κ a7 hA7 x8 h_x8 s0) rfl (fun r24 s25 h_r24 w_s25 => ?_)
      refine q_jn (α := Mem → Res) (fun j59 => ∀ (s26 : Mem) (w_s26 : WF s26), EO κ M_X8_bestReach R_X8_bestReach 59 [some (vr κ a), some (vr κ a1), some (vi p2), some (vi p3), some (vi p4), some (vi p5), some (vi p6), some (vr κ a7), some (vi x8), none] [] s26 (j59 s26)) ?_ (fun j59 hj59 => ?_)
      · intro s26 w_s26
        refine q_iinc (x := x8) d_X8_bestReach_59 rfl rfl ?_
        refine q_goto d_X8_bestReach_62 ?_
        refine q_sub (ls' := [some (vr κ a), some (vr κ a1), some (vi p2), some (vi p3), some (vi p4), some (vi p5), some (vi p6), some (vr κ a7), some (vi (wr (x8 + 1))), none]) ⟨rfl, rfl, rfl, rfl, rfl, rfl, rfl, rfl, rfl, trivial⟩ ?_
        exact ih (wr (x8 + 1)) (inr_wr _) s26 w_s26
      refine q_if_eq d_X8_bestReach_45 (inr_b h_r24) (fun c27 => ?_) (fun c27 => ?_)
      · refine q_sub (ls' := [some (vr κ a), some (vr κ a1), some (vi p2), some (vi p3), some (vi p4), some (vi p5), some (vi p6), some (vr κ a7), some (vi x8), none]) ⟨rfl, rfl, rfl, rfl, rfl, rfl, rfl, rfl, rfl, trivial⟩ ?_
        exact hj59 s25 w_s25
      · refine q_aload_n d_X8_bestReach_48 rfl ?_
        refine q_aload d_X8_bestReach_49 rfl ?_
        refine q_iload (x := x8) d_X8_bestReach_51 rfl ?_
        refine q_iload (x := p6) d_X8_bestReach_53 rfl ?_
        refine q_iconst d_X8_bestReach_55 ?_
        refine q_callV (R' := R_X10_bringTo) (runV (As := [vr κ a7, vi x8, vi p6, vi 0]) (rest := []) d_X8_bestReach_56.1 cv_8_72 rfl hA1.1 rfl rfl ⟨rfl, rfl, by decide, by decide⟩ (Nat.le_of_ble_eq_true rfl) w_s25 rfl) d_X8_bestReach_56.2 (c_X10_bringTo κ a1 hA1 a7 hA7 x8 h_x8 p6 h_p6 0 (inr_b (Or.inl rfl)) s25) rfl (fun r28 s29 w_s29 => ?_)
        refine q_sub (ls' := [some (vr κ a), some (vr κ a1), some (vi p2), some (vi p3), some (vi p4), some (vi p5), some (vi p6), some (vr κ a7), some (vi x8), none]) ⟨rfl, rfl, rfl, rfl, rfl, rfl, rfl, rfl, rfl, trivial⟩ ?_
        exact hj59 s29 w_s29
    · refine q_sub (ls' := [some (vr κ a), some (vr κ a1), some (vi p2), some (vi p3), some (vi p4), some (vi p5), some (vi p6), some (vr κ a7), none, none]) ⟨rfl, rfl, rfl, rfl, rfl, rfl, rfl, rfl, trivial⟩ ?_
      exact hk65 s0 w_s0
set_option maxHeartbeats 4000000 in
set_option maxRecDepth 10000 in
theorem l_X8_bestReach_11 (κ : Kp) (a : Nat) (hA : At8 κ a) (a1 : Nat) (hA1 : At10 κ a1) (p2 : Int) (h_p2 : InR p2) (k145 : Int → Mem → Res) (hk145 : ∀ (z3 : Int) (h_z3 : InR z3) (sz : Mem) (w_sz : WF sz), EO κ M_X8_bestReach R_X8_bestReach 145 [none, none, none, some (vi z3), none, none, none, none, none, none] [] sz (k145 z3 sz)) : ∀ (n : Nat) (x3 : Int) (h_x3 : InR x3) (x4 : Int) (h_x4 : InR x4) (x5 : Int) (h_x5 : InR x5) (x6 : Int) (h_x6 : InR x6) (s0 : Mem) (w_s0 : WF s0), EO κ M_X8_bestReach R_X8_bestReach 11 [some (vr κ a), some (vr κ a1), some (vi p2), some (vi x3), some (vi x4), some (vi x5), some (vi x6), none, none, none] [] s0 (f_X8_bestReach_11 a a1 p2 k145 n x3 x4 x5 x6 s0) := by
  intro n
  induction n with
  | zero => exact fun _ _ _ _ _ _ _ _ _ _ => q_none
  | succ n ih =>
    intro x3 h_x3 x4 h_x4 x5 h_x5 x6 h_x6 s0 w_s0
    rw [f_X8_bestReach_11]
    refine q_iload (x := x6) d_X8_bestReach_11 rfl ?_
    refine q_bipush d_X8_bestReach_13 rfl ?_
    refine q_icmp_ge d_X8_bestReach_15 h_x6 (inr_d rfl) (fun c3 => ?_) (fun c3 => ?_)
    · refine q_aload_n d_X8_bestReach_18 rfl ?_
      refine q_aload_n d_X8_bestReach_19 rfl ?_
      refine q_callR (R' := R_X8_begin) (runV (As := [vr κ a1]) (rest := []) d_X8_bestReach_20.1 cv_8_35 rfl hA.1 rfl rfl ⟨rfl, rfl, by decide, by decide⟩ (Nat.le_of_ble_eq_true rfl) w_s0 rfl) d_X8_bestReach_20.2 (c_X8_begin κ a hA a1 hA1 s0) rfl (fun r4 s5 h_r4 w_s5 => ?_)
      refine q_gd (fun g6 => ?_)
      refine q_astore d_X8_bestReach_23 rfl ?_
      refine q_iconst d_X8_bestReach_25 ?_
      refine q_istore d_X8_bestReach_26 rfl ?_
      refine q_jn (α := Mem → Res) (fun j65 => ∀ (s7 : Mem) (w_s7 : WF s7), EO κ M_X8_bestReach R_X8_bestReach 65 [some (vr κ a), some (vr κ a1), some (vi p2), some (vi x3), some (vi x4), some (vi x5), some (vi x6), some (vr κ (r4.toNat)), none, none] [] s7 (j65 s7)) ?_ (fun j65 hj65 => ?_)
      · intro s7 w_s7
        refine q_iconst d_X8_bestReach_65 ?_
        refine q_istore d_X8_bestReach_66 rfl ?_
        refine q_jn (α := Mem → Res) (fun j88 => ∀ (s8 : Mem) (w_s8 : WF s8), EO κ M_X8_bestReach R_X8_bestReach 88 [some (vr κ a), some (vr κ a1), some (vi p2), some (vi x3), some (vi x4), some (vi x5), some (vi x6), some (vr κ (r4.toNat)), none, none] [] s8 (j88 s8)) ?_ (fun j88 hj88 => ?_)
        · intro s8 w_s8
          refine q_aload d_X8_bestReach_88 rfl ?_
          refine q_callI (R' := R_X4_howManyLost) (runV (As := []) (rest := []) d_X8_bestReach_90.1 cv_8_76 rfl (at4_x hA.2.2.2 g6).1 rfl rfl ⟨rfl, rfl, by decide, by decide⟩ (Nat.le_of_ble_eq_true rfl) w_s8 rfl) d_X8_bestReach_90.2 (c_X4_howManyLost κ (r4.toNat) (at4_x hA.2.2.2 g6) s8) rfl (fun r9 s10 h_r9 w_s10 => ?_)
          refine q_istore d_X8_bestReach_93 rfl ?_
          refine q_aload d_X8_bestReach_95 rfl ?_
          refine q_callI (R' := R_X4_had) (runV (As := []) (rest := []) d_X8_bestReach_97.1 cv_8_47 rfl (at4_x hA.2.2.2 g6).1 rfl rfl ⟨rfl, rfl, by decide, by decide⟩ (Nat.le_of_ble_eq_true rfl) w_s10 rfl) d_X8_bestReach_97.2 (c_X4_had κ (r4.toNat) (at4_x hA.2.2.2 g6) s10) rfl (fun r11 s12 h_r11 w_s12 => ?_)
          refine q_istore d_X8_bestReach_100 rfl ?_
          refine q_iload (x := x6) d_X8_bestReach_102 rfl ?_
          refine q_jn (α := Int → Int → Int → Res) (fun j139 => ∀ (v13 : Int) (h_v13 : InR v13) (v14 : Int) (h_v14 : InR v14) (v15 : Int) (h_v15 : InR v15), EO κ M_X8_bestReach R_X8_bestReach 139 [some (vr κ a), some (vr κ a1), some (vi p2), some (vi v13), some (vi v14), some (vi v15), some (vi x6), none, none, none] [] s12 (j139 v13 v14 v15)) ?_ (fun j139 hj139 => ?_)
          · intro v13 h_v13 v14 h_v14 v15 h_v15
            refine q_iinc (x := x6) d_X8_bestReach_139 rfl rfl ?_
            refine q_goto d_X8_bestReach_142 ?_
            refine q_sub (ls' := [some (vr κ a), some (vr κ a1), some (vi p2), some (vi v13), some (vi v14), some (vi v15), some (vi (wr (x6 + 1))), none, none, none]) ⟨rfl, rfl, rfl, rfl, rfl, rfl, rfl, trivial⟩ ?_
            exact ih v13 h_v13 v14 h_v14 v15 h_v15 (wr (x6 + 1)) (inr_wr _) s12 w_s12
          refine q_jn (α := Unit → Res) (fun j128 => EO κ M_X8_bestReach R_X8_bestReach 128 [some (vr κ a), some (vr κ a1), some (vi p2), none, none, none, some (vi x6), none, some (vi r9), some (vi r11)] [] s12 (j128 ())) ?_ (fun j128 hj128 => ?_)
          · refine q_iload (x := x6) d_X8_bestReach_128 rfl ?_
            refine q_istore_n d_X8_bestReach_130 rfl ?_
            refine q_iload (x := r9) d_X8_bestReach_131 rfl ?_
            refine q_istore d_X8_bestReach_133 rfl ?_
            refine q_iload (x := r11) d_X8_bestReach_135 rfl ?_
            refine q_istore d_X8_bestReach_137 rfl ?_
            refine q_sub (ls' := [some (vr κ a), some (vr κ a1), some (vi p2), some (vi x6), some (vi r9), some (vi r11), some (vi x6), none, none, none]) ⟨rfl, rfl, rfl, rfl, rfl, rfl, rfl, trivial⟩ ?_
            exact hj139 x6 h_x6 r9 h_r9 r11 h_r11
          refine q_if_eq d_X8_bestReach_104 h_x6 (fun c16 => ?_) (fun c16 => ?_)
          · refine q_sub (ls' := [some (vr κ a), some (vr κ a1), some (vi p2), none, none, none, some (vi x6), none, some (vi r9), some (vi r11)]) ⟨rfl, rfl, rfl, rfl, rfl, rfl, trivial⟩ ?_
            exact hj128 
          · refine q_iload (x := r9) d_X8_bestReach_107 rfl ?_
            refine q_iload (x := x4) d_X8_bestReach_109 rfl ?_
            refine q_icmp_lt d_X8_bestReach_111 h_r9 h_x4 (fun c17 => ?_) (fun c17 => ?_)
            · refine q_sub (ls' := [some (vr κ a), some (vr κ a1), some (vi p2), none, none, none, some (vi x6), none, some (vi r9), some (vi r11)]) ⟨rfl, rfl, rfl, rfl, rfl, rfl, trivial⟩ ?_
              exact hj128 
            · refine q_iload (x := r9) d_X8_bestReach_114 rfl ?_
              refine q_iload (x := x4) d_X8_bestReach_116 rfl ?_
              refine q_icmp_ne d_X8_bestReach_118 h_r9 h_x4 (fun c18 => ?_) (fun c18 => ?_)
              · refine q_iload (x := r11) d_X8_bestReach_121 rfl ?_
                refine q_iload (x := x5) d_X8_bestReach_123 rfl ?_
                refine q_icmp_le d_X8_bestReach_125 h_r11 h_x5 (fun c19 => ?_) (fun c19 => ?_)
                · refine q_sub (ls' := [some (vr κ a), some (vr κ a1), some (vi p2), none, none, none, some (vi x6), none, some (vi r9), some (vi r11)]) ⟨rfl, rfl, rfl, rfl, rfl, rfl, trivial⟩ ?_
                  exact hj128 
                · refine q_sub (ls' := [some (vr κ a), some (vr κ a1), some (vi p2), some (vi x3), some (vi x4), some (vi x5), some (vi x6), none, none, none]) ⟨rfl, rfl, rfl, rfl, rfl, rfl, rfl, trivial⟩ ?_
                  exact hj139 x3 h_x3 x4 h_x4 x5 h_x5
              · refine q_sub (ls' := [some (vr κ a), some (vr κ a1), some (vi p2), some (vi x3), some (vi x4), some (vi x5), some (vi x6), none, none, none]) ⟨rfl, rfl, rfl, rfl, rfl, rfl, rfl, trivial⟩ ?_
                exact hj139 x3 h_x3 x4 h_x4 x5 h_x5
        refine q_sub (ls' := [some (vr κ a), some (vr κ a1), some (vi p2), some (vi x3), some (vi x4), some (vi x5), some (vi x6), some (vr κ (r4.toNat)), some (vi 0), none]) ⟨rfl, rfl, rfl, rfl, rfl, rfl, rfl, rfl, rfl, trivial⟩ ?_
        exact l_X8_bestReach_68 κ a hA a1 hA1 p2 h_p2 x3 h_x3 x4 h_x4 x5 h_x5 x6 h_x6 (r4.toNat) (at4_x hA.2.2.2 g6) j88 hj88 FU 0 (inr_b (Or.inl rfl)) s7 w_s7
      refine q_sub (ls' := [some (vr κ a), some (vr κ a1), some (vi p2), some (vi x3), some (vi x4), some (vi x5), some (vi x6), some (vr κ (r4.toNat)), some (vi 0), none]) ⟨rfl, rfl, rfl, rfl, rfl, rfl, rfl, rfl, rfl, trivial⟩ ?_
      exact l_X8_bestReach_28 κ a hA a1 hA1 p2 h_p2 x3 h_x3 x4 h_x4 x5 h_x5 x6 h_x6 (r4.toNat) (at4_x hA.2.2.2 g6) j65 hj65 FU 0 (inr_b (Or.inl rfl)) s5 w_s5
    · refine q_sub (ls' := [none, none, none, some (vi x3), none, none, none, none, none, none]) ⟨rfl, trivial⟩ ?_
      exact hk145 x3 h_x3 s0 w_s0
set_option maxHeartbeats 4000000 in
set_option maxRecDepth 10000 in
theorem c_X8_bestReach (κ : Kp) (a : Nat) (hA : At8 κ a) (a1 : Nat) (hA1 : At10 κ a1) (x2 : Int) (h_x2 : InR x2) (s0 : Mem) : ∀ r σ', f_X8_bestReach a a1 x2 s0 = some (r, σ') → Ct κ M_X8_bestReach R_X8_bestReach [vr κ a, vr κ a1, vi x2] s0 r σ' := by
  intro r σ' ho
  refine Ct.of (by decide) (Nat.le_of_ble_eq_true rfl) (cat_ok rfl) (fun w_s0 => ?_) ⟨rfl, rfl⟩
  refine q_ent (ls' := [some (vr κ a), some (vr κ a1), some (vi x2), none, none, none, none, none, none, none]) (o := f_X8_bestReach a a1 x2 s0) ⟨rfl, rfl, rfl, trivial⟩ ?_ ho
  unfold f_X8_bestReach
  refine q_iconst d_X8_bestReach_0 ?_
  refine q_istore_n d_X8_bestReach_1 rfl ?_
  refine q_iconst d_X8_bestReach_2 ?_
  refine q_istore d_X8_bestReach_3 rfl ?_
  refine q_iconst d_X8_bestReach_5 ?_
  refine q_istore d_X8_bestReach_6 rfl ?_
  refine q_iconst d_X8_bestReach_8 ?_
  refine q_istore d_X8_bestReach_9 rfl ?_
  refine q_jn (α := Int → Mem → Res) (fun j145 => ∀ (v1 : Int) (h_v1 : InR v1) (s2 : Mem) (w_s2 : WF s2), EO κ M_X8_bestReach R_X8_bestReach 145 [none, none, none, some (vi v1), none, none, none, none, none, none] [] s2 (j145 v1 s2)) ?_ (fun j145 hj145 => ?_)
  · intro v1 h_v1 s2 w_s2
    refine q_iload_n (x := v1) d_X8_bestReach_145 rfl ?_
    exact q_ireti d_X8_bestReach_146 rfl h_v1 w_s2
  refine q_sub (ls' := [some (vr κ a), some (vr κ a1), some (vi x2), some (vi 0), some (vi 0), some (vi 0), some (vi 0), none, none, none]) ⟨rfl, rfl, rfl, rfl, rfl, rfl, rfl, trivial⟩ ?_
  exact l_X8_bestReach_11 κ a hA a1 hA1 x2 h_x2 j145 hj145 FU 0 (inr_b (Or.inl rfl)) 0 (inr_b (Or.inl rfl)) 0 (inr_b (Or.inl rfl)) 0 (inr_b (Or.inl rfl)) s0 w_s0
abbrev R_X8_spread : Room := { frames := 1, cells := 0, slots := 0, locals := 30 }
noncomputable def f_X8_spread_23 (a : Nat) (k96 : Mem → Res) : Nat → Int → Mem → Res
  | 0, _, _ => none
  | n + 1, x1, s0 =>
    if 9 < x1 then (k96 s0) else (gd (kdX (s0 a 1).toNat = (1, 10)) (gd ((0 : Int) ≤ x1 ∧ x1 < 10) (gd ((4 : Int) ≠ 0) (gd (kdX (s0 a 2).toNat = (1, 10)) (gd ((0 : Int) ≤ mmx 0 (wr (x1 - 1)) ∧ mmx 0 (wr (x1 - 1)) < 10) (gd ((0 : Int) ≤ mmx 0 (wr (x1 - 1)) ∧ mmx 0 (wr (x1 - 1)) < 10) (lm (mup s0 ((s0 a 2).toNat) (mmx 0 (wr (x1 - 1))) (wr ((s0 ((s0 a 2).toNat) (mmx 0 (wr (x1 - 1)))) + (wr (Int.tdiv (s0 ((s0 a 1).toNat) x1) 4))))) fun s14 => gd (kdX (s14 a 2).toNat = (1, 10)) (gd ((0 : Int) ≤ mmn 9 (wr (x1 + 1)) ∧ mmn 9 (wr (x1 + 1)) < 10) (gd ((0 : Int) ≤ mmn 9 (wr (x1 + 1)) ∧ mmn 9 (wr (x1 + 1)) < 10) (lm (mup s14 ((s14 a 2).toNat) (mmn 9 (wr (x1 + 1))) (wr ((s14 ((s14 a 2).toNat) (mmn 9 (wr (x1 + 1)))) + (wr (Int.tdiv (s0 ((s0 a 1).toNat) x1) 4))))) fun s18 => gd (kdX (s18 a 2).toNat = (1, 10)) (gd ((0 : Int) ≤ x1 ∧ x1 < 10) (gd (kdX (s18 a 1).toNat = (1, 10)) (gd ((0 : Int) ≤ x1 ∧ x1 < 10) (gd ((0 : Int) ≤ x1 ∧ x1 < 10) (lm (mup s18 ((s18 a 2).toNat) x1 (wr ((s18 ((s18 a 2).toNat) x1) + (wr ((s18 ((s18 a 1).toNat) x1) - (wr (2 * (wr (Int.tdiv (s0 ((s0 a 1).toNat) x1) 4))))))))) fun s24 => f_X8_spread_23 a k96 n (wr (x1 + 1)) s24)))))))))))))))
noncomputable def f_X8_spread_2 (a : Nat) (k21 : Mem → Res) : Nat → Int → Mem → Res
  | 0, _, _ => none
  | n + 1, x1, s0 =>
    if 9 < x1 then (k21 s0) else (gd (kdX (s0 a 2).toNat = (1, 10)) (gd ((0 : Int) ≤ x1 ∧ x1 < 10) (lm (mup s0 ((s0 a 2).toNat) x1 0) fun s28 => f_X8_spread_2 a k21 n (wr (x1 + 1)) s28)))
noncomputable def f_X8_spread (a : Nat) (s0 : Mem) : Res :=
  jn (fun (s1 : Mem) => jn (fun (s2 : Mem) => gd (kdX (s2 a 1).toNat = (1, 10)) (gd (kdX (s2 a 2).toNat = (1, 10)) (lm (mup s2 a 1 (((s2 a 2).toNat : Nat) : Int)) fun s5 => lm (mup s5 a 2 (((s2 a 1).toNat : Nat) : Int)) fun s6 => some (0, s6)))) fun j96 => f_X8_spread_23 a j96 FU 0 s1) fun j21 => f_X8_spread_2 a j21 FU 0 s0
set_option maxHeartbeats 4000000 in
set_option maxRecDepth 10000 in
theorem l_X8_spread_23 (κ : Kp) (a : Nat) (hA : At8 κ a) (k96 : Mem → Res) (hk96 : ∀ (sz : Mem) (w_sz : WF sz), EO κ M_X8_spread R_X8_spread 96 [some (vr κ a), none, none] [] sz (k96 sz)) : ∀ (n : Nat) (x1 : Int) (h_x1 : InR x1) (s0 : Mem) (w_s0 : WF s0), EO κ M_X8_spread R_X8_spread 23 [some (vr κ a), some (vi x1), none] [] s0 (f_X8_spread_23 a k96 n x1 s0) := by
  intro n
  induction n with
  | zero => exact fun _ _ _ _ => q_none
  | succ n ih =>
    intro x1 h_x1 s0 w_s0
    rw [f_X8_spread_23]
    refine q_iload_n (x := x1) d_X8_spread_23 rfl ?_
    refine q_bipush d_X8_spread_24 rfl ?_
    refine q_icmp_gt d_X8_spread_26 h_x1 (inr_d rfl) (fun c7 => ?_) (fun c7 => ?_)
    · refine q_sub (ls' := [some (vr κ a), none, none]) ⟨rfl, trivial⟩ ?_
      exact hk96 s0 w_s0
    · refine q_aload_n d_X8_spread_29 rfl ?_
      refine q_getY (k := 1) (j := 1) d_X8_spread_30 hA.1 fi_8_17 rfl rfl ?_
      refine q_gd (fun g8 => ?_)
      refine q_iload_n (x := x1) d_X8_spread_33 rfl ?_
      refine q_iaload (m := 10) d_X8_spread_34 (kd_x hA.2.2.2 g8) (by decide) rfl (fun g9 => ?_)
      refine q_iconst d_X8_spread_35 ?_
      refine q_idiv d_X8_spread_36 (w_s0 _ _) (inr_d rfl) (fun g10 => ?_)
      refine q_istore_n d_X8_spread_37 rfl ?_
      refine q_aload_n d_X8_spread_38 rfl ?_
      refine q_getY (k := 2) (j := 2) d_X8_spread_39 hA.1 fi_8_21 rfl rfl ?_
      refine q_gd (fun g11 => ?_)
      refine q_iconst d_X8_spread_42 ?_
      refine q_iload_n (x := x1) d_X8_spread_43 rfl ?_
      refine q_iconst d_X8_spread_44 ?_
      refine q_isub d_X8_spread_45 ?_
      refine q_mmax d_X8_spread_46 cv_8_83 mw_max ⟨by decide, Nat.le_of_ble_eq_true rfl⟩ (inr_b (Or.inl rfl)) (inr_wr _) ?_
      refine q_dup2 d_X8_spread_49 rfl rfl ?_
      refine q_iaload (m := 10) d_X8_spread_50 (kd_x hA.2.2.2 g11) (by decide) rfl (fun g12 => ?_)
      refine q_iload_n (x := wr (Int.tdiv (s0 ((s0 a 1).toNat) x1) 4)) d_X8_spread_51 rfl ?_
      refine q_iadd d_X8_spread_52 ?_
      refine q_iastore (m := 10) d_X8_spread_53 (kd_x hA.2.2.2 g11) (by decide) rfl (inr_wr _) w_s0 (fun g13 s14 w_s14 => ?_)
      refine q_aload_n d_X8_spread_54 rfl ?_
      refine q_getY (k := 2) (j := 2) d_X8_spread_55 hA.1 fi_8_21 rfl rfl ?_
      refine q_gd (fun g15 => ?_)
      refine q_bipush d_X8_spread_58 rfl ?_
      refine q_iload_n (x := x1) d_X8_spread_60 rfl ?_
      refine q_iconst d_X8_spread_61 ?_
      refine q_iadd d_X8_spread_62 ?_
      refine q_mmin d_X8_spread_63 cv_8_88 mw_min ⟨by decide, Nat.le_of_ble_eq_true rfl⟩ (inr_d rfl) (inr_wr _) ?_
      refine q_dup2 d_X8_spread_66 rfl rfl ?_
      refine q_iaload (m := 10) d_X8_spread_67 (kd_x hA.2.2.2 g15) (by decide) rfl (fun g16 => ?_)
      refine q_iload_n (x := wr (Int.tdiv (s0 ((s0 a 1).toNat) x1) 4)) d_X8_spread_68 rfl ?_
      refine q_iadd d_X8_spread_69 ?_
      refine q_iastore (m := 10) d_X8_spread_70 (kd_x hA.2.2.2 g15) (by decide) rfl (inr_wr _) w_s14 (fun g17 s18 w_s18 => ?_)
      refine q_aload_n d_X8_spread_71 rfl ?_
      refine q_getY (k := 2) (j := 2) d_X8_spread_72 hA.1 fi_8_21 rfl rfl ?_
      refine q_gd (fun g19 => ?_)
      refine q_iload_n (x := x1) d_X8_spread_75 rfl ?_
      refine q_dup2 d_X8_spread_76 rfl rfl ?_
      refine q_iaload (m := 10) d_X8_spread_77 (kd_x hA.2.2.2 g19) (by decide) rfl (fun g20 => ?_)
      refine q_aload_n d_X8_spread_78 rfl ?_
      refine q_getY (k := 1) (j := 1) d_X8_spread_79 hA.1 fi_8_17 rfl rfl ?_
      refine q_gd (fun g21 => ?_)
      refine q_iload_n (x := x1) d_X8_spread_82 rfl ?_
      refine q_iaload (m := 10) d_X8_spread_83 (kd_x hA.2.2.2 g21) (by decide) rfl (fun g22 => ?_)
      refine q_iconst d_X8_spread_84 ?_
      refine q_iload_n (x := wr (Int.tdiv (s0 ((s0 a 1).toNat) x1) 4)) d_X8_spread_85 rfl ?_
      refine q_imul d_X8_spread_86 ?_
      refine q_isub d_X8_spread_87 ?_
      refine q_iadd d_X8_spread_88 ?_
      refine q_iastore (m := 10) d_X8_spread_89 (kd_x hA.2.2.2 g19) (by decide) rfl (inr_wr _) w_s18 (fun g23 s24 w_s24 => ?_)
      refine q_iinc (x := x1) d_X8_spread_90 rfl rfl ?_
      refine q_goto d_X8_spread_93 ?_
      refine q_sub (ls' := [some (vr κ a), some (vi (wr (x1 + 1))), none]) ⟨rfl, rfl, trivial⟩ ?_
      exact ih (wr (x1 + 1)) (inr_wr _) s24 w_s24
set_option maxHeartbeats 4000000 in
set_option maxRecDepth 10000 in
theorem l_X8_spread_2 (κ : Kp) (a : Nat) (hA : At8 κ a) (k21 : Mem → Res) (hk21 : ∀ (sz : Mem) (w_sz : WF sz), EO κ M_X8_spread R_X8_spread 21 [some (vr κ a), none, none] [] sz (k21 sz)) : ∀ (n : Nat) (x1 : Int) (h_x1 : InR x1) (s0 : Mem) (w_s0 : WF s0), EO κ M_X8_spread R_X8_spread 2 [some (vr κ a), some (vi x1), none] [] s0 (f_X8_spread_2 a k21 n x1 s0) := by
  intro n
  induction n with
  | zero => exact fun _ _ _ _ => q_none
  | succ n ih =>
    intro x1 h_x1 s0 w_s0
    rw [f_X8_spread_2]
    refine q_iload_n (x := x1) d_X8_spread_2 rfl ?_
    refine q_bipush d_X8_spread_3 rfl ?_
    refine q_icmp_gt d_X8_spread_5 h_x1 (inr_d rfl) (fun c25 => ?_) (fun c25 => ?_)
    · refine q_sub (ls' := [some (vr κ a), none, none]) ⟨rfl, trivial⟩ ?_
      exact hk21 s0 w_s0
    · refine q_aload_n d_X8_spread_8 rfl ?_
      refine q_getY (k := 2) (j := 2) d_X8_spread_9 hA.1 fi_8_21 rfl rfl ?_
      refine q_gd (fun g26 => ?_)
      refine q_iload_n (x := x1) d_X8_spread_12 rfl ?_
      refine q_iconst d_X8_spread_13 ?_
      refine q_iastore (m := 10) d_X8_spread_14 (kd_x hA.2.2.2 g26) (by decide) rfl (inr_b (Or.inl rfl)) w_s0 (fun g27 s28 w_s28 => ?_)
      refine q_iinc (x := x1) d_X8_spread_15 rfl rfl ?_
      refine q_goto d_X8_spread_18 ?_
      refine q_sub (ls' := [some (vr κ a), some (vi (wr (x1 + 1))), none]) ⟨rfl, rfl, trivial⟩ ?_
      exact ih (wr (x1 + 1)) (inr_wr _) s28 w_s28
set_option maxHeartbeats 4000000 in
set_option maxRecDepth 10000 in
theorem c_X8_spread (κ : Kp) (a : Nat) (hA : At8 κ a) (s0 : Mem) : ∀ r σ', f_X8_spread a s0 = some (r, σ') → Ct κ M_X8_spread R_X8_spread [vr κ a] s0 r σ' := by
  intro r σ' ho
  refine Ct.of (by decide) (Nat.le_of_ble_eq_true rfl) (cat_ok rfl) (fun w_s0 => ?_) ⟨rfl, rfl⟩
  refine q_ent (ls' := [some (vr κ a), none, none]) (o := f_X8_spread a s0) ⟨rfl, trivial⟩ ?_ ho
  unfold f_X8_spread
  refine q_iconst d_X8_spread_0 ?_
  refine q_istore_n d_X8_spread_1 rfl ?_
  refine q_jn (α := Mem → Res) (fun j21 => ∀ (s1 : Mem) (w_s1 : WF s1), EO κ M_X8_spread R_X8_spread 21 [some (vr κ a), none, none] [] s1 (j21 s1)) ?_ (fun j21 hj21 => ?_)
  · intro s1 w_s1
    refine q_iconst d_X8_spread_21 ?_
    refine q_istore_n d_X8_spread_22 rfl ?_
    refine q_jn (α := Mem → Res) (fun j96 => ∀ (s2 : Mem) (w_s2 : WF s2), EO κ M_X8_spread R_X8_spread 96 [some (vr κ a), none, none] [] s2 (j96 s2)) ?_ (fun j96 hj96 => ?_)
    · intro s2 w_s2
      refine q_aload_n d_X8_spread_96 rfl ?_
      refine q_getY (k := 1) (j := 1) d_X8_spread_97 hA.1 fi_8_17 rfl rfl ?_
      refine q_gd (fun g3 => ?_)
      refine q_astore_n d_X8_spread_100 rfl ?_
      refine q_aload_n d_X8_spread_101 rfl ?_
      refine q_aload_n d_X8_spread_102 rfl ?_
      refine q_getY (k := 2) (j := 2) d_X8_spread_103 hA.1 fi_8_21 rfl rfl ?_
      refine q_gd (fun g4 => ?_)
      refine q_putY (k := 1) (j := 1) d_X8_spread_106 hA.1 fp_8_17 rfl rfl (kdX_le g4) w_s2 (fun s5 w_s5 => ?_)
      refine q_aload_n d_X8_spread_109 rfl ?_
      refine q_aload_n d_X8_spread_110 rfl ?_
      refine q_putY (k := 2) (j := 2) d_X8_spread_111 hA.1 fp_8_21 rfl rfl (kdX_le g3) w_s5 (fun s6 w_s6 => ?_)
      exact q_vret d_X8_spread_114 rfl w_s6
    refine q_sub (ls' := [some (vr κ a), some (vi 0), none]) ⟨rfl, rfl, trivial⟩ ?_
    exact l_X8_spread_23 κ a hA j96 hj96 FU 0 (inr_b (Or.inl rfl)) s1 w_s1
  refine q_sub (ls' := [some (vr κ a), some (vi 0), none]) ⟨rfl, rfl, trivial⟩ ?_
  exact l_X8_spread_2 κ a hA j21 hj21 FU 0 (inr_b (Or.inl rfl)) s0 w_s0
abbrev R_X8_likely : Room := { frames := 2, cells := 0, slots := 0, locals := 52 }
noncomputable def f_X8_likely_60 (a : Nat) (k85 : Int → Res) (s0 : Mem) : Nat → Int → Int → Res
  | 0, _, _ => none
  | n + 1, x4, x5 =>
    if 9 < x5 then (k85 x4) else (gd (kdX (s0 a 1).toNat = (1, 10)) (gd ((0 : Int) ≤ x5 ∧ x5 < 10) (f_X8_likely_60 a k85 s0 n (wr (x4 + (s0 ((s0 a 1).toNat) x5))) (wr (x5 + 1)))))
noncomputable def f_X8_likely_38 (a : Nat) (p3 : Int) (k54 : Mem → Res) : Nat → Int → Mem → Res
  | 0, _, _ => none
  | n + 1, x4, s0 =>
    if x4 < p3 then (bd (f_X8_spread a s0) fun r8 s9 => f_X8_likely_38 a p3 k54 n (wr (x4 + 1)) s9) else (k54 s0)
noncomputable def f_X8_likely_3 (a : Nat) (p1 : Int) (k35 : Mem → Res) : Nat → Int → Mem → Res
  | 0, _, _ => none
  | n + 1, x4, s0 =>
    if 9 < x4 then (k35 s0) else (gd (kdX (s0 a 1).toNat = (1, 10)) (jn (fun (y12 : Int) => gd ((0 : Int) ≤ x4 ∧ x4 < 10) (lm (mup s0 ((s0 a 1).toNat) x4 y12) fun s14 => f_X8_likely_3 a p1 k35 n (wr (x4 + 1)) s14)) fun j28 => if x4 = p1 then (j28 1000000) else (j28 0)))
noncomputable def f_X8_likely (a : Nat) (x1 : Int) (x2 : Int) (x3 : Int) (s0 : Mem) : Res :=
  jn (fun (s1 : Mem) => jn (fun (s2 : Mem) => jn (fun (v3 : Int) => some (v3, s2)) fun j85 => f_X8_likely_60 a j85 s2 FU 0 x2) fun j54 => f_X8_likely_38 a x3 j54 FU 0 s1) fun j35 => f_X8_likely_3 a x1 j35 FU 0 s0
set_option maxHeartbeats 4000000 in
set_option maxRecDepth 10000 in
theorem l_X8_likely_60 (κ : Kp) (a : Nat) (hA : At8 κ a) (k85 : Int → Res) (s0 : Mem) (w_s0 : WF s0) (hk85 : ∀ (z4 : Int) (h_z4 : InR z4), EO κ M_X8_likely R_X8_likely 85 [none, none, none, none, some (vi z4), none] [] s0 (k85 z4)) : ∀ (n : Nat) (x4 : Int) (h_x4 : InR x4) (x5 : Int) (h_x5 : InR x5), EO κ M_X8_likely R_X8_likely 60 [some (vr κ a), none, none, none, some (vi x4), some (vi x5)] [] s0 (f_X8_likely_60 a k85 s0 n x4 x5) := by
  intro n
  induction n with
  | zero => exact fun _ _ _ _ => q_none
  | succ n ih =>
    intro x4 h_x4 x5 h_x5
    rw [f_X8_likely_60]
    refine q_iload (x := x5) d_X8_likely_60 rfl ?_
    refine q_bipush d_X8_likely_62 rfl ?_
    refine q_icmp_gt d_X8_likely_64 h_x5 (inr_d rfl) (fun c4 => ?_) (fun c4 => ?_)
    · refine q_sub (ls' := [none, none, none, none, some (vi x4), none]) ⟨rfl, trivial⟩ ?_
      exact hk85 x4 h_x4
    · refine q_iload (x := x4) d_X8_likely_67 rfl ?_
      refine q_aload_n d_X8_likely_69 rfl ?_
      refine q_getY (k := 1) (j := 1) d_X8_likely_70 hA.1 fi_8_17 rfl rfl ?_
      refine q_gd (fun g5 => ?_)
      refine q_iload (x := x5) d_X8_likely_73 rfl ?_
      refine q_iaload (m := 10) d_X8_likely_75 (kd_x hA.2.2.2 g5) (by decide) rfl (fun g6 => ?_)
      refine q_iadd d_X8_likely_76 ?_
      refine q_istore d_X8_likely_77 rfl ?_
      refine q_iinc (x := x5) d_X8_likely_79 rfl rfl ?_
      refine q_goto d_X8_likely_82 ?_
      refine q_sub (ls' := [some (vr κ a), none, none, none, some (vi (wr (x4 + (s0 ((s0 a 1).toNat) x5)))), some (vi (wr (x5 + 1)))]) ⟨rfl, rfl, rfl, trivial⟩ ?_
      exact ih (wr (x4 + (s0 ((s0 a 1).toNat) x5))) (inr_wr _) (wr (x5 + 1)) (inr_wr _)
set_option maxHeartbeats 4000000 in
set_option maxRecDepth 10000 in
theorem l_X8_likely_38 (κ : Kp) (a : Nat) (hA : At8 κ a) (p2 : Int) (h_p2 : InR p2) (p3 : Int) (h_p3 : InR p3) (k54 : Mem → Res) (hk54 : ∀ (sz : Mem) (w_sz : WF sz), EO κ M_X8_likely R_X8_likely 54 [some (vr κ a), none, some (vi p2), none, none, none] [] sz (k54 sz)) : ∀ (n : Nat) (x4 : Int) (h_x4 : InR x4) (s0 : Mem) (w_s0 : WF s0), EO κ M_X8_likely R_X8_likely 38 [some (vr κ a), none, some (vi p2), some (vi p3), some (vi x4), none] [] s0 (f_X8_likely_38 a p3 k54 n x4 s0) := by
  intro n
  induction n with
  | zero => exact fun _ _ _ _ => q_none
  | succ n ih =>
    intro x4 h_x4 s0 w_s0
    rw [f_X8_likely_38]
    refine q_iload (x := x4) d_X8_likely_38 rfl ?_
    refine q_iload_n (x := p3) d_X8_likely_40 rfl ?_
    refine q_icmp_ge d_X8_likely_41 h_x4 h_p3 (fun c7 => ?_) (fun c7 => ?_)
    · refine q_aload_n d_X8_likely_44 rfl ?_
      refine q_callV (R' := R_X8_spread) (runV (As := []) (rest := []) d_X8_likely_45.1 cv_8_80 rfl hA.1 rfl rfl ⟨rfl, rfl, by decide, by decide⟩ (Nat.le_of_ble_eq_true rfl) w_s0 rfl) d_X8_likely_45.2 (c_X8_spread κ a hA s0) rfl (fun r8 s9 w_s9 => ?_)
      refine q_iinc (x := x4) d_X8_likely_48 rfl rfl ?_
      refine q_goto d_X8_likely_51 ?_
      refine q_sub (ls' := [some (vr κ a), none, some (vi p2), some (vi p3), some (vi (wr (x4 + 1))), none]) ⟨rfl, rfl, rfl, rfl, trivial⟩ ?_
      exact ih (wr (x4 + 1)) (inr_wr _) s9 w_s9
    · refine q_sub (ls' := [some (vr κ a), none, some (vi p2), none, none, none]) ⟨rfl, rfl, trivial⟩ ?_
      exact hk54 s0 w_s0
set_option maxHeartbeats 4000000 in
set_option maxRecDepth 10000 in
theorem l_X8_likely_3 (κ : Kp) (a : Nat) (hA : At8 κ a) (p1 : Int) (h_p1 : InR p1) (p2 : Int) (h_p2 : InR p2) (p3 : Int) (h_p3 : InR p3) (k35 : Mem → Res) (hk35 : ∀ (sz : Mem) (w_sz : WF sz), EO κ M_X8_likely R_X8_likely 35 [some (vr κ a), none, some (vi p2), some (vi p3), none, none] [] sz (k35 sz)) : ∀ (n : Nat) (x4 : Int) (h_x4 : InR x4) (s0 : Mem) (w_s0 : WF s0), EO κ M_X8_likely R_X8_likely 3 [some (vr κ a), some (vi p1), some (vi p2), some (vi p3), some (vi x4), none] [] s0 (f_X8_likely_3 a p1 k35 n x4 s0) := by
  intro n
  induction n with
  | zero => exact fun _ _ _ _ => q_none
  | succ n ih =>
    intro x4 h_x4 s0 w_s0
    rw [f_X8_likely_3]
    refine q_iload (x := x4) d_X8_likely_3 rfl ?_
    refine q_bipush d_X8_likely_5 rfl ?_
    refine q_icmp_gt d_X8_likely_7 h_x4 (inr_d rfl) (fun c10 => ?_) (fun c10 => ?_)
    · refine q_sub (ls' := [some (vr κ a), none, some (vi p2), some (vi p3), none, none]) ⟨rfl, rfl, rfl, trivial⟩ ?_
      exact hk35 s0 w_s0
    · refine q_aload_n d_X8_likely_10 rfl ?_
      refine q_getY (k := 1) (j := 1) d_X8_likely_11 hA.1 fi_8_17 rfl rfl ?_
      refine q_gd (fun g11 => ?_)
      refine q_iload (x := x4) d_X8_likely_14 rfl ?_
      refine q_iload (x := x4) d_X8_likely_16 rfl ?_
      refine q_iload_n (x := p1) d_X8_likely_18 rfl ?_
      refine q_jn (α := Int → Res) (fun j28 => ∀ (y12 : Int) (h_y12 : InR y12), EO κ M_X8_likely R_X8_likely 28 [some (vr κ a), some (vi p1), some (vi p2), some (vi p3), some (vi x4), none] [vi y12, vi x4, vr κ ((s0 a 1).toNat)] s0 (j28 y12)) ?_ (fun j28 hj28 => ?_)
      · intro y12 h_y12
        refine q_iastore (m := 10) d_X8_likely_28 (kd_x hA.2.2.2 g11) (by decide) rfl h_y12 w_s0 (fun g13 s14 w_s14 => ?_)
        refine q_iinc (x := x4) d_X8_likely_29 rfl rfl ?_
        refine q_goto d_X8_likely_32 ?_
        refine q_sub (ls' := [some (vr κ a), some (vi p1), some (vi p2), some (vi p3), some (vi (wr (x4 + 1))), none]) ⟨rfl, rfl, rfl, rfl, rfl, trivial⟩ ?_
        exact ih (wr (x4 + 1)) (inr_wr _) s14 w_s14
      refine q_icmp_ne d_X8_likely_19 h_x4 h_p1 (fun c15 => ?_) (fun c15 => ?_)
      · refine q_ldc (n := 1000000) d_X8_likely_22 ck_8_79 rfl ?_
        refine q_goto d_X8_likely_24 ?_
        refine q_sub (ls' := [some (vr κ a), some (vi p1), some (vi p2), some (vi p3), some (vi x4), none]) ⟨rfl, rfl, rfl, rfl, rfl, trivial⟩ ?_
        exact hj28 1000000 (inr_d rfl)
      · refine q_iconst d_X8_likely_27 ?_
        refine q_sub (ls' := [some (vr κ a), some (vi p1), some (vi p2), some (vi p3), some (vi x4), none]) ⟨rfl, rfl, rfl, rfl, rfl, trivial⟩ ?_
        exact hj28 0 (inr_b (Or.inl rfl))
set_option maxHeartbeats 4000000 in
set_option maxRecDepth 10000 in
theorem c_X8_likely (κ : Kp) (a : Nat) (hA : At8 κ a) (x1 : Int) (h_x1 : InR x1) (x2 : Int) (h_x2 : InR x2) (x3 : Int) (h_x3 : InR x3) (s0 : Mem) : ∀ r σ', f_X8_likely a x1 x2 x3 s0 = some (r, σ') → Ct κ M_X8_likely R_X8_likely [vr κ a, vi x1, vi x2, vi x3] s0 r σ' := by
  intro r σ' ho
  refine Ct.of (by decide) (Nat.le_of_ble_eq_true rfl) (cat_ok rfl) (fun w_s0 => ?_) ⟨rfl, rfl⟩
  refine q_ent (ls' := [some (vr κ a), some (vi x1), some (vi x2), some (vi x3), none, none]) (o := f_X8_likely a x1 x2 x3 s0) ⟨rfl, rfl, rfl, rfl, trivial⟩ ?_ ho
  unfold f_X8_likely
  refine q_iconst d_X8_likely_0 ?_
  refine q_istore d_X8_likely_1 rfl ?_
  refine q_jn (α := Mem → Res) (fun j35 => ∀ (s1 : Mem) (w_s1 : WF s1), EO κ M_X8_likely R_X8_likely 35 [some (vr κ a), none, some (vi x2), some (vi x3), none, none] [] s1 (j35 s1)) ?_ (fun j35 hj35 => ?_)
  · intro s1 w_s1
    refine q_iconst d_X8_likely_35 ?_
    refine q_istore d_X8_likely_36 rfl ?_
    refine q_jn (α := Mem → Res) (fun j54 => ∀ (s2 : Mem) (w_s2 : WF s2), EO κ M_X8_likely R_X8_likely 54 [some (vr κ a), none, some (vi x2), none, none, none] [] s2 (j54 s2)) ?_ (fun j54 hj54 => ?_)
    · intro s2 w_s2
      refine q_iconst d_X8_likely_54 ?_
      refine q_istore d_X8_likely_55 rfl ?_
      refine q_iload_n (x := x2) d_X8_likely_57 rfl ?_
      refine q_istore d_X8_likely_58 rfl ?_
      refine q_jn (α := Int → Res) (fun j85 => ∀ (v3 : Int) (h_v3 : InR v3), EO κ M_X8_likely R_X8_likely 85 [none, none, none, none, some (vi v3), none] [] s2 (j85 v3)) ?_ (fun j85 hj85 => ?_)
      · intro v3 h_v3
        refine q_iload (x := v3) d_X8_likely_85 rfl ?_
        exact q_ireti d_X8_likely_87 rfl h_v3 w_s2
      refine q_sub (ls' := [some (vr κ a), none, none, none, some (vi 0), some (vi x2)]) ⟨rfl, rfl, rfl, trivial⟩ ?_
      exact l_X8_likely_60 κ a hA j85 s2 w_s2 hj85 FU 0 (inr_b (Or.inl rfl)) x2 h_x2
    refine q_sub (ls' := [some (vr κ a), none, some (vi x2), some (vi x3), some (vi 0), none]) ⟨rfl, rfl, rfl, rfl, trivial⟩ ?_
    exact l_X8_likely_38 κ a hA x2 h_x2 x3 h_x3 j54 hj54 FU 0 (inr_b (Or.inl rfl)) s1 w_s1
  refine q_sub (ls' := [some (vr κ a), some (vi x1), some (vi x2), some (vi x3), some (vi 0), none]) ⟨rfl, rfl, rfl, rfl, rfl, trivial⟩ ?_
  exact l_X8_likely_3 κ a hA x1 h_x1 x2 h_x2 x3 h_x3 j35 hj35 FU 0 (inr_b (Or.inl rfl)) s0 w_s0
abbrev R_X9_become : Room := { frames := 2, cells := 0, slots := 0, locals := 81 }
noncomputable def f_X9_become (a : Nat) (a1 : Nat) (s0 : Mem) : Res :=
  bd (f_X11_copy (a1 + 1) 12 (a + 1) 12 s0) fun r1 s2 => bd (f_X11_copy (a1 + 2) 12 (a + 2) 12 s2) fun r3 s4 => bd (f_X11_copy (a1 + 3) 12 (a + 3) 12 s4) fun r5 s6 => lm (mup s6 a 3 (s6 a1 3)) fun s7 => some (0, s7)
set_option maxHeartbeats 4000000 in
set_option maxRecDepth 10000 in
theorem c_X9_become (κ : Kp) (a : Nat) (hA : At9 κ a) (a1 : Nat) (hA1 : At9 κ a1) (s0 : Mem) : ∀ r σ', f_X9_become a a1 s0 = some (r, σ') → Ct κ M_X9_become R_X9_become [vr κ a, vr κ a1] s0 r σ' := by
  intro r σ' ho
  refine Ct.of (by decide) (Nat.le_of_ble_eq_true rfl) (cat_ok rfl) (fun w_s0 => ?_) ⟨rfl, rfl⟩
  refine q_ent (ls' := [some (vr κ a), some (vr κ a1)]) (o := f_X9_become a a1 s0) ⟨rfl, rfl, trivial⟩ ?_ ho
  unfold f_X9_become
  refine q_aload_n d_X9_become_0 rfl ?_
  refine q_getR (n := 1) d_X9_become_1 hA1.1 fi_9_9 rfl (Nat.le_of_ble_eq_true rfl) ?_
  refine q_aload_n d_X9_become_4 rfl ?_
  refine q_getR (n := 1) d_X9_become_5 hA.1 fi_9_9 rfl (Nat.le_of_ble_eq_true rfl) ?_
  refine q_callV (R' := R_X11_copy) (runN (As := [vr κ (a1 + 1), vr κ (a + 1)]) (rest := []) d_X9_become_8.1 cv_9_21 rfl ⟨rfl, rfl, by decide, by decide⟩ (Nat.le_of_ble_eq_true rfl) w_s0 rfl) d_X9_become_8.2 (c_X11_copy κ (a1 + 1) 12 hA1.2.1 (by decide) (a + 1) 12 hA.2.1 (by decide) s0) rfl (fun r1 s2 w_s2 => ?_)
  refine q_aload_n d_X9_become_11 rfl ?_
  refine q_getR (n := 2) d_X9_become_12 hA1.1 fi_9_15 rfl (Nat.le_of_ble_eq_true rfl) ?_
  refine q_aload_n d_X9_become_15 rfl ?_
  refine q_getR (n := 2) d_X9_become_16 hA.1 fi_9_15 rfl (Nat.le_of_ble_eq_true rfl) ?_
  refine q_callV (R' := R_X11_copy) (runN (As := [vr κ (a1 + 2), vr κ (a + 2)]) (rest := []) d_X9_become_19.1 cv_9_21 rfl ⟨rfl, rfl, by decide, by decide⟩ (Nat.le_of_ble_eq_true rfl) w_s2 rfl) d_X9_become_19.2 (c_X11_copy κ (a1 + 2) 12 hA1.2.2.1 (by decide) (a + 2) 12 hA.2.2.1 (by decide) s2) rfl (fun r3 s4 w_s4 => ?_)
  refine q_aload_n d_X9_become_22 rfl ?_
  refine q_getR (n := 3) d_X9_become_23 hA1.1 fi_9_18 rfl (Nat.le_of_ble_eq_true rfl) ?_
  refine q_aload_n d_X9_become_26 rfl ?_
  refine q_getR (n := 3) d_X9_become_27 hA.1 fi_9_18 rfl (Nat.le_of_ble_eq_true rfl) ?_
  refine q_callV (R' := R_X11_copy) (runN (As := [vr κ (a1 + 3), vr κ (a + 3)]) (rest := []) d_X9_become_30.1 cv_9_21 rfl ⟨rfl, rfl, by decide, by decide⟩ (Nat.le_of_ble_eq_true rfl) w_s4 rfl) d_X9_become_30.2 (c_X11_copy κ (a1 + 3) 12 hA1.2.2.2 (by decide) (a + 3) 12 hA.2.2.2 (by decide) s4) rfl (fun r5 s6 w_s6 => ?_)
  refine q_aload_n d_X9_become_33 rfl ?_
  refine q_aload_n d_X9_become_34 rfl ?_
  refine q_getI (k := 3) (j := 3) d_X9_become_35 hA1.1 fi_9_25 rfl rfl ?_
  refine q_putI (k := 3) (j := 3) d_X9_become_38 hA.1 fp_9_25 rfl rfl (w_s6 _ _) w_s6 (fun s7 w_s7 => ?_)
  exact q_vret d_X9_become_41 rfl w_s7
abbrev R_X9_talk : Room := { frames := 2, cells := 0, slots := 0, locals := 43 }
noncomputable def f_X9_talk (a : Nat) (x1 : Int) (x2 : Int) (s0 : Mem) : Res :=
  bd (f_X9_isTold a x1 s0) fun r1 s2 => if r1 = 0 then (some (0, s2)) else (bd (f_X9_isTold a x2 s2) fun r4 s5 => if r4 = 0 then (some (0, s5)) else (gd ((0 : Int) ≤ x1 ∧ x1 < 12) (if iand (ishr (s5 (a + 2) x1) x2) 1 = 1 then (some (1, s5)) else (some (0, s5)))))
set_option maxHeartbeats 4000000 in
set_option maxRecDepth 10000 in
theorem c_X9_talk (κ : Kp) (a : Nat) (hA : At9 κ a) (x1 : Int) (h_x1 : InR x1) (x2 : Int) (h_x2 : InR x2) (s0 : Mem) : ∀ r σ', f_X9_talk a x1 x2 s0 = some (r, σ') → Ct κ M_X9_talk R_X9_talk [vr κ a, vi x1, vi x2] s0 r σ' := by
  intro r σ' ho
  refine Ct.of (by decide) (Nat.le_of_ble_eq_true rfl) (cat_ok rfl) (fun w_s0 => ?_) ⟨rfl, rfl⟩
  refine q_ent (ls' := [some (vr κ a), some (vi x1), some (vi x2)]) (o := f_X9_talk a x1 x2 s0) ⟨rfl, rfl, rfl, trivial⟩ ?_ ho
  unfold f_X9_talk
  refine q_aload_n d_X9_talk_0 rfl ?_
  refine q_iload_n (x := x1) d_X9_talk_1 rfl ?_
  refine q_callZ (R' := R_X9_isTold) (runV (As := [vi x1]) (rest := []) d_X9_talk_2.1 cv_9_33 rfl hA.1 rfl rfl ⟨rfl, rfl, by decide, by decide⟩ (Nat.le_of_ble_eq_true rfl) w_s0 rfl) d_X9_talk_2.2 (c_X9_isTold κ a hA x1 h_x1 s0) rfl (fun r1 s2 h_r1 w_s2 => ?_)
  refine q_if_eq d_X9_talk_5 (inr_b h_r1) (fun c3 => ?_) (fun c3 => ?_)
  · refine q_iconst d_X9_talk_34 ?_
    exact q_iretz d_X9_talk_35 rfl (Or.inl rfl) w_s2
  · refine q_aload_n d_X9_talk_8 rfl ?_
    refine q_iload_n (x := x2) d_X9_talk_9 rfl ?_
    refine q_callZ (R' := R_X9_isTold) (runV (As := [vi x2]) (rest := []) d_X9_talk_10.1 cv_9_33 rfl hA.1 rfl rfl ⟨rfl, rfl, by decide, by decide⟩ (Nat.le_of_ble_eq_true rfl) w_s2 rfl) d_X9_talk_10.2 (c_X9_isTold κ a hA x2 h_x2 s2) rfl (fun r4 s5 h_r4 w_s5 => ?_)
    refine q_if_eq d_X9_talk_13 (inr_b h_r4) (fun c6 => ?_) (fun c6 => ?_)
    · refine q_iconst d_X9_talk_34 ?_
      exact q_iretz d_X9_talk_35 rfl (Or.inl rfl) w_s5
    · refine q_aload_n d_X9_talk_16 rfl ?_
      refine q_getR (n := 2) d_X9_talk_17 hA.1 fi_9_15 rfl (Nat.le_of_ble_eq_true rfl) ?_
      refine q_iload_n (x := x1) d_X9_talk_20 rfl ?_
      refine q_iaload (m := 12) d_X9_talk_21 hA.2.2.1 (by decide) rfl (fun g7 => ?_)
      refine q_iload_n (x := x2) d_X9_talk_22 rfl ?_
      refine q_ishr d_X9_talk_23 ?_
      refine q_iconst d_X9_talk_24 ?_
      refine q_iand d_X9_talk_25 ?_
      refine q_iconst d_X9_talk_26 ?_
      refine q_icmp_ne d_X9_talk_27 (inr_i32 _) (inr_b (Or.inr rfl)) (fun c8 => ?_) (fun c8 => ?_)
      · refine q_iconst d_X9_talk_30 ?_
        refine q_goto d_X9_talk_31 ?_
        exact q_iretz d_X9_talk_35 rfl (Or.inr rfl) w_s5
      · refine q_iconst d_X9_talk_34 ?_
        exact q_iretz d_X9_talk_35 rfl (Or.inl rfl) w_s5
abbrev R_X9_allTold : Room := { frames := 2, cells := 0, slots := 0, locals := 43 }
noncomputable def f_X9_allTold_4 (a : Nat) (k30 : Int → Mem → Res) : Nat → Int → Int → Mem → Res
  | 0, _, _, _ => none
  | n + 1, x1, x2, s0 =>
    if x2 < 12 then (bd (f_X9_isTold a x2 s0) fun r4 s5 => jn (fun (v6 : Int) => f_X9_allTold_4 a k30 n v6 (wr (x2 + 1)) s5) fun j24 => if r4 = 0 then (j24 x1) else (j24 (ior x1 (ishl 1 x2)))) else (k30 x1 s0)
noncomputable def f_X9_allTold (a : Nat) (s0 : Mem) : Res :=
  jn (fun (v1 : Int) (s2 : Mem) => some (v1, s2)) fun j30 => f_X9_allTold_4 a j30 FU 0 0 s0
set_option maxHeartbeats 4000000 in
set_option maxRecDepth 10000 in
theorem l_X9_allTold_4 (κ : Kp) (a : Nat) (hA : At9 κ a) (k30 : Int → Mem → Res) (hk30 : ∀ (z1 : Int) (h_z1 : InR z1) (sz : Mem) (w_sz : WF sz), EO κ M_X9_allTold R_X9_allTold 30 [none, some (vi z1), none] [] sz (k30 z1 sz)) : ∀ (n : Nat) (x1 : Int) (h_x1 : InR x1) (x2 : Int) (h_x2 : InR x2) (s0 : Mem) (w_s0 : WF s0), EO κ M_X9_allTold R_X9_allTold 4 [some (vr κ a), some (vi x1), some (vi x2)] [] s0 (f_X9_allTold_4 a k30 n x1 x2 s0) := by
  intro n
  induction n with
  | zero => exact fun _ _ _ _ _ _ => q_none
  | succ n ih =>
    intro x1 h_x1 x2 h_x2 s0 w_s0
    rw [f_X9_allTold_4]
    refine q_iload_n (x := x2) d_X9_allTold_4 rfl ?_
    refine q_bipush d_X9_allTold_5 rfl ?_
    refine q_icmp_ge d_X9_allTold_7 h_x2 (inr_d rfl) (fun c3 => ?_) (fun c3 => ?_)
    · refine q_aload_n d_X9_allTold_10 rfl ?_
      refine q_iload_n (x := x2) d_X9_allTold_11 rfl ?_
      refine q_callZ (R' := R_X9_isTold) (runV (As := [vi x2]) (rest := []) d_X9_allTold_12.1 cv_9_33 rfl hA.1 rfl rfl ⟨rfl, rfl, by decide, by decide⟩ (Nat.le_of_ble_eq_true rfl) w_s0 rfl) d_X9_allTold_12.2 (c_X9_isTold κ a hA x2 h_x2 s0) rfl (fun r4 s5 h_r4 w_s5 => ?_)
      refine q_jn (α := Int → Res) (fun j24 => ∀ (v6 : Int) (h_v6 : InR v6), EO κ M_X9_allTold R_X9_allTold 24 [some (vr κ a), some (vi v6), some (vi x2)] [] s5 (j24 v6)) ?_ (fun j24 hj24 => ?_)
      · intro v6 h_v6
        refine q_iinc (x := x2) d_X9_allTold_24 rfl rfl ?_
        refine q_goto d_X9_allTold_27 ?_
        refine q_sub (ls' := [some (vr κ a), some (vi v6), some (vi (wr (x2 + 1)))]) ⟨rfl, rfl, rfl, trivial⟩ ?_
        exact ih v6 h_v6 (wr (x2 + 1)) (inr_wr _) s5 w_s5
      refine q_if_eq d_X9_allTold_15 (inr_b h_r4) (fun c7 => ?_) (fun c7 => ?_)
      · refine q_sub (ls' := [some (vr κ a), some (vi x1), some (vi x2)]) ⟨rfl, rfl, rfl, trivial⟩ ?_
        exact hj24 x1 h_x1
      · refine q_iload_n (x := x1) d_X9_allTold_18 rfl ?_
        refine q_iconst d_X9_allTold_19 ?_
        refine q_iload_n (x := x2) d_X9_allTold_20 rfl ?_
        refine q_ishl d_X9_allTold_21 ?_
        refine q_ior d_X9_allTold_22 ?_
        refine q_istore_n d_X9_allTold_23 rfl ?_
        refine q_sub (ls' := [some (vr κ a), some (vi (ior x1 (ishl 1 x2))), some (vi x2)]) ⟨rfl, rfl, rfl, trivial⟩ ?_
        exact hj24 (ior x1 (ishl 1 x2)) (inr_i32 _)
    · refine q_sub (ls' := [none, some (vi x1), none]) ⟨rfl, trivial⟩ ?_
      exact hk30 x1 h_x1 s0 w_s0
set_option maxHeartbeats 4000000 in
set_option maxRecDepth 10000 in
theorem c_X9_allTold (κ : Kp) (a : Nat) (hA : At9 κ a) (s0 : Mem) : ∀ r σ', f_X9_allTold a s0 = some (r, σ') → Ct κ M_X9_allTold R_X9_allTold [vr κ a] s0 r σ' := by
  intro r σ' ho
  refine Ct.of (by decide) (Nat.le_of_ble_eq_true rfl) (cat_ok rfl) (fun w_s0 => ?_) ⟨rfl, rfl⟩
  refine q_ent (ls' := [some (vr κ a), none, none]) (o := f_X9_allTold a s0) ⟨rfl, trivial⟩ ?_ ho
  unfold f_X9_allTold
  refine q_iconst d_X9_allTold_0 ?_
  refine q_istore_n d_X9_allTold_1 rfl ?_
  refine q_iconst d_X9_allTold_2 ?_
  refine q_istore_n d_X9_allTold_3 rfl ?_
  refine q_jn (α := Int → Mem → Res) (fun j30 => ∀ (v1 : Int) (h_v1 : InR v1) (s2 : Mem) (w_s2 : WF s2), EO κ M_X9_allTold R_X9_allTold 30 [none, some (vi v1), none] [] s2 (j30 v1 s2)) ?_ (fun j30 hj30 => ?_)
  · intro v1 h_v1 s2 w_s2
    refine q_iload_n (x := v1) d_X9_allTold_30 rfl ?_
    exact q_ireti d_X9_allTold_31 rfl h_v1 w_s2
  refine q_sub (ls' := [some (vr κ a), some (vi 0), some (vi 0)]) ⟨rfl, rfl, rfl, trivial⟩ ?_
  exact l_X9_allTold_4 κ a hA j30 hj30 FU 0 (inr_b (Or.inl rfl)) 0 (inr_b (Or.inl rfl)) s0 w_s0
abbrev R_X9_strawOf : Room := { frames := 0, cells := 0, slots := 0, locals := 0 }
noncomputable def f_X9_strawOf_4 (a : Nat) (p1 : Int) (k34 : Int → Res) (s0 : Mem) : Nat → Int → Int → Res
  | 0, _, _ => none
  | n + 1, x2, x3 =>
    if x3 < 12 then (jn (fun (v3 : Int) => f_X9_strawOf_4 a p1 k34 s0 n v3 (wr (x3 + 1))) fun j28 => if iand (ishr p1 x3) 1 = 1 then (gd ((0 : Int) ≤ x3 ∧ x3 < 12) (j28 (wr (x2 + (s0 (a + 1) x3))))) else (j28 x2)) else (k34 x2)
noncomputable def f_X9_strawOf (a : Nat) (x1 : Int) (s0 : Mem) : Res :=
  jn (fun (v1 : Int) => some (v1, s0)) fun j34 => f_X9_strawOf_4 a x1 j34 s0 FU 0 0
set_option maxHeartbeats 4000000 in
set_option maxRecDepth 10000 in
theorem l_X9_strawOf_4 (κ : Kp) (a : Nat) (hA : At9 κ a) (p1 : Int) (h_p1 : InR p1) (k34 : Int → Res) (s0 : Mem) (w_s0 : WF s0) (hk34 : ∀ (z2 : Int) (h_z2 : InR z2), EO κ M_X9_strawOf R_X9_strawOf 34 [none, none, some (vi z2), none] [] s0 (k34 z2)) : ∀ (n : Nat) (x2 : Int) (h_x2 : InR x2) (x3 : Int) (h_x3 : InR x3), EO κ M_X9_strawOf R_X9_strawOf 4 [some (vr κ a), some (vi p1), some (vi x2), some (vi x3)] [] s0 (f_X9_strawOf_4 a p1 k34 s0 n x2 x3) := by
  intro n
  induction n with
  | zero => exact fun _ _ _ _ => q_none
  | succ n ih =>
    intro x2 h_x2 x3 h_x3
    rw [f_X9_strawOf_4]
    refine q_iload_n (x := x3) d_X9_strawOf_4 rfl ?_
    refine q_bipush d_X9_strawOf_5 rfl ?_
    refine q_icmp_ge d_X9_strawOf_7 h_x3 (inr_d rfl) (fun c2 => ?_) (fun c2 => ?_)
    · refine q_iload_n (x := p1) d_X9_strawOf_10 rfl ?_
      refine q_iload_n (x := x3) d_X9_strawOf_11 rfl ?_
      refine q_ishr d_X9_strawOf_12 ?_
      refine q_iconst d_X9_strawOf_13 ?_
      refine q_iand d_X9_strawOf_14 ?_
      refine q_iconst d_X9_strawOf_15 ?_
      refine q_jn (α := Int → Res) (fun j28 => ∀ (v3 : Int) (h_v3 : InR v3), EO κ M_X9_strawOf R_X9_strawOf 28 [some (vr κ a), some (vi p1), some (vi v3), some (vi x3)] [] s0 (j28 v3)) ?_ (fun j28 hj28 => ?_)
      · intro v3 h_v3
        refine q_iinc (x := x3) d_X9_strawOf_28 rfl rfl ?_
        refine q_goto d_X9_strawOf_31 ?_
        refine q_sub (ls' := [some (vr κ a), some (vi p1), some (vi v3), some (vi (wr (x3 + 1)))]) ⟨rfl, rfl, rfl, rfl, trivial⟩ ?_
        exact ih v3 h_v3 (wr (x3 + 1)) (inr_wr _)
      refine q_icmp_ne d_X9_strawOf_16 (inr_i32 _) (inr_b (Or.inr rfl)) (fun c4 => ?_) (fun c4 => ?_)
      · refine q_iload_n (x := x2) d_X9_strawOf_19 rfl ?_
        refine q_aload_n d_X9_strawOf_20 rfl ?_
        refine q_getR (n := 1) d_X9_strawOf_21 hA.1 fi_9_9 rfl (Nat.le_of_ble_eq_true rfl) ?_
        refine q_iload_n (x := x3) d_X9_strawOf_24 rfl ?_
        refine q_iaload (m := 12) d_X9_strawOf_25 hA.2.1 (by decide) rfl (fun g5 => ?_)
        refine q_iadd d_X9_strawOf_26 ?_
        refine q_istore_n d_X9_strawOf_27 rfl ?_
        refine q_sub (ls' := [some (vr κ a), some (vi p1), some (vi (wr (x2 + (s0 (a + 1) x3)))), some (vi x3)]) ⟨rfl, rfl, rfl, rfl, trivial⟩ ?_
        exact hj28 (wr (x2 + (s0 (a + 1) x3))) (inr_wr _)
      · refine q_sub (ls' := [some (vr κ a), some (vi p1), some (vi x2), some (vi x3)]) ⟨rfl, rfl, rfl, rfl, trivial⟩ ?_
        exact hj28 x2 h_x2
    · refine q_sub (ls' := [none, none, some (vi x2), none]) ⟨rfl, trivial⟩ ?_
      exact hk34 x2 h_x2
set_option maxHeartbeats 4000000 in
set_option maxRecDepth 10000 in
theorem c_X9_strawOf (κ : Kp) (a : Nat) (hA : At9 κ a) (x1 : Int) (h_x1 : InR x1) (s0 : Mem) : ∀ r σ', f_X9_strawOf a x1 s0 = some (r, σ') → Ct κ M_X9_strawOf R_X9_strawOf [vr κ a, vi x1] s0 r σ' := by
  intro r σ' ho
  refine Ct.of (by decide) (Nat.le_of_ble_eq_true rfl) (cat_ok rfl) (fun w_s0 => ?_) ⟨rfl, rfl⟩
  refine q_ent (ls' := [some (vr κ a), some (vi x1), none, none]) (o := f_X9_strawOf a x1 s0) ⟨rfl, rfl, trivial⟩ ?_ ho
  unfold f_X9_strawOf
  refine q_iconst d_X9_strawOf_0 ?_
  refine q_istore_n d_X9_strawOf_1 rfl ?_
  refine q_iconst d_X9_strawOf_2 ?_
  refine q_istore_n d_X9_strawOf_3 rfl ?_
  refine q_jn (α := Int → Res) (fun j34 => ∀ (v1 : Int) (h_v1 : InR v1), EO κ M_X9_strawOf R_X9_strawOf 34 [none, none, some (vi v1), none] [] s0 (j34 v1)) ?_ (fun j34 hj34 => ?_)
  · intro v1 h_v1
    refine q_iload_n (x := v1) d_X9_strawOf_34 rfl ?_
    exact q_ireti d_X9_strawOf_35 rfl h_v1 w_s0
  refine q_sub (ls' := [some (vr κ a), some (vi x1), some (vi 0), some (vi 0)]) ⟨rfl, rfl, rfl, rfl, trivial⟩ ?_
  exact l_X9_strawOf_4 κ a hA x1 h_x1 j34 s0 w_s0 hj34 FU 0 (inr_b (Or.inl rfl)) 0 (inr_b (Or.inl rfl))
abbrev R_X9_isQuiet : Room := { frames := 0, cells := 0, slots := 0, locals := 0 }
noncomputable def f_X9_isQuiet_2 (a : Nat) (p1 : Int) (k36 : Unit → Res) (s0 : Mem) : Nat → Int → Res
  | 0, _ => none
  | n + 1, x2 =>
    if x2 < 12 then (jn (fun (_ : Unit) => f_X9_isQuiet_2 a p1 k36 s0 n (wr (x2 + 1))) fun j30 => if iand (ishr p1 x2) 1 = 1 then (gd ((0 : Int) ≤ x2 ∧ x2 < 12) (if iand (s0 (a + 2) x2) p1 = 0 then (j30 ()) else (some (0, s0)))) else (j30 ())) else (k36 ())
noncomputable def f_X9_isQuiet (a : Nat) (x1 : Int) (s0 : Mem) : Res :=
  jn (fun (_ : Unit) => some (1, s0)) fun j36 => f_X9_isQuiet_2 a x1 j36 s0 FU 0
set_option maxHeartbeats 4000000 in
set_option maxRecDepth 10000 in
theorem l_X9_isQuiet_2 (κ : Kp) (a : Nat) (hA : At9 κ a) (p1 : Int) (h_p1 : InR p1) (k36 : Unit → Res) (s0 : Mem) (w_s0 : WF s0) (hk36 : EO κ M_X9_isQuiet R_X9_isQuiet 36 [none, none, none] [] s0 (k36 ())) : ∀ (n : Nat) (x2 : Int) (h_x2 : InR x2), EO κ M_X9_isQuiet R_X9_isQuiet 2 [some (vr κ a), some (vi p1), some (vi x2)] [] s0 (f_X9_isQuiet_2 a p1 k36 s0 n x2) := by
  intro n
  induction n with
  | zero => exact fun _ _ => q_none
  | succ n ih =>
    intro x2 h_x2
    rw [f_X9_isQuiet_2]
    refine q_iload_n (x := x2) d_X9_isQuiet_2 rfl ?_
    refine q_bipush d_X9_isQuiet_3 rfl ?_
    refine q_icmp_ge d_X9_isQuiet_5 h_x2 (inr_d rfl) (fun c1 => ?_) (fun c1 => ?_)
    · refine q_iload_n (x := p1) d_X9_isQuiet_8 rfl ?_
      refine q_iload_n (x := x2) d_X9_isQuiet_9 rfl ?_
      refine q_ishr d_X9_isQuiet_10 ?_
      refine q_iconst d_X9_isQuiet_11 ?_
      refine q_iand d_X9_isQuiet_12 ?_
      refine q_iconst d_X9_isQuiet_13 ?_
      refine q_jn (α := Unit → Res) (fun j30 => EO κ M_X9_isQuiet R_X9_isQuiet 30 [some (vr κ a), some (vi p1), some (vi x2)] [] s0 (j30 ())) ?_ (fun j30 hj30 => ?_)
      · refine q_iinc (x := x2) d_X9_isQuiet_30 rfl rfl ?_
        refine q_goto d_X9_isQuiet_33 ?_
        refine q_sub (ls' := [some (vr κ a), some (vi p1), some (vi (wr (x2 + 1)))]) ⟨rfl, rfl, rfl, trivial⟩ ?_
        exact ih (wr (x2 + 1)) (inr_wr _)
      refine q_icmp_ne d_X9_isQuiet_14 (inr_i32 _) (inr_b (Or.inr rfl)) (fun c2 => ?_) (fun c2 => ?_)
      · refine q_aload_n d_X9_isQuiet_17 rfl ?_
        refine q_getR (n := 2) d_X9_isQuiet_18 hA.1 fi_9_15 rfl (Nat.le_of_ble_eq_true rfl) ?_
        refine q_iload_n (x := x2) d_X9_isQuiet_21 rfl ?_
        refine q_iaload (m := 12) d_X9_isQuiet_22 hA.2.2.1 (by decide) rfl (fun g3 => ?_)
        refine q_iload_n (x := p1) d_X9_isQuiet_23 rfl ?_
        refine q_iand d_X9_isQuiet_24 ?_
        refine q_if_eq d_X9_isQuiet_25 (inr_i32 _) (fun c4 => ?_) (fun c4 => ?_)
        · refine q_sub (ls' := [some (vr κ a), some (vi p1), some (vi x2)]) ⟨rfl, rfl, rfl, trivial⟩ ?_
          exact hj30 
        · refine q_iconst d_X9_isQuiet_28 ?_
          exact q_iretz d_X9_isQuiet_29 rfl (Or.inl rfl) w_s0
      · refine q_sub (ls' := [some (vr κ a), some (vi p1), some (vi x2)]) ⟨rfl, rfl, rfl, trivial⟩ ?_
        exact hj30 
    · refine q_sub (ls' := [none, none, none]) trivial ?_
      exact hk36 
set_option maxHeartbeats 4000000 in
set_option maxRecDepth 10000 in
theorem c_X9_isQuiet (κ : Kp) (a : Nat) (hA : At9 κ a) (x1 : Int) (h_x1 : InR x1) (s0 : Mem) : ∀ r σ', f_X9_isQuiet a x1 s0 = some (r, σ') → Ct κ M_X9_isQuiet R_X9_isQuiet [vr κ a, vi x1] s0 r σ' := by
  intro r σ' ho
  refine Ct.of (by decide) (Nat.le_of_ble_eq_true rfl) (cat_ok rfl) (fun w_s0 => ?_) ⟨rfl, rfl⟩
  refine q_ent (ls' := [some (vr κ a), some (vi x1), none]) (o := f_X9_isQuiet a x1 s0) ⟨rfl, rfl, trivial⟩ ?_ ho
  unfold f_X9_isQuiet
  refine q_iconst d_X9_isQuiet_0 ?_
  refine q_istore_n d_X9_isQuiet_1 rfl ?_
  refine q_jn (α := Unit → Res) (fun j36 => EO κ M_X9_isQuiet R_X9_isQuiet 36 [none, none, none] [] s0 (j36 ())) ?_ (fun j36 hj36 => ?_)
  · refine q_iconst d_X9_isQuiet_36 ?_
    exact q_iretz d_X9_isQuiet_37 rfl (Or.inr rfl) w_s0
  refine q_sub (ls' := [some (vr κ a), some (vi x1), some (vi 0)]) ⟨rfl, rfl, rfl, trivial⟩ ?_
  exact l_X9_isQuiet_2 κ a hA x1 h_x1 j36 s0 w_s0 hj36 FU 0 (inr_b (Or.inl rfl))
abbrev R_X9_fewestWith : Room := { frames := 3, cells := 0, slots := 0, locals := 65 }
noncomputable def f_X9_fewestWith_10 (a : Nat) (p1 : Int) (p3 : Int) (k84 : Int → Mem → Res) : Nat → Int → Int → Mem → Res
  | 0, _, _, _ => none
  | n + 1, x2, x4, s0 =>
    if x4 < 4096 then (jn (fun (y6 : Int) (s7 : Mem) => jn (fun (v8 : Int) (s9 : Mem) => f_X9_fewestWith_10 a p1 p3 k84 n v8 (wr (x4 + 1)) s9) fun j78 => if y6 = 0 then (j78 x2 s7) else (if iand x4 (ixor p3 (-1)) = 0 then (bd (f_X9_strawOf a x4 s7) fun r12 s13 => if r12 < p1 then (j78 x2 s13) else (bd (f_X9_isQuiet a x4 s13) fun r15 s16 => if r15 = 0 then (j78 x2 s16) else (j78 x4 s16))) else (j78 x2 s7))) fun j40 => jn (fun (s18 : Mem) => j40 1 s18) fun j35 => if x2 = (-1) then (j35 s0) else (bd (f_J6_bitCount_0f7a4 x4 s0) fun r20 s21 => bd (f_J6_bitCount_0f7a4 x2 s21) fun r22 s23 => if r20 < r22 then (j35 s23) else (j40 0 s23))) else (k84 x2 s0)
noncomputable def f_X9_fewestWith (a : Nat) (x1 : Int) (s0 : Mem) : Res :=
  bd (f_X9_allTold a s0) fun r1 s2 => jn (fun (v3 : Int) (s4 : Mem) => some (v3, s4)) fun j84 => f_X9_fewestWith_10 a x1 r1 j84 FU (-1) 1 s2
set_option maxHeartbeats 4000000 in
set_option maxRecDepth 10000 in
theorem l_X9_fewestWith_10 (κ : Kp) (a : Nat) (hA : At9 κ a) (p1 : Int) (h_p1 : InR p1) (p3 : Int) (h_p3 : InR p3) (k84 : Int → Mem → Res) (hk84 : ∀ (z2 : Int) (h_z2 : InR z2) (sz : Mem) (w_sz : WF sz), EO κ M_X9_fewestWith R_X9_fewestWith 84 [none, none, some (vi z2), none, none, none] [] sz (k84 z2 sz)) : ∀ (n : Nat) (x2 : Int) (h_x2 : InR x2) (x4 : Int) (h_x4 : InR x4) (s0 : Mem) (w_s0 : WF s0), EO κ M_X9_fewestWith R_X9_fewestWith 10 [some (vr κ a), some (vi p1), some (vi x2), some (vi p3), some (vi x4), none] [] s0 (f_X9_fewestWith_10 a p1 p3 k84 n x2 x4 s0) := by
  intro n
  induction n with
  | zero => exact fun _ _ _ _ _ _ => q_none
  | succ n ih =>
    intro x2 h_x2 x4 h_x4 s0 w_s0
    rw [f_X9_fewestWith_10]
    refine q_iload (x := x4) d_X9_fewestWith_10 rfl ?_
    refine q_sipush d_X9_fewestWith_12 rfl ?_
    refine q_icmp_ge d_X9_fewestWith_15 h_x4 (inr_d rfl) (fun c5 => ?_) (fun c5 => ?_)
    · refine q_iload_n (x := x2) d_X9_fewestWith_18 rfl ?_
      refine q_iconst d_X9_fewestWith_19 ?_
      refine q_jn (α := Int → Mem → Res) (fun j40 => ∀ (y6 : Int) (h_y6 : y6 = 0 ∨ y6 = 1) (s7 : Mem) (w_s7 : WF s7), EO κ M_X9_fewestWith R_X9_fewestWith 40 [some (vr κ a), some (vi p1), some (vi x2), some (vi p3), some (vi x4), none] [vi y6] s7 (j40 y6 s7)) ?_ (fun j40 hj40 => ?_)
      · intro y6 h_y6 s7 w_s7
        refine q_istore d_X9_fewestWith_40 rfl ?_
        refine q_iload (x := y6) d_X9_fewestWith_42 rfl ?_
        refine q_jn (α := Int → Mem → Res) (fun j78 => ∀ (v8 : Int) (h_v8 : InR v8) (s9 : Mem) (w_s9 : WF s9), EO κ M_X9_fewestWith R_X9_fewestWith 78 [some (vr κ a), some (vi p1), some (vi v8), some (vi p3), some (vi x4), none] [] s9 (j78 v8 s9)) ?_ (fun j78 hj78 => ?_)
        · intro v8 h_v8 s9 w_s9
          refine q_iinc (x := x4) d_X9_fewestWith_78 rfl rfl ?_
          refine q_goto d_X9_fewestWith_81 ?_
          refine q_sub (ls' := [some (vr κ a), some (vi p1), some (vi v8), some (vi p3), some (vi (wr (x4 + 1))), none]) ⟨rfl, rfl, rfl, rfl, rfl, trivial⟩ ?_
          exact ih v8 h_v8 (wr (x4 + 1)) (inr_wr _) s9 w_s9
        refine q_if_eq d_X9_fewestWith_44 (inr_b h_y6) (fun c10 => ?_) (fun c10 => ?_)
        · refine q_sub (ls' := [some (vr κ a), some (vi p1), some (vi x2), some (vi p3), some (vi x4), none]) ⟨rfl, rfl, rfl, rfl, rfl, trivial⟩ ?_
          exact hj78 x2 h_x2 s7 w_s7
        · refine q_iload (x := x4) d_X9_fewestWith_47 rfl ?_
          refine q_iload_n (x := p3) d_X9_fewestWith_49 rfl ?_
          refine q_iconst d_X9_fewestWith_50 ?_
          refine q_ixor d_X9_fewestWith_51 ?_
          refine q_iand d_X9_fewestWith_52 ?_
          refine q_if_ne d_X9_fewestWith_53 (inr_i32 _) (fun c11 => ?_) (fun c11 => ?_)
          · refine q_aload_n d_X9_fewestWith_56 rfl ?_
            refine q_iload (x := x4) d_X9_fewestWith_57 rfl ?_
            refine q_callI (R' := R_X9_strawOf) (runV (As := [vi x4]) (rest := []) d_X9_fewestWith_59.1 cv_9_47 rfl hA.1 rfl rfl ⟨rfl, rfl, by decide, by decide⟩ (Nat.le_of_ble_eq_true rfl) w_s7 rfl) d_X9_fewestWith_59.2 (c_X9_strawOf κ a hA x4 h_x4 s7) rfl (fun r12 s13 h_r12 w_s13 => ?_)
            refine q_iload_n (x := p1) d_X9_fewestWith_62 rfl ?_
            refine q_icmp_lt d_X9_fewestWith_63 h_r12 h_p1 (fun c14 => ?_) (fun c14 => ?_)
            · refine q_sub (ls' := [some (vr κ a), some (vi p1), some (vi x2), some (vi p3), some (vi x4), none]) ⟨rfl, rfl, rfl, rfl, rfl, trivial⟩ ?_
              exact hj78 x2 h_x2 s13 w_s13
            · refine q_aload_n d_X9_fewestWith_66 rfl ?_
              refine q_iload (x := x4) d_X9_fewestWith_67 rfl ?_
              refine q_callZ (R' := R_X9_isQuiet) (runV (As := [vi x4]) (rest := []) d_X9_fewestWith_69.1 cv_9_50 rfl hA.1 rfl rfl ⟨rfl, rfl, by decide, by decide⟩ (Nat.le_of_ble_eq_true rfl) w_s13 rfl) d_X9_fewestWith_69.2 (c_X9_isQuiet κ a hA x4 h_x4 s13) rfl (fun r15 s16 h_r15 w_s16 => ?_)
              refine q_if_eq d_X9_fewestWith_72 (inr_b h_r15) (fun c17 => ?_) (fun c17 => ?_)
              · refine q_sub (ls' := [some (vr κ a), some (vi p1), some (vi x2), some (vi p3), some (vi x4), none]) ⟨rfl, rfl, rfl, rfl, rfl, trivial⟩ ?_
                exact hj78 x2 h_x2 s16 w_s16
              · refine q_iload (x := x4) d_X9_fewestWith_75 rfl ?_
                refine q_istore_n d_X9_fewestWith_77 rfl ?_
                refine q_sub (ls' := [some (vr κ a), some (vi p1), some (vi x4), some (vi p3), some (vi x4), none]) ⟨rfl, rfl, rfl, rfl, rfl, trivial⟩ ?_
                exact hj78 x4 h_x4 s16 w_s16
          · refine q_sub (ls' := [some (vr κ a), some (vi p1), some (vi x2), some (vi p3), some (vi x4), none]) ⟨rfl, rfl, rfl, rfl, rfl, trivial⟩ ?_
            exact hj78 x2 h_x2 s7 w_s7
      refine q_jn (α := Mem → Res) (fun j35 => ∀ (s18 : Mem) (w_s18 : WF s18), EO κ M_X9_fewestWith R_X9_fewestWith 35 [some (vr κ a), some (vi p1), some (vi x2), some (vi p3), some (vi x4), none] [] s18 (j35 s18)) ?_ (fun j35 hj35 => ?_)
      · intro s18 w_s18
        refine q_iconst d_X9_fewestWith_35 ?_
        refine q_goto d_X9_fewestWith_36 ?_
        refine q_sub (ls' := [some (vr κ a), some (vi p1), some (vi x2), some (vi p3), some (vi x4), none]) ⟨rfl, rfl, rfl, rfl, rfl, trivial⟩ ?_
        exact hj40 1 (Or.inr rfl) s18 w_s18
      refine q_icmp_eq d_X9_fewestWith_20 h_x2 (inr_d rfl) (fun c19 => ?_) (fun c19 => ?_)
      · refine q_sub (ls' := [some (vr κ a), some (vi p1), some (vi x2), some (vi p3), some (vi x4), none]) ⟨rfl, rfl, rfl, rfl, rfl, trivial⟩ ?_
        exact hj35 s0 w_s0
      · refine q_iload (x := x4) d_X9_fewestWith_23 rfl ?_
        refine q_callI (R' := R_J6_bitCount_0f7a4) (runS (As := [vi x4]) (rest := []) d_X9_fewestWith_25.1 cv_9_41 rfl ⟨rfl, rfl, by decide, by decide⟩ (Nat.le_of_ble_eq_true rfl) w_s0 rfl) d_X9_fewestWith_25.2 (c_J6_bitCount_0f7a4 κ x4 h_x4 s0) rfl (fun r20 s21 h_r20 w_s21 => ?_)
        refine q_iload_n (x := x2) d_X9_fewestWith_28 rfl ?_
        refine q_callI (R' := R_J6_bitCount_0f7a4) (runS (As := [vi x2]) (rest := [vi r20]) d_X9_fewestWith_29.1 cv_9_41 rfl ⟨rfl, rfl, by decide, by decide⟩ (Nat.le_of_ble_eq_true rfl) w_s21 rfl) d_X9_fewestWith_29.2 (c_J6_bitCount_0f7a4 κ x2 h_x2 s21) rfl (fun r22 s23 h_r22 w_s23 => ?_)
        refine q_icmp_ge d_X9_fewestWith_32 h_r20 h_r22 (fun c24 => ?_) (fun c24 => ?_)
        · refine q_sub (ls' := [some (vr κ a), some (vi p1), some (vi x2), some (vi p3), some (vi x4), none]) ⟨rfl, rfl, rfl, rfl, rfl, trivial⟩ ?_
          exact hj35 s23 w_s23
        · refine q_iconst d_X9_fewestWith_39 ?_
          refine q_sub (ls' := [some (vr κ a), some (vi p1), some (vi x2), some (vi p3), some (vi x4), none]) ⟨rfl, rfl, rfl, rfl, rfl, trivial⟩ ?_
          exact hj40 0 (Or.inl rfl) s23 w_s23
    · refine q_sub (ls' := [none, none, some (vi x2), none, none, none]) ⟨rfl, trivial⟩ ?_
      exact hk84 x2 h_x2 s0 w_s0
set_option maxHeartbeats 4000000 in
set_option maxRecDepth 10000 in
theorem c_X9_fewestWith (κ : Kp) (a : Nat) (hA : At9 κ a) (x1 : Int) (h_x1 : InR x1) (s0 : Mem) : ∀ r σ', f_X9_fewestWith a x1 s0 = some (r, σ') → Ct κ M_X9_fewestWith R_X9_fewestWith [vr κ a, vi x1] s0 r σ' := by
  intro r σ' ho
  refine Ct.of (by decide) (Nat.le_of_ble_eq_true rfl) (cat_ok rfl) (fun w_s0 => ?_) ⟨rfl, rfl⟩
  refine q_ent (ls' := [some (vr κ a), some (vi x1), none, none, none, none]) (o := f_X9_fewestWith a x1 s0) ⟨rfl, rfl, trivial⟩ ?_ ho
  unfold f_X9_fewestWith
  refine q_iconst d_X9_fewestWith_0 ?_
  refine q_istore_n d_X9_fewestWith_1 rfl ?_
  refine q_aload_n d_X9_fewestWith_2 rfl ?_
  refine q_callI (R' := R_X9_allTold) (runV (As := []) (rest := []) d_X9_fewestWith_3.1 cv_9_37 rfl hA.1 rfl rfl ⟨rfl, rfl, by decide, by decide⟩ (Nat.le_of_ble_eq_true rfl) w_s0 rfl) d_X9_fewestWith_3.2 (c_X9_allTold κ a hA s0) rfl (fun r1 s2 h_r1 w_s2 => ?_)
  refine q_istore_n d_X9_fewestWith_6 rfl ?_
  refine q_iconst d_X9_fewestWith_7 ?_
  refine q_istore d_X9_fewestWith_8 rfl ?_
  refine q_jn (α := Int → Mem → Res) (fun j84 => ∀ (v3 : Int) (h_v3 : InR v3) (s4 : Mem) (w_s4 : WF s4), EO κ M_X9_fewestWith R_X9_fewestWith 84 [none, none, some (vi v3), none, none, none] [] s4 (j84 v3 s4)) ?_ (fun j84 hj84 => ?_)
  · intro v3 h_v3 s4 w_s4
    refine q_iload_n (x := v3) d_X9_fewestWith_84 rfl ?_
    exact q_ireti d_X9_fewestWith_85 rfl h_v3 w_s4
  refine q_sub (ls' := [some (vr κ a), some (vi x1), some (vi (-1)), some (vi r1), some (vi 1), none]) ⟨rfl, rfl, rfl, rfl, rfl, trivial⟩ ?_
  exact l_X9_fewestWith_10 κ a hA x1 h_x1 r1 h_r1 j84 hj84 FU (-1) (inr_d rfl) 1 (inr_b (Or.inr rfl)) s2 w_s2
abbrev R_X9_hearing : Room := { frames := 0, cells := 0, slots := 0, locals := 0 }
noncomputable def f_X9_hearing_29 (a : Nat) (p2 : Int) (p3 : Int) (p4 : Int) (k78 : Int → Res) (s0 : Mem) : Nat → Int → Int → Res
  | 0, _, _ => none
  | n + 1, x6, x7 =>
    if x7 < 12 then (jn (fun (v5 : Int) => f_X9_hearing_29 a p2 p3 p4 k78 s0 n v5 (wr (x7 + 1))) fun j72 => if iand (ishr p3 x7) 1 = 1 then (if iand (ishr p4 x7) 1 = 0 then (gd ((0 : Int) ≤ x7 ∧ x7 < 12) (j72 (ior x6 (iand (s0 (a + 2) x7) (ixor p2 (-1)))))) else (j72 x6)) else (j72 x6)) else (k78 x6)
noncomputable def f_X9_hearing_10 (a : Nat) (p2 : Int) (s0 : Mem) : Nat → Int → Int → Int → Res
  | 0, _, _, _ => none
  | n + 1, x3, x4, x5 =>
    if x5 < 12 then (if x4 = x3 then (some (x3, s0)) else (jn (fun (v3 : Int) => f_X9_hearing_10 a p2 s0 n v3 x3 (wr (x5 + 1))) fun j78 => f_X9_hearing_29 a p2 x3 x4 j78 s0 FU x3 0)) else (some (x3, s0))
noncomputable def f_X9_hearing (a : Nat) (x1 : Int) (x2 : Int) (s0 : Mem) : Res :=
  f_X9_hearing_10 a x2 s0 FU (ishl 1 x1) 0 0
set_option maxHeartbeats 4000000 in
set_option maxRecDepth 10000 in
theorem l_X9_hearing_29 (κ : Kp) (a : Nat) (hA : At9 κ a) (p2 : Int) (h_p2 : InR p2) (p3 : Int) (h_p3 : InR p3) (p4 : Int) (h_p4 : InR p4) (p5 : Int) (h_p5 : InR p5) (k78 : Int → Res) (s0 : Mem) (w_s0 : WF s0) (hk78 : ∀ (z6 : Int) (h_z6 : InR z6), EO κ M_X9_hearing R_X9_hearing 78 [some (vr κ a), none, some (vi p2), some (vi p3), none, some (vi p5), some (vi z6), none] [] s0 (k78 z6)) : ∀ (n : Nat) (x6 : Int) (h_x6 : InR x6) (x7 : Int) (h_x7 : InR x7), EO κ M_X9_hearing R_X9_hearing 29 [some (vr κ a), none, some (vi p2), some (vi p3), some (vi p4), some (vi p5), some (vi x6), some (vi x7)] [] s0 (f_X9_hearing_29 a p2 p3 p4 k78 s0 n x6 x7) := by
  intro n
  induction n with
  | zero => exact fun _ _ _ _ => q_none
  | succ n ih =>
    intro x6 h_x6 x7 h_x7
    rw [f_X9_hearing_29]
    refine q_iload (x := x7) d_X9_hearing_29 rfl ?_
    refine q_bipush d_X9_hearing_31 rfl ?_
    refine q_icmp_ge d_X9_hearing_33 h_x7 (inr_d rfl) (fun c4 => ?_) (fun c4 => ?_)
    · refine q_iload_n (x := p3) d_X9_hearing_36 rfl ?_
      refine q_iload (x := x7) d_X9_hearing_37 rfl ?_
      refine q_ishr d_X9_hearing_39 ?_
      refine q_iconst d_X9_hearing_40 ?_
      refine q_iand d_X9_hearing_41 ?_
      refine q_iconst d_X9_hearing_42 ?_
      refine q_jn (α := Int → Res) (fun j72 => ∀ (v5 : Int) (h_v5 : InR v5), EO κ M_X9_hearing R_X9_hearing 72 [some (vr κ a), none, some (vi p2), some (vi p3), some (vi p4), some (vi p5), some (vi v5), some (vi x7)] [] s0 (j72 v5)) ?_ (fun j72 hj72 => ?_)
      · intro v5 h_v5
        refine q_iinc (x := x7) d_X9_hearing_72 rfl rfl ?_
        refine q_goto d_X9_hearing_75 ?_
        refine q_sub (ls' := [some (vr κ a), none, some (vi p2), some (vi p3), some (vi p4), some (vi p5), some (vi v5), some (vi (wr (x7 + 1)))]) ⟨rfl, rfl, rfl, rfl, rfl, rfl, rfl, trivial⟩ ?_
        exact ih v5 h_v5 (wr (x7 + 1)) (inr_wr _)
      refine q_icmp_ne d_X9_hearing_43 (inr_i32 _) (inr_b (Or.inr rfl)) (fun c6 => ?_) (fun c6 => ?_)
      · refine q_iload (x := p4) d_X9_hearing_46 rfl ?_
        refine q_iload (x := x7) d_X9_hearing_48 rfl ?_
        refine q_ishr d_X9_hearing_50 ?_
        refine q_iconst d_X9_hearing_51 ?_
        refine q_iand d_X9_hearing_52 ?_
        refine q_if_ne d_X9_hearing_53 (inr_i32 _) (fun c7 => ?_) (fun c7 => ?_)
        · refine q_iload (x := x6) d_X9_hearing_56 rfl ?_
          refine q_aload_n d_X9_hearing_58 rfl ?_
          refine q_getR (n := 2) d_X9_hearing_59 hA.1 fi_9_15 rfl (Nat.le_of_ble_eq_true rfl) ?_
          refine q_iload (x := x7) d_X9_hearing_62 rfl ?_
          refine q_iaload (m := 12) d_X9_hearing_64 hA.2.2.1 (by decide) rfl (fun g8 => ?_)
          refine q_iload_n (x := p2) d_X9_hearing_65 rfl ?_
          refine q_iconst d_X9_hearing_66 ?_
          refine q_ixor d_X9_hearing_67 ?_
          refine q_iand d_X9_hearing_68 ?_
          refine q_ior d_X9_hearing_69 ?_
          refine q_istore d_X9_hearing_70 rfl ?_
          refine q_sub (ls' := [some (vr κ a), none, some (vi p2), some (vi p3), some (vi p4), some (vi p5), some (vi (ior x6 (iand (s0 (a + 2) x7) (ixor p2 (-1))))), some (vi x7)]) ⟨rfl, rfl, rfl, rfl, rfl, rfl, rfl, trivial⟩ ?_
          exact hj72 (ior x6 (iand (s0 (a + 2) x7) (ixor p2 (-1)))) (inr_i32 _)
        · refine q_sub (ls' := [some (vr κ a), none, some (vi p2), some (vi p3), some (vi p4), some (vi p5), some (vi x6), some (vi x7)]) ⟨rfl, rfl, rfl, rfl, rfl, rfl, rfl, trivial⟩ ?_
          exact hj72 x6 h_x6
      · refine q_sub (ls' := [some (vr κ a), none, some (vi p2), some (vi p3), some (vi p4), some (vi p5), some (vi x6), some (vi x7)]) ⟨rfl, rfl, rfl, rfl, rfl, rfl, rfl, trivial⟩ ?_
        exact hj72 x6 h_x6
    · refine q_sub (ls' := [some (vr κ a), none, some (vi p2), some (vi p3), none, some (vi p5), some (vi x6), none]) ⟨rfl, rfl, rfl, rfl, rfl, trivial⟩ ?_
      exact hk78 x6 h_x6
set_option maxHeartbeats 4000000 in
set_option maxRecDepth 10000 in
theorem l_X9_hearing_10 (κ : Kp) (a : Nat) (hA : At9 κ a) (p2 : Int) (h_p2 : InR p2)  (s0 : Mem) (w_s0 : WF s0)  : ∀ (n : Nat) (x3 : Int) (h_x3 : InR x3) (x4 : Int) (h_x4 : InR x4) (x5 : Int) (h_x5 : InR x5), EO κ M_X9_hearing R_X9_hearing 10 [some (vr κ a), none, some (vi p2), some (vi x3), some (vi x4), some (vi x5), none, none] [] s0 (f_X9_hearing_10 a p2 s0 n x3 x4 x5) := by
  intro n
  induction n with
  | zero => exact fun _ _ _ _ _ _ => q_none
  | succ n ih =>
    intro x3 h_x3 x4 h_x4 x5 h_x5
    rw [f_X9_hearing_10]
    refine q_iload (x := x5) d_X9_hearing_10 rfl ?_
    refine q_bipush d_X9_hearing_12 rfl ?_
    refine q_icmp_ge d_X9_hearing_14 h_x5 (inr_d rfl) (fun c1 => ?_) (fun c1 => ?_)
    · refine q_iload (x := x4) d_X9_hearing_17 rfl ?_
      refine q_iload_n (x := x3) d_X9_hearing_19 rfl ?_
      refine q_icmp_eq d_X9_hearing_20 h_x4 h_x3 (fun c2 => ?_) (fun c2 => ?_)
      · refine q_iload_n (x := x3) d_X9_hearing_90 rfl ?_
        exact q_ireti d_X9_hearing_91 rfl h_x3 w_s0
      · refine q_iload_n (x := x3) d_X9_hearing_23 rfl ?_
        refine q_istore d_X9_hearing_24 rfl ?_
        refine q_iconst d_X9_hearing_26 ?_
        refine q_istore d_X9_hearing_27 rfl ?_
        refine q_jn (α := Int → Res) (fun j78 => ∀ (v3 : Int) (h_v3 : InR v3), EO κ M_X9_hearing R_X9_hearing 78 [some (vr κ a), none, some (vi p2), some (vi x3), none, some (vi x5), some (vi v3), none] [] s0 (j78 v3)) ?_ (fun j78 hj78 => ?_)
        · intro v3 h_v3
          refine q_iload_n (x := x3) d_X9_hearing_78 rfl ?_
          refine q_istore d_X9_hearing_79 rfl ?_
          refine q_iload (x := v3) d_X9_hearing_81 rfl ?_
          refine q_istore_n d_X9_hearing_83 rfl ?_
          refine q_iinc (x := x5) d_X9_hearing_84 rfl rfl ?_
          refine q_goto d_X9_hearing_87 ?_
          refine q_sub (ls' := [some (vr κ a), none, some (vi p2), some (vi v3), some (vi x3), some (vi (wr (x5 + 1))), none, none]) ⟨rfl, rfl, rfl, rfl, rfl, trivial⟩ ?_
          exact ih v3 h_v3 x3 h_x3 (wr (x5 + 1)) (inr_wr _)
        refine q_sub (ls' := [some (vr κ a), none, some (vi p2), some (vi x3), some (vi x4), some (vi x5), some (vi x3), some (vi 0)]) ⟨rfl, rfl, rfl, rfl, rfl, rfl, rfl, trivial⟩ ?_
        exact l_X9_hearing_29 κ a hA p2 h_p2 x3 h_x3 x4 h_x4 x5 h_x5 j78 s0 w_s0 hj78 FU x3 h_x3 0 (inr_b (Or.inl rfl))
    · refine q_iload_n (x := x3) d_X9_hearing_90 rfl ?_
      exact q_ireti d_X9_hearing_91 rfl h_x3 w_s0
set_option maxHeartbeats 4000000 in
set_option maxRecDepth 10000 in
theorem c_X9_hearing (κ : Kp) (a : Nat) (hA : At9 κ a) (x1 : Int) (h_x1 : InR x1) (x2 : Int) (h_x2 : InR x2) (s0 : Mem) : ∀ r σ', f_X9_hearing a x1 x2 s0 = some (r, σ') → Ct κ M_X9_hearing R_X9_hearing [vr κ a, vi x1, vi x2] s0 r σ' := by
  intro r σ' ho
  refine Ct.of (by decide) (Nat.le_of_ble_eq_true rfl) (cat_ok rfl) (fun w_s0 => ?_) ⟨rfl, rfl⟩
  refine q_ent (ls' := [some (vr κ a), some (vi x1), some (vi x2), none, none, none, none, none]) (o := f_X9_hearing a x1 x2 s0) ⟨rfl, rfl, rfl, trivial⟩ ?_ ho
  unfold f_X9_hearing
  refine q_iconst d_X9_hearing_0 ?_
  refine q_iload_n (x := x1) d_X9_hearing_1 rfl ?_
  refine q_ishl d_X9_hearing_2 ?_
  refine q_istore_n d_X9_hearing_3 rfl ?_
  refine q_iconst d_X9_hearing_4 ?_
  refine q_istore d_X9_hearing_5 rfl ?_
  refine q_iconst d_X9_hearing_7 ?_
  refine q_istore d_X9_hearing_8 rfl ?_
  refine q_sub (ls' := [some (vr κ a), none, some (vi x2), some (vi (ishl 1 x1)), some (vi 0), some (vi 0), none, none]) ⟨rfl, rfl, rfl, rfl, rfl, trivial⟩ ?_
  exact l_X9_hearing_10 κ a hA x2 h_x2  s0 w_s0  FU (ishl 1 x1) (inr_i32 _) 0 (inr_b (Or.inl rfl)) 0 (inr_b (Or.inl rfl))
abbrev R_X9_fewestSilent : Room := { frames := 3, cells := 0, slots := 0, locals := 65 }
noncomputable def f_X9_fewestSilent_22 (a : Nat) (p1 : Int) (p2 : Int) (p4 : Int) (k75 : Int → Mem → Res) : Nat → Int → Int → Mem → Res
  | 0, _, _, _ => none
  | n + 1, x3, x5, s0 =>
    if x5 < 4096 then (jn (fun (v6 : Int) (s7 : Mem) => f_X9_fewestSilent_22 a p1 p2 p4 k75 n v6 (wr (x5 + 1)) s7) fun j69 => if iand x5 (ixor p4 (-1)) = 0 then (bd (f_J6_bitCount_0f7a4 x5 s0) fun r9 s10 => if r9 < x3 then (bd (f_X9_hearing a p1 x5 s10) fun r12 s13 => if iand (ishr r12 p2) 1 = 0 then (bd (f_J6_bitCount_0f7a4 x5 s13) fun r15 s16 => j69 r15 s16) else (j69 x3 s13)) else (j69 x3 s10)) else (j69 x3 s0)) else (k75 x3 s0)
noncomputable def f_X9_fewestSilent (a : Nat) (x1 : Int) (x2 : Int) (s0 : Mem) : Res :=
  bd (f_X9_allTold a s0) fun r1 s2 => jn (fun (v3 : Int) (s4 : Mem) => some (v3, s4)) fun j75 => f_X9_fewestSilent_22 a x1 x2 (iand r1 (ixor (ior (ishl 1 x1) (ishl 1 x2)) (-1))) j75 FU 12 0 s2
set_option maxHeartbeats 4000000 in
set_option maxRecDepth 10000 in
theorem l_X9_fewestSilent_22 (κ : Kp) (a : Nat) (hA : At9 κ a) (p1 : Int) (h_p1 : InR p1) (p2 : Int) (h_p2 : InR p2) (p4 : Int) (h_p4 : InR p4) (k75 : Int → Mem → Res) (hk75 : ∀ (z3 : Int) (h_z3 : InR z3) (sz : Mem) (w_sz : WF sz), EO κ M_X9_fewestSilent R_X9_fewestSilent 75 [none, none, none, some (vi z3), none, none] [] sz (k75 z3 sz)) : ∀ (n : Nat) (x3 : Int) (h_x3 : InR x3) (x5 : Int) (h_x5 : InR x5) (s0 : Mem) (w_s0 : WF s0), EO κ M_X9_fewestSilent R_X9_fewestSilent 22 [some (vr κ a), some (vi p1), some (vi p2), some (vi x3), some (vi p4), some (vi x5)] [] s0 (f_X9_fewestSilent_22 a p1 p2 p4 k75 n x3 x5 s0) := by
  intro n
  induction n with
  | zero => exact fun _ _ _ _ _ _ => q_none
  | succ n ih =>
    intro x3 h_x3 x5 h_x5 s0 w_s0
    rw [f_X9_fewestSilent_22]
    refine q_iload (x := x5) d_X9_fewestSilent_22 rfl ?_
    refine q_sipush d_X9_fewestSilent_24 rfl ?_
    refine q_icmp_ge d_X9_fewestSilent_27 h_x5 (inr_d rfl) (fun c5 => ?_) (fun c5 => ?_)
    · refine q_iload (x := x5) d_X9_fewestSilent_30 rfl ?_
      refine q_iload (x := p4) d_X9_fewestSilent_32 rfl ?_
      refine q_iconst d_X9_fewestSilent_34 ?_
      refine q_ixor d_X9_fewestSilent_35 ?_
      refine q_iand d_X9_fewestSilent_36 ?_
      refine q_jn (α := Int → Mem → Res) (fun j69 => ∀ (v6 : Int) (h_v6 : InR v6) (s7 : Mem) (w_s7 : WF s7), EO κ M_X9_fewestSilent R_X9_fewestSilent 69 [some (vr κ a), some (vi p1), some (vi p2), some (vi v6), some (vi p4), some (vi x5)] [] s7 (j69 v6 s7)) ?_ (fun j69 hj69 => ?_)
      · intro v6 h_v6 s7 w_s7
        refine q_iinc (x := x5) d_X9_fewestSilent_69 rfl rfl ?_
        refine q_goto d_X9_fewestSilent_72 ?_
        refine q_sub (ls' := [some (vr κ a), some (vi p1), some (vi p2), some (vi v6), some (vi p4), some (vi (wr (x5 + 1)))]) ⟨rfl, rfl, rfl, rfl, rfl, rfl, trivial⟩ ?_
        exact ih v6 h_v6 (wr (x5 + 1)) (inr_wr _) s7 w_s7
      refine q_if_ne d_X9_fewestSilent_37 (inr_i32 _) (fun c8 => ?_) (fun c8 => ?_)
      · refine q_iload (x := x5) d_X9_fewestSilent_40 rfl ?_
        refine q_callI (R' := R_J6_bitCount_0f7a4) (runS (As := [vi x5]) (rest := []) d_X9_fewestSilent_42.1 cv_9_41 rfl ⟨rfl, rfl, by decide, by decide⟩ (Nat.le_of_ble_eq_true rfl) w_s0 rfl) d_X9_fewestSilent_42.2 (c_J6_bitCount_0f7a4 κ x5 h_x5 s0) rfl (fun r9 s10 h_r9 w_s10 => ?_)
        refine q_iload_n (x := x3) d_X9_fewestSilent_45 rfl ?_
        refine q_icmp_ge d_X9_fewestSilent_46 h_r9 h_x3 (fun c11 => ?_) (fun c11 => ?_)
        · refine q_aload_n d_X9_fewestSilent_49 rfl ?_
          refine q_iload_n (x := p1) d_X9_fewestSilent_50 rfl ?_
          refine q_iload (x := x5) d_X9_fewestSilent_51 rfl ?_
          refine q_callI (R' := R_X9_hearing) (runV (As := [vi p1, vi x5]) (rest := []) d_X9_fewestSilent_53.1 cv_9_53 rfl hA.1 rfl rfl ⟨rfl, rfl, by decide, by decide⟩ (Nat.le_of_ble_eq_true rfl) w_s10 rfl) d_X9_fewestSilent_53.2 (c_X9_hearing κ a hA p1 h_p1 x5 h_x5 s10) rfl (fun r12 s13 h_r12 w_s13 => ?_)
          refine q_iload_n (x := p2) d_X9_fewestSilent_56 rfl ?_
          refine q_ishr d_X9_fewestSilent_57 ?_
          refine q_iconst d_X9_fewestSilent_58 ?_
          refine q_iand d_X9_fewestSilent_59 ?_
          refine q_if_ne d_X9_fewestSilent_60 (inr_i32 _) (fun c14 => ?_) (fun c14 => ?_)
          · refine q_iload (x := x5) d_X9_fewestSilent_63 rfl ?_
            refine q_callI (R' := R_J6_bitCount_0f7a4) (runS (As := [vi x5]) (rest := []) d_X9_fewestSilent_65.1 cv_9_41 rfl ⟨rfl, rfl, by decide, by decide⟩ (Nat.le_of_ble_eq_true rfl) w_s13 rfl) d_X9_fewestSilent_65.2 (c_J6_bitCount_0f7a4 κ x5 h_x5 s13) rfl (fun r15 s16 h_r15 w_s16 => ?_)
            refine q_istore_n d_X9_fewestSilent_68 rfl ?_
            refine q_sub (ls' := [some (vr κ a), some (vi p1), some (vi p2), some (vi r15), some (vi p4), some (vi x5)]) ⟨rfl, rfl, rfl, rfl, rfl, rfl, trivial⟩ ?_
            exact hj69 r15 h_r15 s16 w_s16
          · refine q_sub (ls' := [some (vr κ a), some (vi p1), some (vi p2), some (vi x3), some (vi p4), some (vi x5)]) ⟨rfl, rfl, rfl, rfl, rfl, rfl, trivial⟩ ?_
            exact hj69 x3 h_x3 s13 w_s13
        · refine q_sub (ls' := [some (vr κ a), some (vi p1), some (vi p2), some (vi x3), some (vi p4), some (vi x5)]) ⟨rfl, rfl, rfl, rfl, rfl, rfl, trivial⟩ ?_
          exact hj69 x3 h_x3 s10 w_s10
      · refine q_sub (ls' := [some (vr κ a), some (vi p1), some (vi p2), some (vi x3), some (vi p4), some (vi x5)]) ⟨rfl, rfl, rfl, rfl, rfl, rfl, trivial⟩ ?_
        exact hj69 x3 h_x3 s0 w_s0
    · refine q_sub (ls' := [none, none, none, some (vi x3), none, none]) ⟨rfl, trivial⟩ ?_
      exact hk75 x3 h_x3 s0 w_s0
set_option maxHeartbeats 4000000 in
set_option maxRecDepth 10000 in
theorem c_X9_fewestSilent (κ : Kp) (a : Nat) (hA : At9 κ a) (x1 : Int) (h_x1 : InR x1) (x2 : Int) (h_x2 : InR x2) (s0 : Mem) : ∀ r σ', f_X9_fewestSilent a x1 x2 s0 = some (r, σ') → Ct κ M_X9_fewestSilent R_X9_fewestSilent [vr κ a, vi x1, vi x2] s0 r σ' := by
  intro r σ' ho
  refine Ct.of (by decide) (Nat.le_of_ble_eq_true rfl) (cat_ok rfl) (fun w_s0 => ?_) ⟨rfl, rfl⟩
  refine q_ent (ls' := [some (vr κ a), some (vi x1), some (vi x2), none, none, none]) (o := f_X9_fewestSilent a x1 x2 s0) ⟨rfl, rfl, rfl, trivial⟩ ?_ ho
  unfold f_X9_fewestSilent
  refine q_bipush d_X9_fewestSilent_0 rfl ?_
  refine q_istore_n d_X9_fewestSilent_2 rfl ?_
  refine q_aload_n d_X9_fewestSilent_3 rfl ?_
  refine q_callI (R' := R_X9_allTold) (runV (As := []) (rest := []) d_X9_fewestSilent_4.1 cv_9_37 rfl hA.1 rfl rfl ⟨rfl, rfl, by decide, by decide⟩ (Nat.le_of_ble_eq_true rfl) w_s0 rfl) d_X9_fewestSilent_4.2 (c_X9_allTold κ a hA s0) rfl (fun r1 s2 h_r1 w_s2 => ?_)
  refine q_iconst d_X9_fewestSilent_7 ?_
  refine q_iload_n (x := x1) d_X9_fewestSilent_8 rfl ?_
  refine q_ishl d_X9_fewestSilent_9 ?_
  refine q_iconst d_X9_fewestSilent_10 ?_
  refine q_iload_n (x := x2) d_X9_fewestSilent_11 rfl ?_
  refine q_ishl d_X9_fewestSilent_12 ?_
  refine q_ior d_X9_fewestSilent_13 ?_
  refine q_iconst d_X9_fewestSilent_14 ?_
  refine q_ixor d_X9_fewestSilent_15 ?_
  refine q_iand d_X9_fewestSilent_16 ?_
  refine q_istore d_X9_fewestSilent_17 rfl ?_
  refine q_iconst d_X9_fewestSilent_19 ?_
  refine q_istore d_X9_fewestSilent_20 rfl ?_
  refine q_jn (α := Int → Mem → Res) (fun j75 => ∀ (v3 : Int) (h_v3 : InR v3) (s4 : Mem) (w_s4 : WF s4), EO κ M_X9_fewestSilent R_X9_fewestSilent 75 [none, none, none, some (vi v3), none, none] [] s4 (j75 v3 s4)) ?_ (fun j75 hj75 => ?_)
  · intro v3 h_v3 s4 w_s4
    refine q_iload_n (x := v3) d_X9_fewestSilent_75 rfl ?_
    exact q_ireti d_X9_fewestSilent_76 rfl h_v3 w_s4
  refine q_sub (ls' := [some (vr κ a), some (vi x1), some (vi x2), some (vi 12), some (vi (iand r1 (ixor (ior (ishl 1 x1) (ishl 1 x2)) (-1)))), some (vi 0)]) ⟨rfl, rfl, rfl, rfl, rfl, rfl, trivial⟩ ?_
  exact l_X9_fewestSilent_22 κ a hA x1 h_x1 x2 h_x2 (iand r1 (ixor (ior (ishl 1 x1) (ishl 1 x2)) (-1))) (inr_i32 _) j75 hj75 FU 12 (inr_d rfl) 0 (inr_b (Or.inl rfl)) s2 w_s2
abbrev R_X10_become : Room := { frames := 3, cells := 0, slots := 0, locals := 102 }
noncomputable def f_X10_become (a : Nat) (a1 : Nat) (s0 : Mem) : Res :=
  bd (f_X4_become (a + 1) (a1 + 1) s0) fun r1 s2 => bd (f_X11_copy (a1 + 10) 600 (a + 10) 600 s2) fun r3 s4 => bd (f_X2_become (a + 11) (a1 + 11) s4) fun r5 s6 => bd (f_X1_become (a + 18) (a1 + 18) s6) fun r7 s8 => bd (f_X6_become (a + 21) (a1 + 21) s8) fun r9 s10 => bd (f_X9_become (a + 26) (a1 + 26) s10) fun r11 s12 => bd (f_X0_become (a + 30) (a1 + 30) s12) fun r13 s14 => bd (f_X3_become (a + 35) (a1 + 35) s14) fun r15 s16 => some (0, s16)
set_option maxHeartbeats 4000000 in
set_option maxRecDepth 10000 in
theorem c_X10_become (κ : Kp) (a : Nat) (hA : At10 κ a) (a1 : Nat) (hA1 : At10 κ a1) (s0 : Mem) : ∀ r σ', f_X10_become a a1 s0 = some (r, σ') → Ct κ M_X10_become R_X10_become [vr κ a, vr κ a1] s0 r σ' := by
  intro r σ' ho
  refine Ct.of (by decide) (Nat.le_of_ble_eq_true rfl) (cat_ok rfl) (fun w_s0 => ?_) ⟨rfl, rfl⟩
  refine q_ent (ls' := [some (vr κ a), some (vr κ a1)]) (o := f_X10_become a a1 s0) ⟨rfl, rfl, trivial⟩ ?_ ho
  unfold f_X10_become
  refine q_aload_n d_X10_become_0 rfl ?_
  refine q_getR (n := 1) d_X10_become_1 hA.1 fi_10_12 rfl (Nat.le_of_ble_eq_true rfl) ?_
  refine q_aload_n d_X10_become_4 rfl ?_
  refine q_getR (n := 1) d_X10_become_5 hA1.1 fi_10_12 rfl (Nat.le_of_ble_eq_true rfl) ?_
  refine q_callV (R' := R_X4_become) (runV (As := [vr κ (a1 + 1)]) (rest := []) d_X10_become_8.1 cv_10_64 rfl hA.2.1.1 rfl rfl ⟨rfl, rfl, by decide, by decide⟩ (Nat.le_of_ble_eq_true rfl) w_s0 rfl) d_X10_become_8.2 (c_X4_become κ (a + 1) hA.2.1 (a1 + 1) hA1.2.1 s0) rfl (fun r1 s2 w_s2 => ?_)
  refine q_aload_n d_X10_become_11 rfl ?_
  refine q_getR (n := 10) d_X10_become_12 hA1.1 fi_10_18 rfl (Nat.le_of_ble_eq_true rfl) ?_
  refine q_aload_n d_X10_become_15 rfl ?_
  refine q_getR (n := 10) d_X10_become_16 hA.1 fi_10_18 rfl (Nat.le_of_ble_eq_true rfl) ?_
  refine q_callV (R' := R_X11_copy) (runN (As := [vr κ (a1 + 10), vr κ (a + 10)]) (rest := []) d_X10_become_19.1 cv_10_68 rfl ⟨rfl, rfl, by decide, by decide⟩ (Nat.le_of_ble_eq_true rfl) w_s2 rfl) d_X10_become_19.2 (c_X11_copy κ (a1 + 10) 600 hA1.2.2.1 (by decide) (a + 10) 600 hA.2.2.1 (by decide) s2) rfl (fun r3 s4 w_s4 => ?_)
  refine q_aload_n d_X10_become_22 rfl ?_
  refine q_getR (n := 11) d_X10_become_23 hA.1 fi_10_25 rfl (Nat.le_of_ble_eq_true rfl) ?_
  refine q_aload_n d_X10_become_26 rfl ?_
  refine q_getR (n := 11) d_X10_become_27 hA1.1 fi_10_25 rfl (Nat.le_of_ble_eq_true rfl) ?_
  refine q_callV (R' := R_X2_become) (runV (As := [vr κ (a1 + 11)]) (rest := []) d_X10_become_30.1 cv_10_72 rfl hA.2.2.2.1.1 rfl rfl ⟨rfl, rfl, by decide, by decide⟩ (Nat.le_of_ble_eq_true rfl) w_s4 rfl) d_X10_become_30.2 (c_X2_become κ (a + 11) hA.2.2.2.1 (a1 + 11) hA1.2.2.2.1 s4) rfl (fun r5 s6 w_s6 => ?_)
  refine q_aload_n d_X10_become_33 rfl ?_
  refine q_getR (n := 18) d_X10_become_34 hA.1 fi_10_32 rfl (Nat.le_of_ble_eq_true rfl) ?_
  refine q_aload_n d_X10_become_37 rfl ?_
  refine q_getR (n := 18) d_X10_become_38 hA1.1 fi_10_32 rfl (Nat.le_of_ble_eq_true rfl) ?_
  refine q_callV (R' := R_X1_become) (runV (As := [vr κ (a1 + 18)]) (rest := []) d_X10_become_41.1 cv_10_75 rfl hA.2.2.2.2.1.1 rfl rfl ⟨rfl, rfl, by decide, by decide⟩ (Nat.le_of_ble_eq_true rfl) w_s6 rfl) d_X10_become_41.2 (c_X1_become κ (a + 18) hA.2.2.2.2.1 (a1 + 18) hA1.2.2.2.2.1 s6) rfl (fun r7 s8 w_s8 => ?_)
  refine q_aload_n d_X10_become_44 rfl ?_
  refine q_getR (n := 21) d_X10_become_45 hA.1 fi_10_39 rfl (Nat.le_of_ble_eq_true rfl) ?_
  refine q_aload_n d_X10_become_48 rfl ?_
  refine q_getR (n := 21) d_X10_become_49 hA1.1 fi_10_39 rfl (Nat.le_of_ble_eq_true rfl) ?_
  refine q_callV (R' := R_X6_become) (runV (As := [vr κ (a1 + 21)]) (rest := []) d_X10_become_52.1 cv_10_78 rfl hA.2.2.2.2.2.1.1 rfl rfl ⟨rfl, rfl, by decide, by decide⟩ (Nat.le_of_ble_eq_true rfl) w_s8 rfl) d_X10_become_52.2 (c_X6_become κ (a + 21) hA.2.2.2.2.2.1 (a1 + 21) hA1.2.2.2.2.2.1 s8) rfl (fun r9 s10 w_s10 => ?_)
  refine q_aload_n d_X10_become_55 rfl ?_
  refine q_getR (n := 26) d_X10_become_56 hA.1 fi_10_46 rfl (Nat.le_of_ble_eq_true rfl) ?_
  refine q_aload_n d_X10_become_59 rfl ?_
  refine q_getR (n := 26) d_X10_become_60 hA1.1 fi_10_46 rfl (Nat.le_of_ble_eq_true rfl) ?_
  refine q_callV (R' := R_X9_become) (runV (As := [vr κ (a1 + 26)]) (rest := []) d_X10_become_63.1 cv_10_81 rfl hA.2.2.2.2.2.2.1.1 rfl rfl ⟨rfl, rfl, by decide, by decide⟩ (Nat.le_of_ble_eq_true rfl) w_s10 rfl) d_X10_become_63.2 (c_X9_become κ (a + 26) hA.2.2.2.2.2.2.1 (a1 + 26) hA1.2.2.2.2.2.2.1 s10) rfl (fun r11 s12 w_s12 => ?_)
  refine q_aload_n d_X10_become_66 rfl ?_
  refine q_getR (n := 30) d_X10_become_67 hA.1 fi_10_53 rfl (Nat.le_of_ble_eq_true rfl) ?_
  refine q_aload_n d_X10_become_70 rfl ?_
  refine q_getR (n := 30) d_X10_become_71 hA1.1 fi_10_53 rfl (Nat.le_of_ble_eq_true rfl) ?_
  refine q_callV (R' := R_X0_become) (runV (As := [vr κ (a1 + 30)]) (rest := []) d_X10_become_74.1 cv_10_84 rfl hA.2.2.2.2.2.2.2.1.1 rfl rfl ⟨rfl, rfl, by decide, by decide⟩ (Nat.le_of_ble_eq_true rfl) w_s12 rfl) d_X10_become_74.2 (c_X0_become κ (a + 30) hA.2.2.2.2.2.2.2.1 (a1 + 30) hA1.2.2.2.2.2.2.2.1 s12) rfl (fun r13 s14 w_s14 => ?_)
  refine q_aload_n d_X10_become_77 rfl ?_
  refine q_getR (n := 35) d_X10_become_78 hA.1 fi_10_60 rfl (Nat.le_of_ble_eq_true rfl) ?_
  refine q_aload_n d_X10_become_81 rfl ?_
  refine q_getR (n := 35) d_X10_become_82 hA1.1 fi_10_60 rfl (Nat.le_of_ble_eq_true rfl) ?_
  refine q_callV (R' := R_X3_become) (runV (As := [vr κ (a1 + 35)]) (rest := []) d_X10_become_85.1 cv_10_87 rfl hA.2.2.2.2.2.2.2.2.1 rfl rfl ⟨rfl, rfl, by decide, by decide⟩ (Nat.le_of_ble_eq_true rfl) w_s14 rfl) d_X10_become_85.2 (c_X3_become κ (a + 35) hA.2.2.2.2.2.2.2.2 (a1 + 35) hA1.2.2.2.2.2.2.2.2 s14) rfl (fun r15 s16 w_s16 => ?_)
  exact q_vret d_X10_become_88 rfl w_s16

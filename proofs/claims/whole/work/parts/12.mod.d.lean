abbrev R_X12_restOf : Room := { frames := 1, cells := 0, slots := 0, locals := 22 }
noncomputable def f_X12_restOf (a : Nat) (x1 : Int) (x2 : Int) (s0 : Mem) : Res :=
  gd ((0 : Int) ≤ wr (242 + x2) ∧ wr (242 + x2) < 1732) (bd (f_X12_marked a s0) fun r2 s3 => gd (r2 ≠ 0) (some (Int.tmod (wr (x1 * (s0 (a + 1) (wr (242 + x2))))) r2, s3)))
set_option maxHeartbeats 4000000 in
set_option maxRecDepth 10000 in
theorem c_X12_restOf (κ : Kp) (a : Nat) (hA : At12 κ a) (x1 : Int) (h_x1 : InR x1) (x2 : Int) (h_x2 : InR x2) (s0 : Mem) : ∀ r σ', f_X12_restOf a x1 x2 s0 = some (r, σ') → Ct κ M_X12_restOf R_X12_restOf [vr κ a, vi x1, vi x2] s0 r σ' := by
  intro r σ' ho
  refine Ct.of (by decide) (Nat.le_of_ble_eq_true rfl) (cat_ok rfl) (fun w_s0 => ?_) ⟨rfl, rfl⟩
  refine q_ent (ls' := [some (vr κ a), some (vi x1), some (vi x2)]) (o := f_X12_restOf a x1 x2 s0) ⟨rfl, rfl, rfl, trivial⟩ ?_ ho
  unfold f_X12_restOf
  refine q_iload_n (x := x1) d_X12_restOf_0 rfl ?_
  refine q_aload_n d_X12_restOf_1 rfl ?_
  refine q_getR (n := 1) d_X12_restOf_2 hA.1 fi_12_7 rfl (Nat.le_of_ble_eq_true rfl) ?_
  refine q_sipush d_X12_restOf_5 rfl ?_
  refine q_iload_n (x := x2) d_X12_restOf_8 rfl ?_
  refine q_iadd d_X12_restOf_9 ?_
  refine q_iaload (m := 1732) d_X12_restOf_10 hA.2.1 (by decide) rfl (fun g1 => ?_)
  refine q_imul d_X12_restOf_11 ?_
  refine q_aload_n d_X12_restOf_12 rfl ?_
  refine q_callI (R' := R_X12_marked) (runV (As := []) (rest := [vi (wr (x1 * (s0 (a + 1) (wr (242 + x2)))))]) d_X12_restOf_13.1 cv_12_418 rfl hA.1 rfl rfl ⟨rfl, rfl, by decide, by decide⟩ (Nat.le_of_ble_eq_true rfl) w_s0 rfl) d_X12_restOf_13.2 (c_X12_marked κ a hA s0) rfl (fun r2 s3 h_r2 w_s3 => ?_)
  refine q_irem d_X12_restOf_16 (inr_wr _) h_r2 (fun g4 => ?_)
  exact q_ireti d_X12_restOf_17 rfl (inr_tmod (inr_wr _) h_r2) w_s3
abbrev R_X12_share : Room := { frames := 2, cells := 0, slots := 0, locals := 44 }
noncomputable def f_X12_share_38 (a : Nat) (p1 : Int) (p2 : Int) (k119 : Int → Int → Mem → Res) : Nat → Int → Int → Int → Mem → Res
  | 0, _, _, _, _ => none
  | n + 1, x3, x4, x5, s0 =>
    gd ((0 : Int) ≤ 64 ∧ (64 : Int) < 1732) (if x5 < s0 (a + 1) 64 then (gd ((0 : Int) ≤ wr (242 + x5) ∧ wr (242 + x5) < 1732) (bd (f_X12_marked a s0) fun r19 s20 => gd (r19 ≠ 0) (bd (f_X12_restOf a p1 x5 s20) fun r22 s23 => bd (f_X12_restOf a p1 p2 s23) fun r24 s25 => jn (fun (y26 : Int) => f_X12_share_38 a p1 p2 k119 n (wr (x3 - (wr (Int.tdiv (wr (p1 * (s0 (a + 1) (wr (242 + x5))))) r19)))) (wr (x4 + y26)) (wr (x5 + 1)) s25) fun j110 => jn (fun (_ : Unit) => j110 1) fun j105 => if 0 < wr (r22 - r24) then (j105 ()) else (jn (fun (_ : Unit) => j110 0) fun j109 => if wr (r22 - r24) = 0 then (if x5 < p2 then (j105 ()) else (j109 ())) else (j109 ()))))) else (k119 x3 x4 s0))
noncomputable def f_X12_share (a : Nat) (x1 : Int) (x2 : Int) (s0 : Mem) : Res :=
  bd (f_X12_isIn x1 0 9999 s0) fun r1 s2 => if r1 = 0 then (some ((-1), s2)) else (gd ((0 : Int) ≤ 64 ∧ (64 : Int) < 1732) (bd (f_X12_isIn x2 0 (wr ((s2 (a + 1) 64) - 1)) s2) fun r5 s6 => if r5 = 0 then (some ((-1), s6)) else (jn (fun (v8 : Int) (v9 : Int) (s10 : Mem) => gd ((0 : Int) ≤ wr (242 + x2) ∧ wr (242 + x2) < 1732) (bd (f_X12_marked a s10) fun r12 s13 => gd (r12 ≠ 0) (if v9 < v8 then (some (wr ((wr (Int.tdiv (wr (x1 * (s10 (a + 1) (wr (242 + x2))))) r12)) + 1), s13)) else (some (wr ((wr (Int.tdiv (wr (x1 * (s10 (a + 1) (wr (242 + x2))))) r12)) + 0), s13))))) fun j119 => f_X12_share_38 a x1 x2 j119 FU x1 0 0 s6)))
set_option maxHeartbeats 4000000 in
set_option maxRecDepth 10000 in
theorem l_X12_share_38 (κ : Kp) (a : Nat) (hA : At12 κ a) (p1 : Int) (h_p1 : InR p1) (p2 : Int) (h_p2 : InR p2) (k119 : Int → Int → Mem → Res) (hk119 : ∀ (z3 : Int) (h_z3 : InR z3) (z4 : Int) (h_z4 : InR z4) (sz : Mem) (w_sz : WF sz), EO κ M_X12_share R_X12_share 119 [some (vr κ a), some (vi p1), some (vi p2), some (vi z3), some (vi z4), none, none] [] sz (k119 z3 z4 sz)) : ∀ (n : Nat) (x3 : Int) (h_x3 : InR x3) (x4 : Int) (h_x4 : InR x4) (x5 : Int) (h_x5 : InR x5) (s0 : Mem) (w_s0 : WF s0), EO κ M_X12_share R_X12_share 38 [some (vr κ a), some (vi p1), some (vi p2), some (vi x3), some (vi x4), some (vi x5), none] [] s0 (f_X12_share_38 a p1 p2 k119 n x3 x4 x5 s0) := by
  intro n
  induction n with
  | zero => exact fun _ _ _ _ _ _ _ _ => q_none
  | succ n ih =>
    intro x3 h_x3 x4 h_x4 x5 h_x5 s0 w_s0
    rw [f_X12_share_38]
    refine q_iload (x := x5) d_X12_share_38 rfl ?_
    refine q_aload_n d_X12_share_40 rfl ?_
    refine q_getR (n := 1) d_X12_share_41 hA.1 fi_12_7 rfl (Nat.le_of_ble_eq_true rfl) ?_
    refine q_bipush d_X12_share_44 rfl ?_
    refine q_iaload (m := 1732) d_X12_share_46 hA.2.1 (by decide) rfl (fun g16 => ?_)
    refine q_icmp_ge d_X12_share_47 h_x5 (w_s0 _ _) (fun c17 => ?_) (fun c17 => ?_)
    · refine q_iload_n (x := x3) d_X12_share_50 rfl ?_
      refine q_iload_n (x := p1) d_X12_share_51 rfl ?_
      refine q_aload_n d_X12_share_52 rfl ?_
      refine q_getR (n := 1) d_X12_share_53 hA.1 fi_12_7 rfl (Nat.le_of_ble_eq_true rfl) ?_
      refine q_sipush d_X12_share_56 rfl ?_
      refine q_iload (x := x5) d_X12_share_59 rfl ?_
      refine q_iadd d_X12_share_61 ?_
      refine q_iaload (m := 1732) d_X12_share_62 hA.2.1 (by decide) rfl (fun g18 => ?_)
      refine q_imul d_X12_share_63 ?_
      refine q_aload_n d_X12_share_64 rfl ?_
      refine q_callI (R' := R_X12_marked) (runV (As := []) (rest := [vi (wr (p1 * (s0 (a + 1) (wr (242 + x5))))), vi x3]) d_X12_share_65.1 cv_12_418 rfl hA.1 rfl rfl ⟨rfl, rfl, by decide, by decide⟩ (Nat.le_of_ble_eq_true rfl) w_s0 rfl) d_X12_share_65.2 (c_X12_marked κ a hA s0) rfl (fun r19 s20 h_r19 w_s20 => ?_)
      refine q_idiv d_X12_share_68 (inr_wr _) h_r19 (fun g21 => ?_)
      refine q_isub d_X12_share_69 ?_
      refine q_istore_n d_X12_share_70 rfl ?_
      refine q_aload_n d_X12_share_71 rfl ?_
      refine q_iload_n (x := p1) d_X12_share_72 rfl ?_
      refine q_iload (x := x5) d_X12_share_73 rfl ?_
      refine q_callI (R' := R_X12_restOf) (runV (As := [vi p1, vi x5]) (rest := []) d_X12_share_75.1 cv_12_421 rfl hA.1 rfl rfl ⟨rfl, rfl, by decide, by decide⟩ (Nat.le_of_ble_eq_true rfl) w_s20 rfl) d_X12_share_75.2 (c_X12_restOf κ a hA p1 h_p1 x5 h_x5 s20) rfl (fun r22 s23 h_r22 w_s23 => ?_)
      refine q_aload_n d_X12_share_78 rfl ?_
      refine q_iload_n (x := p1) d_X12_share_79 rfl ?_
      refine q_iload_n (x := p2) d_X12_share_80 rfl ?_
      refine q_callI (R' := R_X12_restOf) (runV (As := [vi p1, vi p2]) (rest := [vi r22]) d_X12_share_81.1 cv_12_421 rfl hA.1 rfl rfl ⟨rfl, rfl, by decide, by decide⟩ (Nat.le_of_ble_eq_true rfl) w_s23 rfl) d_X12_share_81.2 (c_X12_restOf κ a hA p1 h_p1 p2 h_p2 s23) rfl (fun r24 s25 h_r24 w_s25 => ?_)
      refine q_isub d_X12_share_84 ?_
      refine q_istore d_X12_share_85 rfl ?_
      refine q_iload (x := x4) d_X12_share_87 rfl ?_
      refine q_iload (x := wr (r22 - r24)) d_X12_share_89 rfl ?_
      refine q_jn (α := Int → Res) (fun j110 => ∀ (y26 : Int) (h_y26 : y26 = 0 ∨ y26 = 1), EO κ M_X12_share R_X12_share 110 [some (vr κ a), some (vi p1), some (vi p2), some (vi (wr (x3 - (wr (Int.tdiv (wr (p1 * (s0 (a + 1) (wr (242 + x5))))) r19))))), none, some (vi x5), none] [vi y26, vi x4] s25 (j110 y26)) ?_ (fun j110 hj110 => ?_)
      · intro y26 h_y26
        refine q_iadd d_X12_share_110 ?_
        refine q_istore d_X12_share_111 rfl ?_
        refine q_iinc (x := x5) d_X12_share_113 rfl rfl ?_
        refine q_goto d_X12_share_116 ?_
        refine q_sub (ls' := [some (vr κ a), some (vi p1), some (vi p2), some (vi (wr (x3 - (wr (Int.tdiv (wr (p1 * (s0 (a + 1) (wr (242 + x5))))) r19))))), some (vi (wr (x4 + y26))), some (vi (wr (x5 + 1))), none]) ⟨rfl, rfl, rfl, rfl, rfl, rfl, trivial⟩ ?_
        exact ih (wr (x3 - (wr (Int.tdiv (wr (p1 * (s0 (a + 1) (wr (242 + x5))))) r19)))) (inr_wr _) (wr (x4 + y26)) (inr_wr _) (wr (x5 + 1)) (inr_wr _) s25 w_s25
      refine q_jn (α := Unit → Res) (fun j105 => EO κ M_X12_share R_X12_share 105 [some (vr κ a), some (vi p1), some (vi p2), some (vi (wr (x3 - (wr (Int.tdiv (wr (p1 * (s0 (a + 1) (wr (242 + x5))))) r19))))), none, some (vi x5), none] [vi x4] s25 (j105 ())) ?_ (fun j105 hj105 => ?_)
      · refine q_iconst d_X12_share_105 ?_
        refine q_goto d_X12_share_106 ?_
        refine q_sub (ls' := [some (vr κ a), some (vi p1), some (vi p2), some (vi (wr (x3 - (wr (Int.tdiv (wr (p1 * (s0 (a + 1) (wr (242 + x5))))) r19))))), none, some (vi x5), none]) ⟨rfl, rfl, rfl, rfl, rfl, trivial⟩ ?_
        exact hj110 1 (Or.inr rfl)
      refine q_if_gt d_X12_share_91 (inr_wr _) (fun c27 => ?_) (fun c27 => ?_)
      · refine q_sub (ls' := [some (vr κ a), some (vi p1), some (vi p2), some (vi (wr (x3 - (wr (Int.tdiv (wr (p1 * (s0 (a + 1) (wr (242 + x5))))) r19))))), none, some (vi x5), none]) ⟨rfl, rfl, rfl, rfl, rfl, trivial⟩ ?_
        exact hj105 
      · refine q_iload (x := wr (r22 - r24)) d_X12_share_94 rfl ?_
        refine q_jn (α := Unit → Res) (fun j109 => EO κ M_X12_share R_X12_share 109 [some (vr κ a), some (vi p1), some (vi p2), some (vi (wr (x3 - (wr (Int.tdiv (wr (p1 * (s0 (a + 1) (wr (242 + x5))))) r19))))), none, some (vi x5), none] [vi x4] s25 (j109 ())) ?_ (fun j109 hj109 => ?_)
        · refine q_iconst d_X12_share_109 ?_
          refine q_sub (ls' := [some (vr κ a), some (vi p1), some (vi p2), some (vi (wr (x3 - (wr (Int.tdiv (wr (p1 * (s0 (a + 1) (wr (242 + x5))))) r19))))), none, some (vi x5), none]) ⟨rfl, rfl, rfl, rfl, rfl, trivial⟩ ?_
          exact hj110 0 (Or.inl rfl)
        refine q_if_ne d_X12_share_96 (inr_wr _) (fun c28 => ?_) (fun c28 => ?_)
        · refine q_iload (x := x5) d_X12_share_99 rfl ?_
          refine q_iload_n (x := p2) d_X12_share_101 rfl ?_
          refine q_icmp_ge d_X12_share_102 h_x5 h_p2 (fun c29 => ?_) (fun c29 => ?_)
          · refine q_sub (ls' := [some (vr κ a), some (vi p1), some (vi p2), some (vi (wr (x3 - (wr (Int.tdiv (wr (p1 * (s0 (a + 1) (wr (242 + x5))))) r19))))), none, some (vi x5), none]) ⟨rfl, rfl, rfl, rfl, rfl, trivial⟩ ?_
            exact hj105 
          · refine q_sub (ls' := [some (vr κ a), some (vi p1), some (vi p2), some (vi (wr (x3 - (wr (Int.tdiv (wr (p1 * (s0 (a + 1) (wr (242 + x5))))) r19))))), none, some (vi x5), none]) ⟨rfl, rfl, rfl, rfl, rfl, trivial⟩ ?_
            exact hj109 
        · refine q_sub (ls' := [some (vr κ a), some (vi p1), some (vi p2), some (vi (wr (x3 - (wr (Int.tdiv (wr (p1 * (s0 (a + 1) (wr (242 + x5))))) r19))))), none, some (vi x5), none]) ⟨rfl, rfl, rfl, rfl, rfl, trivial⟩ ?_
          exact hj109 
    · refine q_sub (ls' := [some (vr κ a), some (vi p1), some (vi p2), some (vi x3), some (vi x4), none, none]) ⟨rfl, rfl, rfl, rfl, rfl, trivial⟩ ?_
      exact hk119 x3 h_x3 x4 h_x4 s0 w_s0
set_option maxHeartbeats 4000000 in
set_option maxRecDepth 10000 in
theorem c_X12_share (κ : Kp) (a : Nat) (hA : At12 κ a) (x1 : Int) (h_x1 : InR x1) (x2 : Int) (h_x2 : InR x2) (s0 : Mem) : ∀ r σ', f_X12_share a x1 x2 s0 = some (r, σ') → Ct κ M_X12_share R_X12_share [vr κ a, vi x1, vi x2] s0 r σ' := by
  intro r σ' ho
  refine Ct.of (by decide) (Nat.le_of_ble_eq_true rfl) (cat_ok rfl) (fun w_s0 => ?_) ⟨rfl, rfl⟩
  refine q_ent (ls' := [some (vr κ a), some (vi x1), some (vi x2), none, none, none, none]) (o := f_X12_share a x1 x2 s0) ⟨rfl, rfl, rfl, trivial⟩ ?_ ho
  unfold f_X12_share
  refine q_iload_n (x := x1) d_X12_share_0 rfl ?_
  refine q_iconst d_X12_share_1 ?_
  refine q_sipush d_X12_share_2 rfl ?_
  refine q_callZ (R' := R_X12_isIn) (runS (As := [vi x1, vi 0, vi 9999]) (rest := []) d_X12_share_5.1 cv_12_60 rfl ⟨rfl, rfl, by decide, by decide⟩ (Nat.le_of_ble_eq_true rfl) w_s0 rfl) d_X12_share_5.2 (c_X12_isIn κ x1 h_x1 0 (inr_b (Or.inl rfl)) 9999 (inr_d rfl) s0) rfl (fun r1 s2 h_r1 w_s2 => ?_)
  refine q_if_eq d_X12_share_8 (inr_b h_r1) (fun c3 => ?_) (fun c3 => ?_)
  · refine q_iconst d_X12_share_28 ?_
    exact q_ireti d_X12_share_29 rfl (inr_d rfl) w_s2
  · refine q_iload_n (x := x2) d_X12_share_11 rfl ?_
    refine q_iconst d_X12_share_12 ?_
    refine q_aload_n d_X12_share_13 rfl ?_
    refine q_getR (n := 1) d_X12_share_14 hA.1 fi_12_7 rfl (Nat.le_of_ble_eq_true rfl) ?_
    refine q_bipush d_X12_share_17 rfl ?_
    refine q_iaload (m := 1732) d_X12_share_19 hA.2.1 (by decide) rfl (fun g4 => ?_)
    refine q_iconst d_X12_share_20 ?_
    refine q_isub d_X12_share_21 ?_
    refine q_callZ (R' := R_X12_isIn) (runS (As := [vi x2, vi 0, vi (wr ((s2 (a + 1) 64) - 1))]) (rest := []) d_X12_share_22.1 cv_12_60 rfl ⟨rfl, rfl, by decide, by decide⟩ (Nat.le_of_ble_eq_true rfl) w_s2 rfl) d_X12_share_22.2 (c_X12_isIn κ x2 h_x2 0 (inr_b (Or.inl rfl)) (wr ((s2 (a + 1) 64) - 1)) (inr_wr _) s2) rfl (fun r5 s6 h_r5 w_s6 => ?_)
    refine q_if_ne d_X12_share_25 (inr_b h_r5) (fun c7 => ?_) (fun c7 => ?_)
    · refine q_iconst d_X12_share_28 ?_
      exact q_ireti d_X12_share_29 rfl (inr_d rfl) w_s6
    · refine q_iload_n (x := x1) d_X12_share_30 rfl ?_
      refine q_istore_n d_X12_share_31 rfl ?_
      refine q_iconst d_X12_share_32 ?_
      refine q_istore d_X12_share_33 rfl ?_
      refine q_iconst d_X12_share_35 ?_
      refine q_istore d_X12_share_36 rfl ?_
      refine q_jn (α := Int → Int → Mem → Res) (fun j119 => ∀ (v8 : Int) (h_v8 : InR v8) (v9 : Int) (h_v9 : InR v9) (s10 : Mem) (w_s10 : WF s10), EO κ M_X12_share R_X12_share 119 [some (vr κ a), some (vi x1), some (vi x2), some (vi v8), some (vi v9), none, none] [] s10 (j119 v8 v9 s10)) ?_ (fun j119 hj119 => ?_)
      · intro v8 h_v8 v9 h_v9 s10 w_s10
        refine q_iload_n (x := x1) d_X12_share_119 rfl ?_
        refine q_aload_n d_X12_share_120 rfl ?_
        refine q_getR (n := 1) d_X12_share_121 hA.1 fi_12_7 rfl (Nat.le_of_ble_eq_true rfl) ?_
        refine q_sipush d_X12_share_124 rfl ?_
        refine q_iload_n (x := x2) d_X12_share_127 rfl ?_
        refine q_iadd d_X12_share_128 ?_
        refine q_iaload (m := 1732) d_X12_share_129 hA.2.1 (by decide) rfl (fun g11 => ?_)
        refine q_imul d_X12_share_130 ?_
        refine q_aload_n d_X12_share_131 rfl ?_
        refine q_callI (R' := R_X12_marked) (runV (As := []) (rest := [vi (wr (x1 * (s10 (a + 1) (wr (242 + x2)))))]) d_X12_share_132.1 cv_12_418 rfl hA.1 rfl rfl ⟨rfl, rfl, by decide, by decide⟩ (Nat.le_of_ble_eq_true rfl) w_s10 rfl) d_X12_share_132.2 (c_X12_marked κ a hA s10) rfl (fun r12 s13 h_r12 w_s13 => ?_)
        refine q_idiv d_X12_share_135 (inr_wr _) h_r12 (fun g14 => ?_)
        refine q_iload (x := v9) d_X12_share_136 rfl ?_
        refine q_iload_n (x := v8) d_X12_share_138 rfl ?_
        refine q_icmp_ge d_X12_share_139 h_v9 h_v8 (fun c15 => ?_) (fun c15 => ?_)
        · refine q_iconst d_X12_share_142 ?_
          refine q_goto d_X12_share_143 ?_
          refine q_iadd d_X12_share_147 ?_
          exact q_ireti d_X12_share_148 rfl (inr_wr _) w_s13
        · refine q_iconst d_X12_share_146 ?_
          refine q_iadd d_X12_share_147 ?_
          exact q_ireti d_X12_share_148 rfl (inr_wr _) w_s13
      refine q_sub (ls' := [some (vr κ a), some (vi x1), some (vi x2), some (vi x1), some (vi 0), some (vi 0), none]) ⟨rfl, rfl, rfl, rfl, rfl, rfl, trivial⟩ ?_
      exact l_X12_share_38 κ a hA x1 h_x1 x2 h_x2 j119 hj119 FU x1 h_x1 0 (inr_b (Or.inl rfl)) 0 (inr_b (Or.inl rfl)) s6 w_s6
abbrev R_X12_boatsAt : Room := { frames := 3, cells := 0, slots := 0, locals := 64 }
noncomputable def f_X12_boatsAt_4 (a : Nat) (p1 : Int) (k50 : Int → Mem → Res) : Nat → Int → Int → Mem → Res
  | 0, _, _, _ => none
  | n + 1, x2, x3, s0 =>
    gd ((0 : Int) ≤ 58 ∧ (58 : Int) < 1732) (if x3 < s0 (a + 1) 58 then (bd (f_X12_isAfloat a x3 s0) fun r5 s6 => jn (fun (y7 : Int) => f_X12_boatsAt_4 a p1 k50 n (wr (x2 + y7)) (wr (x3 + 1)) s6) fun j42 => jn (fun (_ : Unit) => j42 0) fun j41 => if r5 = 0 then (j41 ()) else (gd ((0 : Int) ≤ wr (7 + x3) ∧ wr (7 + x3) < 1732) (if s6 (a + 1) (wr (7 + x3)) = p1 then (j42 1) else (j41 ())))) else (k50 x2 s0))
noncomputable def f_X12_boatsAt (a : Nat) (x1 : Int) (s0 : Mem) : Res :=
  jn (fun (v1 : Int) (s2 : Mem) => some (v1, s2)) fun j50 => f_X12_boatsAt_4 a x1 j50 FU 0 0 s0
set_option maxHeartbeats 4000000 in
set_option maxRecDepth 10000 in
theorem l_X12_boatsAt_4 (κ : Kp) (a : Nat) (hA : At12 κ a) (p1 : Int) (h_p1 : InR p1) (k50 : Int → Mem → Res) (hk50 : ∀ (z2 : Int) (h_z2 : InR z2) (sz : Mem) (w_sz : WF sz), EO κ M_X12_boatsAt R_X12_boatsAt 50 [none, none, some (vi z2), none] [] sz (k50 z2 sz)) : ∀ (n : Nat) (x2 : Int) (h_x2 : InR x2) (x3 : Int) (h_x3 : InR x3) (s0 : Mem) (w_s0 : WF s0), EO κ M_X12_boatsAt R_X12_boatsAt 4 [some (vr κ a), some (vi p1), some (vi x2), some (vi x3)] [] s0 (f_X12_boatsAt_4 a p1 k50 n x2 x3 s0) := by
  intro n
  induction n with
  | zero => exact fun _ _ _ _ _ _ => q_none
  | succ n ih =>
    intro x2 h_x2 x3 h_x3 s0 w_s0
    rw [f_X12_boatsAt_4]
    refine q_iload_n (x := x3) d_X12_boatsAt_4 rfl ?_
    refine q_aload_n d_X12_boatsAt_5 rfl ?_
    refine q_getR (n := 1) d_X12_boatsAt_6 hA.1 fi_12_7 rfl (Nat.le_of_ble_eq_true rfl) ?_
    refine q_bipush d_X12_boatsAt_9 rfl ?_
    refine q_iaload (m := 1732) d_X12_boatsAt_11 hA.2.1 (by decide) rfl (fun g3 => ?_)
    refine q_icmp_ge d_X12_boatsAt_12 h_x3 (w_s0 _ _) (fun c4 => ?_) (fun c4 => ?_)
    · refine q_iload_n (x := x2) d_X12_boatsAt_15 rfl ?_
      refine q_aload_n d_X12_boatsAt_16 rfl ?_
      refine q_iload_n (x := x3) d_X12_boatsAt_17 rfl ?_
      refine q_callZ (R' := R_X12_isAfloat) (runV (As := [vi x3]) (rest := [vi x2]) d_X12_boatsAt_18.1 cv_12_335 rfl hA.1 rfl rfl ⟨rfl, rfl, by decide, by decide⟩ (Nat.le_of_ble_eq_true rfl) w_s0 rfl) d_X12_boatsAt_18.2 (c_X12_isAfloat κ a hA x3 h_x3 s0) rfl (fun r5 s6 h_r5 w_s6 => ?_)
      refine q_jn (α := Int → Res) (fun j42 => ∀ (y7 : Int) (h_y7 : y7 = 0 ∨ y7 = 1), EO κ M_X12_boatsAt R_X12_boatsAt 42 [some (vr κ a), some (vi p1), none, some (vi x3)] [vi y7, vi x2] s6 (j42 y7)) ?_ (fun j42 hj42 => ?_)
      · intro y7 h_y7
        refine q_iadd d_X12_boatsAt_42 ?_
        refine q_istore_n d_X12_boatsAt_43 rfl ?_
        refine q_iinc (x := x3) d_X12_boatsAt_44 rfl rfl ?_
        refine q_goto d_X12_boatsAt_47 ?_
        refine q_sub (ls' := [some (vr κ a), some (vi p1), some (vi (wr (x2 + y7))), some (vi (wr (x3 + 1)))]) ⟨rfl, rfl, rfl, rfl, trivial⟩ ?_
        exact ih (wr (x2 + y7)) (inr_wr _) (wr (x3 + 1)) (inr_wr _) s6 w_s6
      refine q_jn (α := Unit → Res) (fun j41 => EO κ M_X12_boatsAt R_X12_boatsAt 41 [some (vr κ a), some (vi p1), none, some (vi x3)] [vi x2] s6 (j41 ())) ?_ (fun j41 hj41 => ?_)
      · refine q_iconst d_X12_boatsAt_41 ?_
        refine q_sub (ls' := [some (vr κ a), some (vi p1), none, some (vi x3)]) ⟨rfl, rfl, rfl, trivial⟩ ?_
        exact hj42 0 (Or.inl rfl)
      refine q_if_eq d_X12_boatsAt_21 (inr_b h_r5) (fun c8 => ?_) (fun c8 => ?_)
      · refine q_sub (ls' := [some (vr κ a), some (vi p1), none, some (vi x3)]) ⟨rfl, rfl, rfl, trivial⟩ ?_
        exact hj41 
      · refine q_aload_n d_X12_boatsAt_24 rfl ?_
        refine q_getR (n := 1) d_X12_boatsAt_25 hA.1 fi_12_7 rfl (Nat.le_of_ble_eq_true rfl) ?_
        refine q_bipush d_X12_boatsAt_28 rfl ?_
        refine q_iload_n (x := x3) d_X12_boatsAt_30 rfl ?_
        refine q_iadd d_X12_boatsAt_31 ?_
        refine q_iaload (m := 1732) d_X12_boatsAt_32 hA.2.1 (by decide) rfl (fun g9 => ?_)
        refine q_iload_n (x := p1) d_X12_boatsAt_33 rfl ?_
        refine q_icmp_ne d_X12_boatsAt_34 (w_s6 _ _) h_p1 (fun c10 => ?_) (fun c10 => ?_)
        · refine q_iconst d_X12_boatsAt_37 ?_
          refine q_goto d_X12_boatsAt_38 ?_
          refine q_sub (ls' := [some (vr κ a), some (vi p1), none, some (vi x3)]) ⟨rfl, rfl, rfl, trivial⟩ ?_
          exact hj42 1 (Or.inr rfl)
        · refine q_sub (ls' := [some (vr κ a), some (vi p1), none, some (vi x3)]) ⟨rfl, rfl, rfl, trivial⟩ ?_
          exact hj41 
    · refine q_sub (ls' := [none, none, some (vi x2), none]) ⟨rfl, trivial⟩ ?_
      exact hk50 x2 h_x2 s0 w_s0
set_option maxHeartbeats 4000000 in
set_option maxRecDepth 10000 in
theorem c_X12_boatsAt (κ : Kp) (a : Nat) (hA : At12 κ a) (x1 : Int) (h_x1 : InR x1) (s0 : Mem) : ∀ r σ', f_X12_boatsAt a x1 s0 = some (r, σ') → Ct κ M_X12_boatsAt R_X12_boatsAt [vr κ a, vi x1] s0 r σ' := by
  intro r σ' ho
  refine Ct.of (by decide) (Nat.le_of_ble_eq_true rfl) (cat_ok rfl) (fun w_s0 => ?_) ⟨rfl, rfl⟩
  refine q_ent (ls' := [some (vr κ a), some (vi x1), none, none]) (o := f_X12_boatsAt a x1 s0) ⟨rfl, rfl, trivial⟩ ?_ ho
  unfold f_X12_boatsAt
  refine q_iconst d_X12_boatsAt_0 ?_
  refine q_istore_n d_X12_boatsAt_1 rfl ?_
  refine q_iconst d_X12_boatsAt_2 ?_
  refine q_istore_n d_X12_boatsAt_3 rfl ?_
  refine q_jn (α := Int → Mem → Res) (fun j50 => ∀ (v1 : Int) (h_v1 : InR v1) (s2 : Mem) (w_s2 : WF s2), EO κ M_X12_boatsAt R_X12_boatsAt 50 [none, none, some (vi v1), none] [] s2 (j50 v1 s2)) ?_ (fun j50 hj50 => ?_)
  · intro v1 h_v1 s2 w_s2
    refine q_iload_n (x := v1) d_X12_boatsAt_50 rfl ?_
    exact q_ireti d_X12_boatsAt_51 rfl h_v1 w_s2
  refine q_sub (ls' := [some (vr κ a), some (vi x1), some (vi 0), some (vi 0)]) ⟨rfl, rfl, rfl, rfl, trivial⟩ ?_
  exact l_X12_boatsAt_4 κ a hA x1 h_x1 j50 hj50 FU 0 (inr_b (Or.inl rfl)) 0 (inr_b (Or.inl rfl)) s0 w_s0
abbrev R_X12_crowd : Room := { frames := 4, cells := 0, slots := 0, locals := 87 }
noncomputable def f_X12_crowd_18 (a : Nat) (k78 : Int → Int → Mem → Res) : Nat → Int → Int → Int → Mem → Res
  | 0, _, _, _, _ => none
  | n + 1, x2, x3, x4, s0 =>
    if x4 < 16 then (bd (f_X12_boatsAt a x4 s0) fun r15 s16 => bd (f_X12_boatsAt a x2 s16) fun r17 s18 => jn (fun (y19 : Int) => bd (f_X12_boatsAt a x4 s18) fun r20 s21 => jn (fun (y22 : Int) => f_X12_crowd_18 a k78 n y19 (wr (x3 + y22)) (wr (x4 + 1)) s21) fun j70 => if 0 < r20 then (gd ((0 : Int) ≤ wr (85 + x4) ∧ wr (85 + x4) < 1732) (j70 (s21 (a + 1) (wr (85 + x4))))) else (j70 0)) fun j45 => if r17 < r15 then (j45 x4) else (j45 x2)) else (k78 x2 x3 s0)
noncomputable def f_X12_crowd (a : Nat) (x1 : Int) (s0 : Mem) : Res :=
  bd (f_X12_isIn x1 0 2 s0) fun r1 s2 => if r1 = 0 then (some ((-1), s2)) else (jn (fun (v4 : Int) (v5 : Int) (s6 : Mem) => if x1 = 2 then (some (v5, s6)) else (if x1 = 1 then (bd (f_X12_boatsAt a v4 s6) fun r9 s10 => some (r9, s10)) else (bd (f_X12_boatsAt a v4 s6) fun r11 s12 => if r11 = 0 then (some ((-1), s12)) else (some (v4, s12))))) fun j78 => f_X12_crowd_18 a j78 FU 0 0 0 s2)
set_option maxHeartbeats 4000000 in
set_option maxRecDepth 10000 in
theorem l_X12_crowd_18 (κ : Kp) (a : Nat) (hA : At12 κ a) (p1 : Int) (h_p1 : InR p1) (k78 : Int → Int → Mem → Res) (hk78 : ∀ (z2 : Int) (h_z2 : InR z2) (z3 : Int) (h_z3 : InR z3) (sz : Mem) (w_sz : WF sz), EO κ M_X12_crowd R_X12_crowd 78 [some (vr κ a), some (vi p1), some (vi z2), some (vi z3), none] [] sz (k78 z2 z3 sz)) : ∀ (n : Nat) (x2 : Int) (h_x2 : InR x2) (x3 : Int) (h_x3 : InR x3) (x4 : Int) (h_x4 : InR x4) (s0 : Mem) (w_s0 : WF s0), EO κ M_X12_crowd R_X12_crowd 18 [some (vr κ a), some (vi p1), some (vi x2), some (vi x3), some (vi x4)] [] s0 (f_X12_crowd_18 a k78 n x2 x3 x4 s0) := by
  intro n
  induction n with
  | zero => exact fun _ _ _ _ _ _ _ _ => q_none
  | succ n ih =>
    intro x2 h_x2 x3 h_x3 x4 h_x4 s0 w_s0
    rw [f_X12_crowd_18]
    refine q_iload (x := x4) d_X12_crowd_18 rfl ?_
    refine q_bipush d_X12_crowd_20 rfl ?_
    refine q_icmp_ge d_X12_crowd_22 h_x4 (inr_d rfl) (fun c14 => ?_) (fun c14 => ?_)
    · refine q_aload_n d_X12_crowd_25 rfl ?_
      refine q_iload (x := x4) d_X12_crowd_26 rfl ?_
      refine q_callI (R' := R_X12_boatsAt) (runV (As := [vi x4]) (rest := []) d_X12_crowd_28.1 cv_12_424 rfl hA.1 rfl rfl ⟨rfl, rfl, by decide, by decide⟩ (Nat.le_of_ble_eq_true rfl) w_s0 rfl) d_X12_crowd_28.2 (c_X12_boatsAt κ a hA x4 h_x4 s0) rfl (fun r15 s16 h_r15 w_s16 => ?_)
      refine q_aload_n d_X12_crowd_31 rfl ?_
      refine q_iload_n (x := x2) d_X12_crowd_32 rfl ?_
      refine q_callI (R' := R_X12_boatsAt) (runV (As := [vi x2]) (rest := [vi r15]) d_X12_crowd_33.1 cv_12_424 rfl hA.1 rfl rfl ⟨rfl, rfl, by decide, by decide⟩ (Nat.le_of_ble_eq_true rfl) w_s16 rfl) d_X12_crowd_33.2 (c_X12_boatsAt κ a hA x2 h_x2 s16) rfl (fun r17 s18 h_r17 w_s18 => ?_)
      refine q_jn (α := Int → Res) (fun j45 => ∀ (y19 : Int) (h_y19 : InR y19), EO κ M_X12_crowd R_X12_crowd 45 [some (vr κ a), some (vi p1), none, some (vi x3), some (vi x4)] [vi y19] s18 (j45 y19)) ?_ (fun j45 hj45 => ?_)
      · intro y19 h_y19
        refine q_istore_n d_X12_crowd_45 rfl ?_
        refine q_iload_n (x := x3) d_X12_crowd_46 rfl ?_
        refine q_aload_n d_X12_crowd_47 rfl ?_
        refine q_iload (x := x4) d_X12_crowd_48 rfl ?_
        refine q_callI (R' := R_X12_boatsAt) (runV (As := [vi x4]) (rest := [vi x3]) d_X12_crowd_50.1 cv_12_424 rfl hA.1 rfl rfl ⟨rfl, rfl, by decide, by decide⟩ (Nat.le_of_ble_eq_true rfl) w_s18 rfl) d_X12_crowd_50.2 (c_X12_boatsAt κ a hA x4 h_x4 s18) rfl (fun r20 s21 h_r20 w_s21 => ?_)
        refine q_jn (α := Int → Res) (fun j70 => ∀ (y22 : Int) (h_y22 : InR y22), EO κ M_X12_crowd R_X12_crowd 70 [some (vr κ a), some (vi p1), some (vi y19), none, some (vi x4)] [vi y22, vi x3] s21 (j70 y22)) ?_ (fun j70 hj70 => ?_)
        · intro y22 h_y22
          refine q_iadd d_X12_crowd_70 ?_
          refine q_istore_n d_X12_crowd_71 rfl ?_
          refine q_iinc (x := x4) d_X12_crowd_72 rfl rfl ?_
          refine q_goto d_X12_crowd_75 ?_
          refine q_sub (ls' := [some (vr κ a), some (vi p1), some (vi y19), some (vi (wr (x3 + y22))), some (vi (wr (x4 + 1)))]) ⟨rfl, rfl, rfl, rfl, rfl, trivial⟩ ?_
          exact ih y19 h_y19 (wr (x3 + y22)) (inr_wr _) (wr (x4 + 1)) (inr_wr _) s21 w_s21
        refine q_if_le d_X12_crowd_53 h_r20 (fun c23 => ?_) (fun c23 => ?_)
        · refine q_aload_n d_X12_crowd_56 rfl ?_
          refine q_getR (n := 1) d_X12_crowd_57 hA.1 fi_12_7 rfl (Nat.le_of_ble_eq_true rfl) ?_
          refine q_bipush d_X12_crowd_60 rfl ?_
          refine q_iload (x := x4) d_X12_crowd_62 rfl ?_
          refine q_iadd d_X12_crowd_64 ?_
          refine q_iaload (m := 1732) d_X12_crowd_65 hA.2.1 (by decide) rfl (fun g24 => ?_)
          refine q_goto d_X12_crowd_66 ?_
          refine q_sub (ls' := [some (vr κ a), some (vi p1), some (vi y19), none, some (vi x4)]) ⟨rfl, rfl, rfl, rfl, trivial⟩ ?_
          exact hj70 (s21 (a + 1) (wr (85 + x4))) (w_s21 _ _)
        · refine q_iconst d_X12_crowd_69 ?_
          refine q_sub (ls' := [some (vr κ a), some (vi p1), some (vi y19), none, some (vi x4)]) ⟨rfl, rfl, rfl, rfl, trivial⟩ ?_
          exact hj70 0 (inr_b (Or.inl rfl))
      refine q_icmp_le d_X12_crowd_36 h_r15 h_r17 (fun c25 => ?_) (fun c25 => ?_)
      · refine q_iload (x := x4) d_X12_crowd_39 rfl ?_
        refine q_goto d_X12_crowd_41 ?_
        refine q_sub (ls' := [some (vr κ a), some (vi p1), none, some (vi x3), some (vi x4)]) ⟨rfl, rfl, rfl, rfl, trivial⟩ ?_
        exact hj45 x4 h_x4
      · refine q_iload_n (x := x2) d_X12_crowd_44 rfl ?_
        refine q_sub (ls' := [some (vr κ a), some (vi p1), none, some (vi x3), some (vi x4)]) ⟨rfl, rfl, rfl, rfl, trivial⟩ ?_
        exact hj45 x2 h_x2
    · refine q_sub (ls' := [some (vr κ a), some (vi p1), some (vi x2), some (vi x3), none]) ⟨rfl, rfl, rfl, rfl, trivial⟩ ?_
      exact hk78 x2 h_x2 x3 h_x3 s0 w_s0
set_option maxHeartbeats 4000000 in
set_option maxRecDepth 10000 in
theorem c_X12_crowd (κ : Kp) (a : Nat) (hA : At12 κ a) (x1 : Int) (h_x1 : InR x1) (s0 : Mem) : ∀ r σ', f_X12_crowd a x1 s0 = some (r, σ') → Ct κ M_X12_crowd R_X12_crowd [vr κ a, vi x1] s0 r σ' := by
  intro r σ' ho
  refine Ct.of (by decide) (Nat.le_of_ble_eq_true rfl) (cat_ok rfl) (fun w_s0 => ?_) ⟨rfl, rfl⟩
  refine q_ent (ls' := [some (vr κ a), some (vi x1), none, none, none]) (o := f_X12_crowd a x1 s0) ⟨rfl, rfl, trivial⟩ ?_ ho
  unfold f_X12_crowd
  refine q_iload_n (x := x1) d_X12_crowd_0 rfl ?_
  refine q_iconst d_X12_crowd_1 ?_
  refine q_iconst d_X12_crowd_2 ?_
  refine q_callZ (R' := R_X12_isIn) (runS (As := [vi x1, vi 0, vi 2]) (rest := []) d_X12_crowd_3.1 cv_12_60 rfl ⟨rfl, rfl, by decide, by decide⟩ (Nat.le_of_ble_eq_true rfl) w_s0 rfl) d_X12_crowd_3.2 (c_X12_isIn κ x1 h_x1 0 (inr_b (Or.inl rfl)) 2 (inr_d rfl) s0) rfl (fun r1 s2 h_r1 w_s2 => ?_)
  refine q_if_ne d_X12_crowd_6 (inr_b h_r1) (fun c3 => ?_) (fun c3 => ?_)
  · refine q_iconst d_X12_crowd_9 ?_
    exact q_ireti d_X12_crowd_10 rfl (inr_d rfl) w_s2
  · refine q_iconst d_X12_crowd_11 ?_
    refine q_istore_n d_X12_crowd_12 rfl ?_
    refine q_iconst d_X12_crowd_13 ?_
    refine q_istore_n d_X12_crowd_14 rfl ?_
    refine q_iconst d_X12_crowd_15 ?_
    refine q_istore d_X12_crowd_16 rfl ?_
    refine q_jn (α := Int → Int → Mem → Res) (fun j78 => ∀ (v4 : Int) (h_v4 : InR v4) (v5 : Int) (h_v5 : InR v5) (s6 : Mem) (w_s6 : WF s6), EO κ M_X12_crowd R_X12_crowd 78 [some (vr κ a), some (vi x1), some (vi v4), some (vi v5), none] [] s6 (j78 v4 v5 s6)) ?_ (fun j78 hj78 => ?_)
    · intro v4 h_v4 v5 h_v5 s6 w_s6
      refine q_iload_n (x := x1) d_X12_crowd_78 rfl ?_
      refine q_iconst d_X12_crowd_79 ?_
      refine q_icmp_ne d_X12_crowd_80 h_x1 (inr_d rfl) (fun c7 => ?_) (fun c7 => ?_)
      · refine q_iload_n (x := v5) d_X12_crowd_83 rfl ?_
        refine q_goto d_X12_crowd_84 ?_
        exact q_ireti d_X12_crowd_113 rfl h_v5 w_s6
      · refine q_iload_n (x := x1) d_X12_crowd_87 rfl ?_
        refine q_iconst d_X12_crowd_88 ?_
        refine q_icmp_ne d_X12_crowd_89 h_x1 (inr_b (Or.inr rfl)) (fun c8 => ?_) (fun c8 => ?_)
        · refine q_aload_n d_X12_crowd_92 rfl ?_
          refine q_iload_n (x := v4) d_X12_crowd_93 rfl ?_
          refine q_callI (R' := R_X12_boatsAt) (runV (As := [vi v4]) (rest := []) d_X12_crowd_94.1 cv_12_424 rfl hA.1 rfl rfl ⟨rfl, rfl, by decide, by decide⟩ (Nat.le_of_ble_eq_true rfl) w_s6 rfl) d_X12_crowd_94.2 (c_X12_boatsAt κ a hA v4 h_v4 s6) rfl (fun r9 s10 h_r9 w_s10 => ?_)
          refine q_goto d_X12_crowd_97 ?_
          exact q_ireti d_X12_crowd_113 rfl h_r9 w_s10
        · refine q_aload_n d_X12_crowd_100 rfl ?_
          refine q_iload_n (x := v4) d_X12_crowd_101 rfl ?_
          refine q_callI (R' := R_X12_boatsAt) (runV (As := [vi v4]) (rest := []) d_X12_crowd_102.1 cv_12_424 rfl hA.1 rfl rfl ⟨rfl, rfl, by decide, by decide⟩ (Nat.le_of_ble_eq_true rfl) w_s6 rfl) d_X12_crowd_102.2 (c_X12_boatsAt κ a hA v4 h_v4 s6) rfl (fun r11 s12 h_r11 w_s12 => ?_)
          refine q_if_ne d_X12_crowd_105 h_r11 (fun c13 => ?_) (fun c13 => ?_)
          · refine q_iconst d_X12_crowd_108 ?_
            refine q_goto d_X12_crowd_109 ?_
            exact q_ireti d_X12_crowd_113 rfl (inr_d rfl) w_s12
          · refine q_iload_n (x := v4) d_X12_crowd_112 rfl ?_
            exact q_ireti d_X12_crowd_113 rfl h_v4 w_s12
    refine q_sub (ls' := [some (vr κ a), some (vi x1), some (vi 0), some (vi 0), some (vi 0)]) ⟨rfl, rfl, rfl, rfl, rfl, trivial⟩ ?_
    exact l_X12_crowd_18 κ a hA x1 h_x1 j78 hj78 FU 0 (inr_b (Or.inl rfl)) 0 (inr_b (Or.inl rfl)) 0 (inr_b (Or.inl rfl)) s2 w_s2
abbrev R_X12_heavy : Room := { frames := 5, cells := 0, slots := 0, locals := 116 }
noncomputable def f_X12_heavy_4 (a : Nat) (k61 : Int → Mem → Res) : Nat → Int → Int → Mem → Res
  | 0, _, _, _ => none
  | n + 1, x2, x3, s0 =>
    gd ((0 : Int) ≤ 58 ∧ (58 : Int) < 1732) (if x3 < s0 (a + 1) 58 then (bd (f_X12_isAfloat a x3 s0) fun r14 s15 => jn (fun (v16 : Int) (s17 : Mem) => f_X12_heavy_4 a k61 n v16 (wr (x3 + 1)) s17) fun j55 => if r14 = 0 then (j55 x2 s15) else (jn (fun (s19 : Mem) => j55 x3 s19) fun j53 => if x2 = (-1) then (j53 s15) else (bd (f_X12_listOf a x3 s15) fun r21 s22 => bd (f_X12_leanOf a x3 s22) fun r23 s24 => bd (f_X12_listOf a x2 s24) fun r25 s26 => bd (f_X12_leanOf a x2 s26) fun r27 s28 => if wr (r21 - r23) < wr (r25 - r27) then (j53 s28) else (j55 x2 s28)))) else (k61 x2 s0))
noncomputable def f_X12_heavy (a : Nat) (x1 : Int) (s0 : Mem) : Res :=
  jn (fun (v1 : Int) (s2 : Mem) => if v1 = (-1) then (some ((-1000), s2)) else (bd (f_X12_isIn x1 0 1 s2) fun r4 s5 => if r4 = 0 then (some ((-1000), s5)) else (if x1 = 0 then (some (v1, s5)) else (bd (f_X12_listOf a v1 s5) fun r8 s9 => bd (f_X12_leanOf a v1 s9) fun r10 s11 => some (wr (r8 - r10), s11))))) fun j61 => f_X12_heavy_4 a j61 FU (-1) 0 s0
set_option maxHeartbeats 4000000 in
set_option maxRecDepth 10000 in
theorem l_X12_heavy_4 (κ : Kp) (a : Nat) (hA : At12 κ a) (p1 : Int) (h_p1 : InR p1) (k61 : Int → Mem → Res) (hk61 : ∀ (z2 : Int) (h_z2 : InR z2) (sz : Mem) (w_sz : WF sz), EO κ M_X12_heavy R_X12_heavy 61 [some (vr κ a), some (vi p1), some (vi z2), none] [] sz (k61 z2 sz)) : ∀ (n : Nat) (x2 : Int) (h_x2 : InR x2) (x3 : Int) (h_x3 : InR x3) (s0 : Mem) (w_s0 : WF s0), EO κ M_X12_heavy R_X12_heavy 4 [some (vr κ a), some (vi p1), some (vi x2), some (vi x3)] [] s0 (f_X12_heavy_4 a k61 n x2 x3 s0) := by
  intro n
  induction n with
  | zero => exact fun _ _ _ _ _ _ => q_none
  | succ n ih =>
    intro x2 h_x2 x3 h_x3 s0 w_s0
    rw [f_X12_heavy_4]
    refine q_iload_n (x := x3) d_X12_heavy_4 rfl ?_
    refine q_aload_n d_X12_heavy_5 rfl ?_
    refine q_getR (n := 1) d_X12_heavy_6 hA.1 fi_12_7 rfl (Nat.le_of_ble_eq_true rfl) ?_
    refine q_bipush d_X12_heavy_9 rfl ?_
    refine q_iaload (m := 1732) d_X12_heavy_11 hA.2.1 (by decide) rfl (fun g12 => ?_)
    refine q_icmp_ge d_X12_heavy_12 h_x3 (w_s0 _ _) (fun c13 => ?_) (fun c13 => ?_)
    · refine q_aload_n d_X12_heavy_15 rfl ?_
      refine q_iload_n (x := x3) d_X12_heavy_16 rfl ?_
      refine q_callZ (R' := R_X12_isAfloat) (runV (As := [vi x3]) (rest := []) d_X12_heavy_17.1 cv_12_335 rfl hA.1 rfl rfl ⟨rfl, rfl, by decide, by decide⟩ (Nat.le_of_ble_eq_true rfl) w_s0 rfl) d_X12_heavy_17.2 (c_X12_isAfloat κ a hA x3 h_x3 s0) rfl (fun r14 s15 h_r14 w_s15 => ?_)
      refine q_jn (α := Int → Mem → Res) (fun j55 => ∀ (v16 : Int) (h_v16 : InR v16) (s17 : Mem) (w_s17 : WF s17), EO κ M_X12_heavy R_X12_heavy 55 [some (vr κ a), some (vi p1), some (vi v16), some (vi x3)] [] s17 (j55 v16 s17)) ?_ (fun j55 hj55 => ?_)
      · intro v16 h_v16 s17 w_s17
        refine q_iinc (x := x3) d_X12_heavy_55 rfl rfl ?_
        refine q_goto d_X12_heavy_58 ?_
        refine q_sub (ls' := [some (vr κ a), some (vi p1), some (vi v16), some (vi (wr (x3 + 1)))]) ⟨rfl, rfl, rfl, rfl, trivial⟩ ?_
        exact ih v16 h_v16 (wr (x3 + 1)) (inr_wr _) s17 w_s17
      refine q_if_eq d_X12_heavy_20 (inr_b h_r14) (fun c18 => ?_) (fun c18 => ?_)
      · refine q_sub (ls' := [some (vr κ a), some (vi p1), some (vi x2), some (vi x3)]) ⟨rfl, rfl, rfl, rfl, trivial⟩ ?_
        exact hj55 x2 h_x2 s15 w_s15
      · refine q_iload_n (x := x2) d_X12_heavy_23 rfl ?_
        refine q_iconst d_X12_heavy_24 ?_
        refine q_jn (α := Mem → Res) (fun j53 => ∀ (s19 : Mem) (w_s19 : WF s19), EO κ M_X12_heavy R_X12_heavy 53 [some (vr κ a), some (vi p1), none, some (vi x3)] [] s19 (j53 s19)) ?_ (fun j53 hj53 => ?_)
        · intro s19 w_s19
          refine q_iload_n (x := x3) d_X12_heavy_53 rfl ?_
          refine q_istore_n d_X12_heavy_54 rfl ?_
          refine q_sub (ls' := [some (vr κ a), some (vi p1), some (vi x3), some (vi x3)]) ⟨rfl, rfl, rfl, rfl, trivial⟩ ?_
          exact hj55 x3 h_x3 s19 w_s19
        refine q_icmp_eq d_X12_heavy_25 h_x2 (inr_d rfl) (fun c20 => ?_) (fun c20 => ?_)
        · refine q_sub (ls' := [some (vr κ a), some (vi p1), none, some (vi x3)]) ⟨rfl, rfl, rfl, trivial⟩ ?_
          exact hj53 s15 w_s15
        · refine q_aload_n d_X12_heavy_28 rfl ?_
          refine q_iload_n (x := x3) d_X12_heavy_29 rfl ?_
          refine q_callI (R' := R_X12_listOf) (runV (As := [vi x3]) (rest := []) d_X12_heavy_30.1 cv_12_356 rfl hA.1 rfl rfl ⟨rfl, rfl, by decide, by decide⟩ (Nat.le_of_ble_eq_true rfl) w_s15 rfl) d_X12_heavy_30.2 (c_X12_listOf κ a hA x3 h_x3 s15) rfl (fun r21 s22 h_r21 w_s22 => ?_)
          refine q_aload_n d_X12_heavy_33 rfl ?_
          refine q_iload_n (x := x3) d_X12_heavy_34 rfl ?_
          refine q_callI (R' := R_X12_leanOf) (runV (As := [vi x3]) (rest := [vi r21]) d_X12_heavy_35.1 cv_12_316 rfl hA.1 rfl rfl ⟨rfl, rfl, by decide, by decide⟩ (Nat.le_of_ble_eq_true rfl) w_s22 rfl) d_X12_heavy_35.2 (c_X12_leanOf κ a hA x3 h_x3 s22) rfl (fun r23 s24 h_r23 w_s24 => ?_)
          refine q_isub d_X12_heavy_38 ?_
          refine q_aload_n d_X12_heavy_39 rfl ?_
          refine q_iload_n (x := x2) d_X12_heavy_40 rfl ?_
          refine q_callI (R' := R_X12_listOf) (runV (As := [vi x2]) (rest := [vi (wr (r21 - r23))]) d_X12_heavy_41.1 cv_12_356 rfl hA.1 rfl rfl ⟨rfl, rfl, by decide, by decide⟩ (Nat.le_of_ble_eq_true rfl) w_s24 rfl) d_X12_heavy_41.2 (c_X12_listOf κ a hA x2 h_x2 s24) rfl (fun r25 s26 h_r25 w_s26 => ?_)
          refine q_aload_n d_X12_heavy_44 rfl ?_
          refine q_iload_n (x := x2) d_X12_heavy_45 rfl ?_
          refine q_callI (R' := R_X12_leanOf) (runV (As := [vi x2]) (rest := [vi r25, vi (wr (r21 - r23))]) d_X12_heavy_46.1 cv_12_316 rfl hA.1 rfl rfl ⟨rfl, rfl, by decide, by decide⟩ (Nat.le_of_ble_eq_true rfl) w_s26 rfl) d_X12_heavy_46.2 (c_X12_leanOf κ a hA x2 h_x2 s26) rfl (fun r27 s28 h_r27 w_s28 => ?_)
          refine q_isub d_X12_heavy_49 ?_
          refine q_icmp_ge d_X12_heavy_50 (inr_wr _) (inr_wr _) (fun c29 => ?_) (fun c29 => ?_)
          · refine q_sub (ls' := [some (vr κ a), some (vi p1), none, some (vi x3)]) ⟨rfl, rfl, rfl, trivial⟩ ?_
            exact hj53 s28 w_s28
          · refine q_sub (ls' := [some (vr κ a), some (vi p1), some (vi x2), some (vi x3)]) ⟨rfl, rfl, rfl, rfl, trivial⟩ ?_
            exact hj55 x2 h_x2 s28 w_s28
    · refine q_sub (ls' := [some (vr κ a), some (vi p1), some (vi x2), none]) ⟨rfl, rfl, rfl, trivial⟩ ?_
      exact hk61 x2 h_x2 s0 w_s0
set_option maxHeartbeats 4000000 in
set_option maxRecDepth 10000 in
theorem c_X12_heavy (κ : Kp) (a : Nat) (hA : At12 κ a) (x1 : Int) (h_x1 : InR x1) (s0 : Mem) : ∀ r σ', f_X12_heavy a x1 s0 = some (r, σ') → Ct κ M_X12_heavy R_X12_heavy [vr κ a, vi x1] s0 r σ' := by
  intro r σ' ho
  refine Ct.of (by decide) (Nat.le_of_ble_eq_true rfl) (cat_ok rfl) (fun w_s0 => ?_) ⟨rfl, rfl⟩
  refine q_ent (ls' := [some (vr κ a), some (vi x1), none, none]) (o := f_X12_heavy a x1 s0) ⟨rfl, rfl, trivial⟩ ?_ ho
  unfold f_X12_heavy
  refine q_iconst d_X12_heavy_0 ?_
  refine q_istore_n d_X12_heavy_1 rfl ?_
  refine q_iconst d_X12_heavy_2 ?_
  refine q_istore_n d_X12_heavy_3 rfl ?_
  refine q_jn (α := Int → Mem → Res) (fun j61 => ∀ (v1 : Int) (h_v1 : InR v1) (s2 : Mem) (w_s2 : WF s2), EO κ M_X12_heavy R_X12_heavy 61 [some (vr κ a), some (vi x1), some (vi v1), none] [] s2 (j61 v1 s2)) ?_ (fun j61 hj61 => ?_)
  · intro v1 h_v1 s2 w_s2
    refine q_iload_n (x := v1) d_X12_heavy_61 rfl ?_
    refine q_iconst d_X12_heavy_62 ?_
    refine q_icmp_eq d_X12_heavy_63 h_v1 (inr_d rfl) (fun c3 => ?_) (fun c3 => ?_)
    · refine q_sipush d_X12_heavy_75 rfl ?_
      refine q_goto d_X12_heavy_78 ?_
      exact q_ireti d_X12_heavy_100 rfl (inr_d rfl) w_s2
    · refine q_iload_n (x := x1) d_X12_heavy_66 rfl ?_
      refine q_iconst d_X12_heavy_67 ?_
      refine q_iconst d_X12_heavy_68 ?_
      refine q_callZ (R' := R_X12_isIn) (runS (As := [vi x1, vi 0, vi 1]) (rest := []) d_X12_heavy_69.1 cv_12_60 rfl ⟨rfl, rfl, by decide, by decide⟩ (Nat.le_of_ble_eq_true rfl) w_s2 rfl) d_X12_heavy_69.2 (c_X12_isIn κ x1 h_x1 0 (inr_b (Or.inl rfl)) 1 (inr_b (Or.inr rfl)) s2) rfl (fun r4 s5 h_r4 w_s5 => ?_)
      refine q_if_ne d_X12_heavy_72 (inr_b h_r4) (fun c6 => ?_) (fun c6 => ?_)
      · refine q_sipush d_X12_heavy_75 rfl ?_
        refine q_goto d_X12_heavy_78 ?_
        exact q_ireti d_X12_heavy_100 rfl (inr_d rfl) w_s5
      · refine q_iload_n (x := x1) d_X12_heavy_81 rfl ?_
        refine q_if_ne d_X12_heavy_82 h_x1 (fun c7 => ?_) (fun c7 => ?_)
        · refine q_iload_n (x := v1) d_X12_heavy_85 rfl ?_
          refine q_goto d_X12_heavy_86 ?_
          exact q_ireti d_X12_heavy_100 rfl h_v1 w_s5
        · refine q_aload_n d_X12_heavy_89 rfl ?_
          refine q_iload_n (x := v1) d_X12_heavy_90 rfl ?_
          refine q_callI (R' := R_X12_listOf) (runV (As := [vi v1]) (rest := []) d_X12_heavy_91.1 cv_12_356 rfl hA.1 rfl rfl ⟨rfl, rfl, by decide, by decide⟩ (Nat.le_of_ble_eq_true rfl) w_s5 rfl) d_X12_heavy_91.2 (c_X12_listOf κ a hA v1 h_v1 s5) rfl (fun r8 s9 h_r8 w_s9 => ?_)
          refine q_aload_n d_X12_heavy_94 rfl ?_
          refine q_iload_n (x := v1) d_X12_heavy_95 rfl ?_
          refine q_callI (R' := R_X12_leanOf) (runV (As := [vi v1]) (rest := [vi r8]) d_X12_heavy_96.1 cv_12_316 rfl hA.1 rfl rfl ⟨rfl, rfl, by decide, by decide⟩ (Nat.le_of_ble_eq_true rfl) w_s9 rfl) d_X12_heavy_96.2 (c_X12_leanOf κ a hA v1 h_v1 s9) rfl (fun r10 s11 h_r10 w_s11 => ?_)
          refine q_isub d_X12_heavy_99 ?_
          exact q_ireti d_X12_heavy_100 rfl (inr_wr _) w_s11
  refine q_sub (ls' := [some (vr κ a), some (vi x1), some (vi (-1)), some (vi 0)]) ⟨rfl, rfl, rfl, rfl, trivial⟩ ?_
  exact l_X12_heavy_4 κ a hA x1 h_x1 j61 hj61 FU (-1) (inr_d rfl) 0 (inr_b (Or.inl rfl)) s0 w_s0
abbrev R_X12_heapOf : Room := { frames := 3, cells := 0, slots := 0, locals := 64 }
noncomputable def f_X12_heapOf (a : Nat) (x1 : Int) (s0 : Mem) : Res :=
  bd (f_X12_isAfloat a x1 s0) fun r1 s2 => if r1 = 0 then (some (0, s2)) else (bd (f_X12_leanOf a x1 s2) fun r4 s5 => gd ((0 : Int) ≤ 2 ∧ (2 : Int) < 1732) (gd (wr ((s5 (a + 1) 2) + 2) ≠ 0) (some (Int.tmod r4 (wr ((s5 (a + 1) 2) + 2)), s5))))
set_option maxHeartbeats 4000000 in
set_option maxRecDepth 10000 in
theorem c_X12_heapOf (κ : Kp) (a : Nat) (hA : At12 κ a) (x1 : Int) (h_x1 : InR x1) (s0 : Mem) : ∀ r σ', f_X12_heapOf a x1 s0 = some (r, σ') → Ct κ M_X12_heapOf R_X12_heapOf [vr κ a, vi x1] s0 r σ' := by
  intro r σ' ho
  refine Ct.of (by decide) (Nat.le_of_ble_eq_true rfl) (cat_ok rfl) (fun w_s0 => ?_) ⟨rfl, rfl⟩
  refine q_ent (ls' := [some (vr κ a), some (vi x1)]) (o := f_X12_heapOf a x1 s0) ⟨rfl, rfl, trivial⟩ ?_ ho
  unfold f_X12_heapOf
  refine q_aload_n d_X12_heapOf_0 rfl ?_
  refine q_iload_n (x := x1) d_X12_heapOf_1 rfl ?_
  refine q_callZ (R' := R_X12_isAfloat) (runV (As := [vi x1]) (rest := []) d_X12_heapOf_2.1 cv_12_335 rfl hA.1 rfl rfl ⟨rfl, rfl, by decide, by decide⟩ (Nat.le_of_ble_eq_true rfl) w_s0 rfl) d_X12_heapOf_2.2 (c_X12_isAfloat κ a hA x1 h_x1 s0) rfl (fun r1 s2 h_r1 w_s2 => ?_)
  refine q_if_eq d_X12_heapOf_5 (inr_b h_r1) (fun c3 => ?_) (fun c3 => ?_)
  · refine q_iconst d_X12_heapOf_25 ?_
    exact q_ireti d_X12_heapOf_26 rfl (inr_b (Or.inl rfl)) w_s2
  · refine q_aload_n d_X12_heapOf_8 rfl ?_
    refine q_iload_n (x := x1) d_X12_heapOf_9 rfl ?_
    refine q_callI (R' := R_X12_leanOf) (runV (As := [vi x1]) (rest := []) d_X12_heapOf_10.1 cv_12_316 rfl hA.1 rfl rfl ⟨rfl, rfl, by decide, by decide⟩ (Nat.le_of_ble_eq_true rfl) w_s2 rfl) d_X12_heapOf_10.2 (c_X12_leanOf κ a hA x1 h_x1 s2) rfl (fun r4 s5 h_r4 w_s5 => ?_)
    refine q_aload_n d_X12_heapOf_13 rfl ?_
    refine q_getR (n := 1) d_X12_heapOf_14 hA.1 fi_12_7 rfl (Nat.le_of_ble_eq_true rfl) ?_
    refine q_iconst d_X12_heapOf_17 ?_
    refine q_iaload (m := 1732) d_X12_heapOf_18 hA.2.1 (by decide) rfl (fun g6 => ?_)
    refine q_iconst d_X12_heapOf_19 ?_
    refine q_iadd d_X12_heapOf_20 ?_
    refine q_irem d_X12_heapOf_21 h_r4 (inr_wr _) (fun g7 => ?_)
    refine q_goto d_X12_heapOf_22 ?_
    exact q_ireti d_X12_heapOf_26 rfl (inr_tmod h_r4 (inr_wr _)) w_s5
abbrev R_X12_game : Room := { frames := 4, cells := 0, slots := 0, locals := 85 }
noncomputable def f_X12_game_56 (a : Nat) (p2 : Int) (p3 : Int) (k131 : Mem → Res) (k114 : Int → Int → Mem → Res) : Nat → Int → Mem → Res
  | 0, _, _ => none
  | n + 1, x4, s0 =>
    bd (f_X12_isAfloat a p3 s0) fun r14 s15 => if r14 = 0 then (k131 s15) else (gd ((0 : Int) ≤ 2 ∧ (2 : Int) < 1732) (if wr ((s15 (a + 1) 2) + 1) < x4 then (k131 s15) else (bd (f_X12_leanOf a p3 s15) fun r19 s20 => if r19 < x4 then (k131 s20) else (bd (f_X12_heapOf a p3 s20) fun r22 s23 => bd (f_X12_leanOf a p3 s23) fun r24 s25 => gd ((0 : Int) ≤ 2 ∧ (2 : Int) < 1732) (gd (wr ((s25 (a + 1) 2) + 2) ≠ 0) (if ixor p2 r22 = Int.tmod (wr (r24 - x4)) (wr ((s25 (a + 1) 2) + 2)) then (k114 p3 x4 s25) else (f_X12_game_56 a p2 p3 k131 k114 n (wr (x4 + 1)) s25)))))))
noncomputable def f_X12_game_42 (a : Nat) (p2 : Int) (k137 : Mem → Res) (k114 : Int → Int → Mem → Res) : Nat → Int → Mem → Res
  | 0, _, _ => none
  | n + 1, x3, s0 =>
    gd ((0 : Int) ≤ 58 ∧ (58 : Int) < 1732) (if x3 < s0 (a + 1) 58 then (jn (fun (s13 : Mem) => f_X12_game_42 a p2 k137 k114 n (wr (x3 + 1)) s13) fun j131 => f_X12_game_56 a p2 x3 j131 k114 FU 1 s0) else (k137 s0))
noncomputable def f_X12_game_15 (a : Nat) (k40 : Int → Mem → Res) : Nat → Int → Int → Mem → Res
  | 0, _, _, _ => none
  | n + 1, x2, x3, s0 =>
    gd ((0 : Int) ≤ 58 ∧ (58 : Int) < 1732) (if x3 < s0 (a + 1) 58 then (bd (f_X12_heapOf a x3 s0) fun r31 s32 => f_X12_game_15 a k40 n (ixor x2 r31) (wr (x3 + 1)) s32) else (k40 x2 s0))
noncomputable def f_X12_game (a : Nat) (x1 : Int) (s0 : Mem) : Res :=
  bd (f_X12_isIn x1 0 1 s0) fun r1 s2 => if r1 = 0 then (some ((-1), s2)) else (jn (fun (v4 : Int) (s5 : Mem) => jn (fun (s6 : Mem) => some ((-1), s6)) fun j137 => jn (fun (v7 : Int) (v8 : Int) (s9 : Mem) => if x1 = 0 then (some (v7, s9)) else (some (v8, s9))) fun j114 => f_X12_game_42 a v4 j137 j114 FU 0 s5) fun j40 => f_X12_game_15 a j40 FU 0 0 s2)
set_option maxHeartbeats 4000000 in
set_option maxRecDepth 10000 in
theorem l_X12_game_56 (κ : Kp) (a : Nat) (hA : At12 κ a) (p1 : Int) (h_p1 : InR p1) (p2 : Int) (h_p2 : InR p2) (p3 : Int) (h_p3 : InR p3) (k131 : Mem → Res) (k114 : Int → Int → Mem → Res) (hk131 : ∀ (sz : Mem) (w_sz : WF sz), EO κ M_X12_game R_X12_game 131 [some (vr κ a), some (vi p1), some (vi p2), some (vi p3), none] [] sz (k131 sz)) (hk114 : ∀ (z3 : Int) (h_z3 : InR z3) (z4 : Int) (h_z4 : InR z4) (sz : Mem) (w_sz : WF sz), EO κ M_X12_game R_X12_game 114 [none, some (vi p1), none, some (vi z3), some (vi z4)] [] sz (k114 z3 z4 sz)) : ∀ (n : Nat) (x4 : Int) (h_x4 : InR x4) (s0 : Mem) (w_s0 : WF s0), EO κ M_X12_game R_X12_game 56 [some (vr κ a), some (vi p1), some (vi p2), some (vi p3), some (vi x4)] [] s0 (f_X12_game_56 a p2 p3 k131 k114 n x4 s0) := by
  intro n
  induction n with
  | zero => exact fun _ _ _ _ => q_none
  | succ n ih =>
    intro x4 h_x4 s0 w_s0
    rw [f_X12_game_56]
    refine q_aload_n d_X12_game_56 rfl ?_
    refine q_iload_n (x := p3) d_X12_game_57 rfl ?_
    refine q_callZ (R' := R_X12_isAfloat) (runV (As := [vi p3]) (rest := []) d_X12_game_58.1 cv_12_335 rfl hA.1 rfl rfl ⟨rfl, rfl, by decide, by decide⟩ (Nat.le_of_ble_eq_true rfl) w_s0 rfl) d_X12_game_58.2 (c_X12_isAfloat κ a hA p3 h_p3 s0) rfl (fun r14 s15 h_r14 w_s15 => ?_)
    refine q_if_eq d_X12_game_61 (inr_b h_r14) (fun c16 => ?_) (fun c16 => ?_)
    · refine q_sub (ls' := [some (vr κ a), some (vi p1), some (vi p2), some (vi p3), none]) ⟨rfl, rfl, rfl, rfl, trivial⟩ ?_
      exact hk131 s15 w_s15
    · refine q_iload (x := x4) d_X12_game_64 rfl ?_
      refine q_aload_n d_X12_game_66 rfl ?_
      refine q_getR (n := 1) d_X12_game_67 hA.1 fi_12_7 rfl (Nat.le_of_ble_eq_true rfl) ?_
      refine q_iconst d_X12_game_70 ?_
      refine q_iaload (m := 1732) d_X12_game_71 hA.2.1 (by decide) rfl (fun g17 => ?_)
      refine q_iconst d_X12_game_72 ?_
      refine q_iadd d_X12_game_73 ?_
      refine q_icmp_gt d_X12_game_74 h_x4 (inr_wr _) (fun c18 => ?_) (fun c18 => ?_)
      · refine q_sub (ls' := [some (vr κ a), some (vi p1), some (vi p2), some (vi p3), none]) ⟨rfl, rfl, rfl, rfl, trivial⟩ ?_
        exact hk131 s15 w_s15
      · refine q_iload (x := x4) d_X12_game_77 rfl ?_
        refine q_aload_n d_X12_game_79 rfl ?_
        refine q_iload_n (x := p3) d_X12_game_80 rfl ?_
        refine q_callI (R' := R_X12_leanOf) (runV (As := [vi p3]) (rest := [vi x4]) d_X12_game_81.1 cv_12_316 rfl hA.1 rfl rfl ⟨rfl, rfl, by decide, by decide⟩ (Nat.le_of_ble_eq_true rfl) w_s15 rfl) d_X12_game_81.2 (c_X12_leanOf κ a hA p3 h_p3 s15) rfl (fun r19 s20 h_r19 w_s20 => ?_)
        refine q_icmp_gt d_X12_game_84 h_x4 h_r19 (fun c21 => ?_) (fun c21 => ?_)
        · refine q_sub (ls' := [some (vr κ a), some (vi p1), some (vi p2), some (vi p3), none]) ⟨rfl, rfl, rfl, rfl, trivial⟩ ?_
          exact hk131 s20 w_s20
        · refine q_iload_n (x := p2) d_X12_game_87 rfl ?_
          refine q_aload_n d_X12_game_88 rfl ?_
          refine q_iload_n (x := p3) d_X12_game_89 rfl ?_
          refine q_callI (R' := R_X12_heapOf) (runV (As := [vi p3]) (rest := [vi p2]) d_X12_game_90.1 cv_12_427 rfl hA.1 rfl rfl ⟨rfl, rfl, by decide, by decide⟩ (Nat.le_of_ble_eq_true rfl) w_s20 rfl) d_X12_game_90.2 (c_X12_heapOf κ a hA p3 h_p3 s20) rfl (fun r22 s23 h_r22 w_s23 => ?_)
          refine q_ixor d_X12_game_93 ?_
          refine q_aload_n d_X12_game_94 rfl ?_
          refine q_iload_n (x := p3) d_X12_game_95 rfl ?_
          refine q_callI (R' := R_X12_leanOf) (runV (As := [vi p3]) (rest := [vi (ixor p2 r22)]) d_X12_game_96.1 cv_12_316 rfl hA.1 rfl rfl ⟨rfl, rfl, by decide, by decide⟩ (Nat.le_of_ble_eq_true rfl) w_s23 rfl) d_X12_game_96.2 (c_X12_leanOf κ a hA p3 h_p3 s23) rfl (fun r24 s25 h_r24 w_s25 => ?_)
          refine q_iload (x := x4) d_X12_game_99 rfl ?_
          refine q_isub d_X12_game_101 ?_
          refine q_aload_n d_X12_game_102 rfl ?_
          refine q_getR (n := 1) d_X12_game_103 hA.1 fi_12_7 rfl (Nat.le_of_ble_eq_true rfl) ?_
          refine q_iconst d_X12_game_106 ?_
          refine q_iaload (m := 1732) d_X12_game_107 hA.2.1 (by decide) rfl (fun g26 => ?_)
          refine q_iconst d_X12_game_108 ?_
          refine q_iadd d_X12_game_109 ?_
          refine q_irem d_X12_game_110 (inr_wr _) (inr_wr _) (fun g27 => ?_)
          refine q_icmp_ne d_X12_game_111 (inr_i32 _) (inr_tmod (inr_wr _) (inr_wr _)) (fun c28 => ?_) (fun c28 => ?_)
          · refine q_sub (ls' := [none, some (vi p1), none, some (vi p3), some (vi x4)]) ⟨rfl, rfl, rfl, trivial⟩ ?_
            exact hk114 p3 h_p3 x4 h_x4 s25 w_s25
          · refine q_iinc (x := x4) d_X12_game_125 rfl rfl ?_
            refine q_goto d_X12_game_128 ?_
            refine q_sub (ls' := [some (vr κ a), some (vi p1), some (vi p2), some (vi p3), some (vi (wr (x4 + 1)))]) ⟨rfl, rfl, rfl, rfl, rfl, trivial⟩ ?_
            exact ih (wr (x4 + 1)) (inr_wr _) s25 w_s25
set_option maxHeartbeats 4000000 in
set_option maxRecDepth 10000 in
theorem l_X12_game_42 (κ : Kp) (a : Nat) (hA : At12 κ a) (p1 : Int) (h_p1 : InR p1) (p2 : Int) (h_p2 : InR p2) (k137 : Mem → Res) (k114 : Int → Int → Mem → Res) (hk137 : ∀ (sz : Mem) (w_sz : WF sz), EO κ M_X12_game R_X12_game 137 [none, none, none, none, none] [] sz (k137 sz)) (hk114 : ∀ (z3 : Int) (h_z3 : InR z3) (z4 : Int) (h_z4 : InR z4) (sz : Mem) (w_sz : WF sz), EO κ M_X12_game R_X12_game 114 [none, some (vi p1), none, some (vi z3), some (vi z4)] [] sz (k114 z3 z4 sz)) : ∀ (n : Nat) (x3 : Int) (h_x3 : InR x3) (s0 : Mem) (w_s0 : WF s0), EO κ M_X12_game R_X12_game 42 [some (vr κ a), some (vi p1), some (vi p2), some (vi x3), none] [] s0 (f_X12_game_42 a p2 k137 k114 n x3 s0) := by
  intro n
  induction n with
  | zero => exact fun _ _ _ _ => q_none
  | succ n ih =>
    intro x3 h_x3 s0 w_s0
    rw [f_X12_game_42]
    refine q_iload_n (x := x3) d_X12_game_42 rfl ?_
    refine q_aload_n d_X12_game_43 rfl ?_
    refine q_getR (n := 1) d_X12_game_44 hA.1 fi_12_7 rfl (Nat.le_of_ble_eq_true rfl) ?_
    refine q_bipush d_X12_game_47 rfl ?_
    refine q_iaload (m := 1732) d_X12_game_49 hA.2.1 (by decide) rfl (fun g11 => ?_)
    refine q_icmp_ge d_X12_game_50 h_x3 (w_s0 _ _) (fun c12 => ?_) (fun c12 => ?_)
    · refine q_iconst d_X12_game_53 ?_
      refine q_istore d_X12_game_54 rfl ?_
      refine q_jn (α := Mem → Res) (fun j131 => ∀ (s13 : Mem) (w_s13 : WF s13), EO κ M_X12_game R_X12_game 131 [some (vr κ a), some (vi p1), some (vi p2), some (vi x3), none] [] s13 (j131 s13)) ?_ (fun j131 hj131 => ?_)
      · intro s13 w_s13
        refine q_iinc (x := x3) d_X12_game_131 rfl rfl ?_
        refine q_goto d_X12_game_134 ?_
        refine q_sub (ls' := [some (vr κ a), some (vi p1), some (vi p2), some (vi (wr (x3 + 1))), none]) ⟨rfl, rfl, rfl, rfl, trivial⟩ ?_
        exact ih (wr (x3 + 1)) (inr_wr _) s13 w_s13
      refine q_sub (ls' := [some (vr κ a), some (vi p1), some (vi p2), some (vi x3), some (vi 1)]) ⟨rfl, rfl, rfl, rfl, rfl, trivial⟩ ?_
      exact l_X12_game_56 κ a hA p1 h_p1 p2 h_p2 x3 h_x3 j131 k114 hj131 hk114 FU 1 (inr_b (Or.inr rfl)) s0 w_s0
    · refine q_sub (ls' := [none, none, none, none, none]) trivial ?_
      exact hk137 s0 w_s0
set_option maxHeartbeats 4000000 in
set_option maxRecDepth 10000 in
theorem l_X12_game_15 (κ : Kp) (a : Nat) (hA : At12 κ a) (p1 : Int) (h_p1 : InR p1) (k40 : Int → Mem → Res) (hk40 : ∀ (z2 : Int) (h_z2 : InR z2) (sz : Mem) (w_sz : WF sz), EO κ M_X12_game R_X12_game 40 [some (vr κ a), some (vi p1), some (vi z2), none, none] [] sz (k40 z2 sz)) : ∀ (n : Nat) (x2 : Int) (h_x2 : InR x2) (x3 : Int) (h_x3 : InR x3) (s0 : Mem) (w_s0 : WF s0), EO κ M_X12_game R_X12_game 15 [some (vr κ a), some (vi p1), some (vi x2), some (vi x3), none] [] s0 (f_X12_game_15 a k40 n x2 x3 s0) := by
  intro n
  induction n with
  | zero => exact fun _ _ _ _ _ _ => q_none
  | succ n ih =>
    intro x2 h_x2 x3 h_x3 s0 w_s0
    rw [f_X12_game_15]
    refine q_iload_n (x := x3) d_X12_game_15 rfl ?_
    refine q_aload_n d_X12_game_16 rfl ?_
    refine q_getR (n := 1) d_X12_game_17 hA.1 fi_12_7 rfl (Nat.le_of_ble_eq_true rfl) ?_
    refine q_bipush d_X12_game_20 rfl ?_
    refine q_iaload (m := 1732) d_X12_game_22 hA.2.1 (by decide) rfl (fun g29 => ?_)
    refine q_icmp_ge d_X12_game_23 h_x3 (w_s0 _ _) (fun c30 => ?_) (fun c30 => ?_)
    · refine q_iload_n (x := x2) d_X12_game_26 rfl ?_
      refine q_aload_n d_X12_game_27 rfl ?_
      refine q_iload_n (x := x3) d_X12_game_28 rfl ?_
      refine q_callI (R' := R_X12_heapOf) (runV (As := [vi x3]) (rest := [vi x2]) d_X12_game_29.1 cv_12_427 rfl hA.1 rfl rfl ⟨rfl, rfl, by decide, by decide⟩ (Nat.le_of_ble_eq_true rfl) w_s0 rfl) d_X12_game_29.2 (c_X12_heapOf κ a hA x3 h_x3 s0) rfl (fun r31 s32 h_r31 w_s32 => ?_)
      refine q_ixor d_X12_game_32 ?_
      refine q_istore_n d_X12_game_33 rfl ?_
      refine q_iinc (x := x3) d_X12_game_34 rfl rfl ?_
      refine q_goto d_X12_game_37 ?_
      refine q_sub (ls' := [some (vr κ a), some (vi p1), some (vi (ixor x2 r31)), some (vi (wr (x3 + 1))), none]) ⟨rfl, rfl, rfl, rfl, trivial⟩ ?_
      exact ih (ixor x2 r31) (inr_i32 _) (wr (x3 + 1)) (inr_wr _) s32 w_s32
    · refine q_sub (ls' := [some (vr κ a), some (vi p1), some (vi x2), none, none]) ⟨rfl, rfl, rfl, trivial⟩ ?_
      exact hk40 x2 h_x2 s0 w_s0
set_option maxHeartbeats 4000000 in
set_option maxRecDepth 10000 in
theorem c_X12_game (κ : Kp) (a : Nat) (hA : At12 κ a) (x1 : Int) (h_x1 : InR x1) (s0 : Mem) : ∀ r σ', f_X12_game a x1 s0 = some (r, σ') → Ct κ M_X12_game R_X12_game [vr κ a, vi x1] s0 r σ' := by
  intro r σ' ho
  refine Ct.of (by decide) (Nat.le_of_ble_eq_true rfl) (cat_ok rfl) (fun w_s0 => ?_) ⟨rfl, rfl⟩
  refine q_ent (ls' := [some (vr κ a), some (vi x1), none, none, none]) (o := f_X12_game a x1 s0) ⟨rfl, rfl, trivial⟩ ?_ ho
  unfold f_X12_game
  refine q_iload_n (x := x1) d_X12_game_0 rfl ?_
  refine q_iconst d_X12_game_1 ?_
  refine q_iconst d_X12_game_2 ?_
  refine q_callZ (R' := R_X12_isIn) (runS (As := [vi x1, vi 0, vi 1]) (rest := []) d_X12_game_3.1 cv_12_60 rfl ⟨rfl, rfl, by decide, by decide⟩ (Nat.le_of_ble_eq_true rfl) w_s0 rfl) d_X12_game_3.2 (c_X12_isIn κ x1 h_x1 0 (inr_b (Or.inl rfl)) 1 (inr_b (Or.inr rfl)) s0) rfl (fun r1 s2 h_r1 w_s2 => ?_)
  refine q_if_ne d_X12_game_6 (inr_b h_r1) (fun c3 => ?_) (fun c3 => ?_)
  · refine q_iconst d_X12_game_9 ?_
    exact q_ireti d_X12_game_10 rfl (inr_d rfl) w_s2
  · refine q_iconst d_X12_game_11 ?_
    refine q_istore_n d_X12_game_12 rfl ?_
    refine q_iconst d_X12_game_13 ?_
    refine q_istore_n d_X12_game_14 rfl ?_
    refine q_jn (α := Int → Mem → Res) (fun j40 => ∀ (v4 : Int) (h_v4 : InR v4) (s5 : Mem) (w_s5 : WF s5), EO κ M_X12_game R_X12_game 40 [some (vr κ a), some (vi x1), some (vi v4), none, none] [] s5 (j40 v4 s5)) ?_ (fun j40 hj40 => ?_)
    · intro v4 h_v4 s5 w_s5
      refine q_iconst d_X12_game_40 ?_
      refine q_istore_n d_X12_game_41 rfl ?_
      refine q_jn (α := Mem → Res) (fun j137 => ∀ (s6 : Mem) (w_s6 : WF s6), EO κ M_X12_game R_X12_game 137 [none, none, none, none, none] [] s6 (j137 s6)) ?_ (fun j137 hj137 => ?_)
      · intro s6 w_s6
        refine q_iconst d_X12_game_137 ?_
        exact q_ireti d_X12_game_138 rfl (inr_d rfl) w_s6
      refine q_jn (α := Int → Int → Mem → Res) (fun j114 => ∀ (v7 : Int) (h_v7 : InR v7) (v8 : Int) (h_v8 : InR v8) (s9 : Mem) (w_s9 : WF s9), EO κ M_X12_game R_X12_game 114 [none, some (vi x1), none, some (vi v7), some (vi v8)] [] s9 (j114 v7 v8 s9)) ?_ (fun j114 hj114 => ?_)
      · intro v7 h_v7 v8 h_v8 s9 w_s9
        refine q_iload_n (x := x1) d_X12_game_114 rfl ?_
        refine q_if_ne d_X12_game_115 h_x1 (fun c10 => ?_) (fun c10 => ?_)
        · refine q_iload_n (x := v7) d_X12_game_118 rfl ?_
          refine q_goto d_X12_game_119 ?_
          exact q_ireti d_X12_game_124 rfl h_v7 w_s9
        · refine q_iload (x := v8) d_X12_game_122 rfl ?_
          exact q_ireti d_X12_game_124 rfl h_v8 w_s9
      refine q_sub (ls' := [some (vr κ a), some (vi x1), some (vi v4), some (vi 0), none]) ⟨rfl, rfl, rfl, rfl, trivial⟩ ?_
      exact l_X12_game_42 κ a hA x1 h_x1 v4 h_v4 j137 j114 hj137 hj114 FU 0 (inr_b (Or.inl rfl)) s5 w_s5
    refine q_sub (ls' := [some (vr κ a), some (vi x1), some (vi 0), some (vi 0), none]) ⟨rfl, rfl, rfl, rfl, trivial⟩ ?_
    exact l_X12_game_15 κ a hA x1 h_x1 j40 hj40 FU 0 (inr_b (Or.inl rfl)) 0 (inr_b (Or.inl rfl)) s2 w_s2
abbrev R_X12_image : Room := { frames := 1, cells := 0, slots := 0, locals := 20 }
noncomputable def f_X12_image_15 (a : Nat) (p1 : Int) (k59 : Mem → Res) : Nat → Int → Mem → Res
  | 0, _, _ => none
  | n + 1, x2, s0 =>
    if x2 < 1732 then (jn (fun (s8 : Mem) => f_X12_image_15 a p1 k59 n (wr (x2 + 1)) s8) fun j53 => if p1 = 0 then (gd ((0 : Int) ≤ x2 ∧ x2 < 1732) (gd ((0 : Int) ≤ x2 ∧ x2 < 1732) (lm (mup s0 (a + 1) x2 (s0 (a + 2) x2)) fun s12 => j53 s12))) else (gd ((0 : Int) ≤ x2 ∧ x2 < 1732) (gd ((0 : Int) ≤ x2 ∧ x2 < 1732) (lm (mup s0 (a + 2) x2 (s0 (a + 1) x2)) fun s15 => j53 s15)))) else (k59 s0)
noncomputable def f_X12_image (a : Nat) (x1 : Int) (s0 : Mem) : Res :=
  jn (fun (_ : Unit) => jn (fun (s1 : Mem) => jn (fun (s2 : Mem) => lm (mup s2 a 5 1) fun s3 => some (1, s3)) fun j67 => if x1 = 0 then (bd (f_X12_forgets a s1) fun r5 s6 => j67 s6) else (j67 s1)) fun j59 => f_X12_image_15 a x1 j59 FU 0 s0) fun j13 => if x1 = 0 then (if s0 a 5 = 0 then (some (0, s0)) else (j13 ())) else (j13 ())
set_option maxHeartbeats 4000000 in
set_option maxRecDepth 10000 in
theorem l_X12_image_15 (κ : Kp) (a : Nat) (hA : At12 κ a) (p1 : Int) (h_p1 : InR p1) (k59 : Mem → Res) (hk59 : ∀ (sz : Mem) (w_sz : WF sz), EO κ M_X12_image R_X12_image 59 [some (vr κ a), some (vi p1), none] [] sz (k59 sz)) : ∀ (n : Nat) (x2 : Int) (h_x2 : InR x2) (s0 : Mem) (w_s0 : WF s0), EO κ M_X12_image R_X12_image 15 [some (vr κ a), some (vi p1), some (vi x2)] [] s0 (f_X12_image_15 a p1 k59 n x2 s0) := by
  intro n
  induction n with
  | zero => exact fun _ _ _ _ => q_none
  | succ n ih =>
    intro x2 h_x2 s0 w_s0
    rw [f_X12_image_15]
    refine q_iload_n (x := x2) d_X12_image_15 rfl ?_
    refine q_sipush d_X12_image_16 rfl ?_
    refine q_icmp_ge d_X12_image_19 h_x2 (inr_d rfl) (fun c7 => ?_) (fun c7 => ?_)
    · refine q_iload_n (x := p1) d_X12_image_22 rfl ?_
      refine q_jn (α := Mem → Res) (fun j53 => ∀ (s8 : Mem) (w_s8 : WF s8), EO κ M_X12_image R_X12_image 53 [some (vr κ a), some (vi p1), some (vi x2)] [] s8 (j53 s8)) ?_ (fun j53 hj53 => ?_)
      · intro s8 w_s8
        refine q_iinc (x := x2) d_X12_image_53 rfl rfl ?_
        refine q_goto d_X12_image_56 ?_
        refine q_sub (ls' := [some (vr κ a), some (vi p1), some (vi (wr (x2 + 1)))]) ⟨rfl, rfl, rfl, trivial⟩ ?_
        exact ih (wr (x2 + 1)) (inr_wr _) s8 w_s8
      refine q_if_eq d_X12_image_23 h_p1 (fun c9 => ?_) (fun c9 => ?_)
      · refine q_aload_n d_X12_image_41 rfl ?_
        refine q_getR (n := 1) d_X12_image_42 hA.1 fi_12_7 rfl (Nat.le_of_ble_eq_true rfl) ?_
        refine q_iload_n (x := x2) d_X12_image_45 rfl ?_
        refine q_aload_n d_X12_image_46 rfl ?_
        refine q_getR (n := 2) d_X12_image_47 hA.1 fi_12_13 rfl (Nat.le_of_ble_eq_true rfl) ?_
        refine q_iload_n (x := x2) d_X12_image_50 rfl ?_
        refine q_iaload (m := 1732) d_X12_image_51 hA.2.2.1 (by decide) rfl (fun g10 => ?_)
        refine q_iastore (m := 1732) d_X12_image_52 hA.2.1 (by decide) rfl (w_s0 _ _) w_s0 (fun g11 s12 w_s12 => ?_)
        refine q_sub (ls' := [some (vr κ a), some (vi p1), some (vi x2)]) ⟨rfl, rfl, rfl, trivial⟩ ?_
        exact hj53 s12 w_s12
      · refine q_aload_n d_X12_image_26 rfl ?_
        refine q_getR (n := 2) d_X12_image_27 hA.1 fi_12_13 rfl (Nat.le_of_ble_eq_true rfl) ?_
        refine q_iload_n (x := x2) d_X12_image_30 rfl ?_
        refine q_aload_n d_X12_image_31 rfl ?_
        refine q_getR (n := 1) d_X12_image_32 hA.1 fi_12_7 rfl (Nat.le_of_ble_eq_true rfl) ?_
        refine q_iload_n (x := x2) d_X12_image_35 rfl ?_
        refine q_iaload (m := 1732) d_X12_image_36 hA.2.1 (by decide) rfl (fun g13 => ?_)
        refine q_iastore (m := 1732) d_X12_image_37 hA.2.2.1 (by decide) rfl (w_s0 _ _) w_s0 (fun g14 s15 w_s15 => ?_)
        refine q_goto d_X12_image_38 ?_
        refine q_sub (ls' := [some (vr κ a), some (vi p1), some (vi x2)]) ⟨rfl, rfl, rfl, trivial⟩ ?_
        exact hj53 s15 w_s15
    · refine q_sub (ls' := [some (vr κ a), some (vi p1), none]) ⟨rfl, rfl, trivial⟩ ?_
      exact hk59 s0 w_s0
set_option maxHeartbeats 4000000 in
set_option maxRecDepth 10000 in
theorem c_X12_image (κ : Kp) (a : Nat) (hA : At12 κ a) (x1 : Int) (h_x1 : InR x1) (s0 : Mem) : ∀ r σ', f_X12_image a x1 s0 = some (r, σ') → Ct κ M_X12_image R_X12_image [vr κ a, vi x1] s0 r σ' := by
  intro r σ' ho
  refine Ct.of (by decide) (Nat.le_of_ble_eq_true rfl) (cat_ok rfl) (fun w_s0 => ?_) ⟨rfl, rfl⟩
  refine q_ent (ls' := [some (vr κ a), some (vi x1), none]) (o := f_X12_image a x1 s0) ⟨rfl, rfl, trivial⟩ ?_ ho
  unfold f_X12_image
  refine q_iload_n (x := x1) d_X12_image_0 rfl ?_
  refine q_jn (α := Unit → Res) (fun j13 => EO κ M_X12_image R_X12_image 13 [some (vr κ a), some (vi x1), none] [] s0 (j13 ())) ?_ (fun j13 hj13 => ?_)
  · refine q_iconst d_X12_image_13 ?_
    refine q_istore_n d_X12_image_14 rfl ?_
    refine q_jn (α := Mem → Res) (fun j59 => ∀ (s1 : Mem) (w_s1 : WF s1), EO κ M_X12_image R_X12_image 59 [some (vr κ a), some (vi x1), none] [] s1 (j59 s1)) ?_ (fun j59 hj59 => ?_)
    · intro s1 w_s1
      refine q_iload_n (x := x1) d_X12_image_59 rfl ?_
      refine q_jn (α := Mem → Res) (fun j67 => ∀ (s2 : Mem) (w_s2 : WF s2), EO κ M_X12_image R_X12_image 67 [some (vr κ a), none, none] [] s2 (j67 s2)) ?_ (fun j67 hj67 => ?_)
      · intro s2 w_s2
        refine q_aload_n d_X12_image_67 rfl ?_
        refine q_iconst d_X12_image_68 ?_
        refine q_putZ (k := 5) (j := 5) d_X12_image_69 hA.1 fp_12_430 rfl rfl (Or.inr rfl) w_s2 (fun s3 w_s3 => ?_)
        refine q_iconst d_X12_image_72 ?_
        exact q_iretz d_X12_image_73 rfl (Or.inr rfl) w_s3
      refine q_if_ne d_X12_image_60 h_x1 (fun c4 => ?_) (fun c4 => ?_)
      · refine q_aload_n d_X12_image_63 rfl ?_
        refine q_callV (R' := R_X12_forgets) (runV (As := []) (rest := []) d_X12_image_64.1 cv_12_71 rfl hA.1 rfl rfl ⟨rfl, rfl, by decide, by decide⟩ (Nat.le_of_ble_eq_true rfl) w_s1 rfl) d_X12_image_64.2 (c_X12_forgets κ a hA s1) rfl (fun r5 s6 w_s6 => ?_)
        refine q_sub (ls' := [some (vr κ a), none, none]) ⟨rfl, trivial⟩ ?_
        exact hj67 s6 w_s6
      · refine q_sub (ls' := [some (vr κ a), none, none]) ⟨rfl, trivial⟩ ?_
        exact hj67 s1 w_s1
    refine q_sub (ls' := [some (vr κ a), some (vi x1), some (vi 0)]) ⟨rfl, rfl, rfl, trivial⟩ ?_
    exact l_X12_image_15 κ a hA x1 h_x1 j59 hj59 FU 0 (inr_b (Or.inl rfl)) s0 w_s0
  refine q_if_ne d_X12_image_1 h_x1 (fun c16 => ?_) (fun c16 => ?_)
  · refine q_aload_n d_X12_image_4 rfl ?_
    refine q_getI (k := 5) (j := 5) d_X12_image_5 hA.1 fi_12_430 rfl rfl ?_
    refine q_if_ne d_X12_image_8 (w_s0 _ _) (fun c17 => ?_) (fun c17 => ?_)
    · refine q_iconst d_X12_image_11 ?_
      exact q_iretz d_X12_image_12 rfl (Or.inl rfl) w_s0
    · refine q_sub (ls' := [some (vr κ a), some (vi x1), none]) ⟨rfl, rfl, trivial⟩ ?_
      exact hj13 
  · refine q_sub (ls' := [some (vr κ a), some (vi x1), none]) ⟨rfl, rfl, trivial⟩ ?_
    exact hj13 
abbrev R_X12_lostOnes : Room := { frames := 3, cells := 0, slots := 0, locals := 64 }
noncomputable def f_X12_lostOnes_4 (a : Nat) (k39 : Int → Mem → Res) : Nat → Int → Int → Mem → Res
  | 0, _, _, _ => none
  | n + 1, x1, x2, s0 =>
    gd ((0 : Int) ≤ 58 ∧ (58 : Int) < 1732) (if x2 < s0 (a + 1) 58 then (bd (f_X12_isAfloat a x2 s0) fun r5 s6 => jn (fun (y7 : Int) => f_X12_lostOnes_4 a k39 n (ior x1 y7) (wr (x2 + 1)) s6) fun j31 => if r5 = 0 then (j31 (ishl 1 x2)) else (j31 0)) else (k39 x1 s0))
noncomputable def f_X12_lostOnes (a : Nat) (s0 : Mem) : Res :=
  jn (fun (v1 : Int) (s2 : Mem) => some (v1, s2)) fun j39 => f_X12_lostOnes_4 a j39 FU 0 0 s0
set_option maxHeartbeats 4000000 in
set_option maxRecDepth 10000 in
theorem l_X12_lostOnes_4 (κ : Kp) (a : Nat) (hA : At12 κ a) (k39 : Int → Mem → Res) (hk39 : ∀ (z1 : Int) (h_z1 : InR z1) (sz : Mem) (w_sz : WF sz), EO κ M_X12_lostOnes R_X12_lostOnes 39 [none, some (vi z1), none] [] sz (k39 z1 sz)) : ∀ (n : Nat) (x1 : Int) (h_x1 : InR x1) (x2 : Int) (h_x2 : InR x2) (s0 : Mem) (w_s0 : WF s0), EO κ M_X12_lostOnes R_X12_lostOnes 4 [some (vr κ a), some (vi x1), some (vi x2)] [] s0 (f_X12_lostOnes_4 a k39 n x1 x2 s0) := by
  intro n
  induction n with
  | zero => exact fun _ _ _ _ _ _ => q_none
  | succ n ih =>
    intro x1 h_x1 x2 h_x2 s0 w_s0
    rw [f_X12_lostOnes_4]
    refine q_iload_n (x := x2) d_X12_lostOnes_4 rfl ?_
    refine q_aload_n d_X12_lostOnes_5 rfl ?_
    refine q_getR (n := 1) d_X12_lostOnes_6 hA.1 fi_12_7 rfl (Nat.le_of_ble_eq_true rfl) ?_
    refine q_bipush d_X12_lostOnes_9 rfl ?_
    refine q_iaload (m := 1732) d_X12_lostOnes_11 hA.2.1 (by decide) rfl (fun g3 => ?_)
    refine q_icmp_ge d_X12_lostOnes_12 h_x2 (w_s0 _ _) (fun c4 => ?_) (fun c4 => ?_)
    · refine q_iload_n (x := x1) d_X12_lostOnes_15 rfl ?_
      refine q_aload_n d_X12_lostOnes_16 rfl ?_
      refine q_iload_n (x := x2) d_X12_lostOnes_17 rfl ?_
      refine q_callZ (R' := R_X12_isAfloat) (runV (As := [vi x2]) (rest := [vi x1]) d_X12_lostOnes_18.1 cv_12_335 rfl hA.1 rfl rfl ⟨rfl, rfl, by decide, by decide⟩ (Nat.le_of_ble_eq_true rfl) w_s0 rfl) d_X12_lostOnes_18.2 (c_X12_isAfloat κ a hA x2 h_x2 s0) rfl (fun r5 s6 h_r5 w_s6 => ?_)
      refine q_jn (α := Int → Res) (fun j31 => ∀ (y7 : Int) (h_y7 : InR y7), EO κ M_X12_lostOnes R_X12_lostOnes 31 [some (vr κ a), none, some (vi x2)] [vi y7, vi x1] s6 (j31 y7)) ?_ (fun j31 hj31 => ?_)
      · intro y7 h_y7
        refine q_ior d_X12_lostOnes_31 ?_
        refine q_istore_n d_X12_lostOnes_32 rfl ?_
        refine q_iinc (x := x2) d_X12_lostOnes_33 rfl rfl ?_
        refine q_goto d_X12_lostOnes_36 ?_
        refine q_sub (ls' := [some (vr κ a), some (vi (ior x1 y7)), some (vi (wr (x2 + 1)))]) ⟨rfl, rfl, rfl, trivial⟩ ?_
        exact ih (ior x1 y7) (inr_i32 _) (wr (x2 + 1)) (inr_wr _) s6 w_s6
      refine q_if_eq d_X12_lostOnes_21 (inr_b h_r5) (fun c8 => ?_) (fun c8 => ?_)
      · refine q_iconst d_X12_lostOnes_28 ?_
        refine q_iload_n (x := x2) d_X12_lostOnes_29 rfl ?_
        refine q_ishl d_X12_lostOnes_30 ?_
        refine q_sub (ls' := [some (vr κ a), none, some (vi x2)]) ⟨rfl, rfl, trivial⟩ ?_
        exact hj31 (ishl 1 x2) (inr_i32 _)
      · refine q_iconst d_X12_lostOnes_24 ?_
        refine q_goto d_X12_lostOnes_25 ?_
        refine q_sub (ls' := [some (vr κ a), none, some (vi x2)]) ⟨rfl, rfl, trivial⟩ ?_
        exact hj31 0 (inr_b (Or.inl rfl))
    · refine q_sub (ls' := [none, some (vi x1), none]) ⟨rfl, trivial⟩ ?_
      exact hk39 x1 h_x1 s0 w_s0
set_option maxHeartbeats 4000000 in
set_option maxRecDepth 10000 in
theorem c_X12_lostOnes (κ : Kp) (a : Nat) (hA : At12 κ a) (s0 : Mem) : ∀ r σ', f_X12_lostOnes a s0 = some (r, σ') → Ct κ M_X12_lostOnes R_X12_lostOnes [vr κ a] s0 r σ' := by
  intro r σ' ho
  refine Ct.of (by decide) (Nat.le_of_ble_eq_true rfl) (cat_ok rfl) (fun w_s0 => ?_) ⟨rfl, rfl⟩
  refine q_ent (ls' := [some (vr κ a), none, none]) (o := f_X12_lostOnes a s0) ⟨rfl, trivial⟩ ?_ ho
  unfold f_X12_lostOnes
  refine q_iconst d_X12_lostOnes_0 ?_
  refine q_istore_n d_X12_lostOnes_1 rfl ?_
  refine q_iconst d_X12_lostOnes_2 ?_
  refine q_istore_n d_X12_lostOnes_3 rfl ?_
  refine q_jn (α := Int → Mem → Res) (fun j39 => ∀ (v1 : Int) (h_v1 : InR v1) (s2 : Mem) (w_s2 : WF s2), EO κ M_X12_lostOnes R_X12_lostOnes 39 [none, some (vi v1), none] [] s2 (j39 v1 s2)) ?_ (fun j39 hj39 => ?_)
  · intro v1 h_v1 s2 w_s2
    refine q_iload_n (x := v1) d_X12_lostOnes_39 rfl ?_
    exact q_ireti d_X12_lostOnes_40 rfl h_v1 w_s2
  refine q_sub (ls' := [some (vr κ a), some (vi 0), some (vi 0)]) ⟨rfl, rfl, rfl, trivial⟩ ?_
  exact l_X12_lostOnes_4 κ a hA j39 hj39 FU 0 (inr_b (Or.inl rfl)) 0 (inr_b (Or.inl rfl)) s0 w_s0
abbrev R_X12_look : Room := { frames := 4, cells := 0, slots := 0, locals := 86 }
noncomputable def f_X12_look (a : Nat) (x1 : Int) (s0 : Mem) : Res :=
  if x1 = 0 then (gd ((0 : Int) ≤ 58 ∧ (58 : Int) < 1732) (some (s0 (a + 1) 58, s0))) else (if x1 = 1 then (gd ((0 : Int) ≤ 0 ∧ (0 : Int) < 1732) (some (s0 (a + 1) 0, s0))) else (if x1 = 2 then (gd ((0 : Int) ≤ 1 ∧ (1 : Int) < 1732) (some (s0 (a + 1) 1, s0))) else (if x1 = 3 then (gd ((0 : Int) ≤ 2 ∧ (2 : Int) < 1732) (some (s0 (a + 1) 2, s0))) else (if x1 = 4 then (gd ((0 : Int) ≤ 3 ∧ (3 : Int) < 1732) (some (s0 (a + 1) 3, s0))) else (if x1 = 5 then (gd ((0 : Int) ≤ 57 ∧ (57 : Int) < 1732) (some (s0 (a + 1) 57, s0))) else (if x1 = 6 then (gd ((0 : Int) ≤ 4 ∧ (4 : Int) < 1732) (some (s0 (a + 1) 4, s0))) else (if x1 = 7 then (bd (f_X12_lostOnes a s0) fun r16 s17 => some (r16, s17)) else (if x1 = 8 then (gd ((0 : Int) ≤ 6 ∧ (6 : Int) < 1732) (some (s0 (a + 1) 6, s0))) else (if x1 = 9 then (gd ((0 : Int) ≤ 5 ∧ (5 : Int) < 1732) (some (s0 (a + 1) 5, s0))) else (if x1 = 10 then (gd ((0 : Int) ≤ 59 ∧ (59 : Int) < 1732) (some (s0 (a + 1) 59, s0))) else (if x1 = 11 then (gd ((0 : Int) ≤ 60 ∧ (60 : Int) < 1732) (some (s0 (a + 1) 60, s0))) else (if x1 = 12 then (gd ((0 : Int) ≤ 61 ∧ (61 : Int) < 1732) (some (s0 (a + 1) 61, s0))) else (if x1 = 13 then (gd ((0 : Int) ≤ 62 ∧ (62 : Int) < 1732) (some (s0 (a + 1) 62, s0))) else (if x1 = 14 then (gd ((0 : Int) ≤ 63 ∧ (63 : Int) < 1732) (some (s0 (a + 1) 63, s0))) else (if x1 = 15 then (gd ((0 : Int) ≤ 64 ∧ (64 : Int) < 1732) (some (s0 (a + 1) 64, s0))) else (if x1 = 16 then (some (s0 a 4, s0)) else (some ((-1), s0))))))))))))))))))
set_option maxHeartbeats 4000000 in
set_option maxRecDepth 10000 in
theorem c_X12_look (κ : Kp) (a : Nat) (hA : At12 κ a) (x1 : Int) (h_x1 : InR x1) (s0 : Mem) : ∀ r σ', f_X12_look a x1 s0 = some (r, σ') → Ct κ M_X12_look R_X12_look [vr κ a, vi x1] s0 r σ' := by
  intro r σ' ho
  refine Ct.of (by decide) (Nat.le_of_ble_eq_true rfl) (cat_ok rfl) (fun w_s0 => ?_) ⟨rfl, rfl⟩
  refine q_ent (ls' := [some (vr κ a), some (vi x1)]) (o := f_X12_look a x1 s0) ⟨rfl, rfl, trivial⟩ ?_ ho
  unfold f_X12_look
  refine q_iload_n (x := x1) d_X12_look_0 rfl ?_
  refine q_ite (fun c1 => ?_) (fun c1 => ?_)
  · refine q_tswC (tgt := 84) d_X12_look_1 h_x1 c1 (by decide) (by decide) rfl (by decide) ?_
    refine q_aload_n d_X12_look_84 rfl ?_
    refine q_getR (n := 1) d_X12_look_85 hA.1 fi_12_7 rfl (Nat.le_of_ble_eq_true rfl) ?_
    refine q_bipush d_X12_look_88 rfl ?_
    refine q_iaload (m := 1732) d_X12_look_90 hA.2.1 (by decide) rfl (fun g2 => ?_)
    exact q_ireti d_X12_look_91 rfl (w_s0 _ _) w_s0
  refine q_ite (fun c3 => ?_) (fun c3 => ?_)
  · refine q_tswC (tgt := 92) d_X12_look_1 h_x1 c3 (by decide) (by decide) rfl (by decide) ?_
    refine q_aload_n d_X12_look_92 rfl ?_
    refine q_getR (n := 1) d_X12_look_93 hA.1 fi_12_7 rfl (Nat.le_of_ble_eq_true rfl) ?_
    refine q_iconst d_X12_look_96 ?_
    refine q_iaload (m := 1732) d_X12_look_97 hA.2.1 (by decide) rfl (fun g4 => ?_)
    exact q_ireti d_X12_look_98 rfl (w_s0 _ _) w_s0
  refine q_ite (fun c5 => ?_) (fun c5 => ?_)
  · refine q_tswC (tgt := 99) d_X12_look_1 h_x1 c5 (by decide) (by decide) rfl (by decide) ?_
    refine q_aload_n d_X12_look_99 rfl ?_
    refine q_getR (n := 1) d_X12_look_100 hA.1 fi_12_7 rfl (Nat.le_of_ble_eq_true rfl) ?_
    refine q_iconst d_X12_look_103 ?_
    refine q_iaload (m := 1732) d_X12_look_104 hA.2.1 (by decide) rfl (fun g6 => ?_)
    exact q_ireti d_X12_look_105 rfl (w_s0 _ _) w_s0
  refine q_ite (fun c7 => ?_) (fun c7 => ?_)
  · refine q_tswC (tgt := 106) d_X12_look_1 h_x1 c7 (by decide) (by decide) rfl (by decide) ?_
    refine q_aload_n d_X12_look_106 rfl ?_
    refine q_getR (n := 1) d_X12_look_107 hA.1 fi_12_7 rfl (Nat.le_of_ble_eq_true rfl) ?_
    refine q_iconst d_X12_look_110 ?_
    refine q_iaload (m := 1732) d_X12_look_111 hA.2.1 (by decide) rfl (fun g8 => ?_)
    exact q_ireti d_X12_look_112 rfl (w_s0 _ _) w_s0
  refine q_ite (fun c9 => ?_) (fun c9 => ?_)
  · refine q_tswC (tgt := 113) d_X12_look_1 h_x1 c9 (by decide) (by decide) rfl (by decide) ?_
    refine q_aload_n d_X12_look_113 rfl ?_
    refine q_getR (n := 1) d_X12_look_114 hA.1 fi_12_7 rfl (Nat.le_of_ble_eq_true rfl) ?_
    refine q_iconst d_X12_look_117 ?_
    refine q_iaload (m := 1732) d_X12_look_118 hA.2.1 (by decide) rfl (fun g10 => ?_)
    exact q_ireti d_X12_look_119 rfl (w_s0 _ _) w_s0
  refine q_ite (fun c11 => ?_) (fun c11 => ?_)
  · refine q_tswC (tgt := 120) d_X12_look_1 h_x1 c11 (by decide) (by decide) rfl (by decide) ?_
    refine q_aload_n d_X12_look_120 rfl ?_
    refine q_getR (n := 1) d_X12_look_121 hA.1 fi_12_7 rfl (Nat.le_of_ble_eq_true rfl) ?_
    refine q_bipush d_X12_look_124 rfl ?_
    refine q_iaload (m := 1732) d_X12_look_126 hA.2.1 (by decide) rfl (fun g12 => ?_)
    exact q_ireti d_X12_look_127 rfl (w_s0 _ _) w_s0
  refine q_ite (fun c13 => ?_) (fun c13 => ?_)
  · refine q_tswC (tgt := 128) d_X12_look_1 h_x1 c13 (by decide) (by decide) rfl (by decide) ?_
    refine q_aload_n d_X12_look_128 rfl ?_
    refine q_getR (n := 1) d_X12_look_129 hA.1 fi_12_7 rfl (Nat.le_of_ble_eq_true rfl) ?_
    refine q_iconst d_X12_look_132 ?_
    refine q_iaload (m := 1732) d_X12_look_133 hA.2.1 (by decide) rfl (fun g14 => ?_)
    exact q_ireti d_X12_look_134 rfl (w_s0 _ _) w_s0
  refine q_ite (fun c15 => ?_) (fun c15 => ?_)
  · refine q_tswC (tgt := 135) d_X12_look_1 h_x1 c15 (by decide) (by decide) rfl (by decide) ?_
    refine q_aload_n d_X12_look_135 rfl ?_
    refine q_callI (R' := R_X12_lostOnes) (runV (As := []) (rest := []) d_X12_look_136.1 cv_12_433 rfl hA.1 rfl rfl ⟨rfl, rfl, by decide, by decide⟩ (Nat.le_of_ble_eq_true rfl) w_s0 rfl) d_X12_look_136.2 (c_X12_lostOnes κ a hA s0) rfl (fun r16 s17 h_r16 w_s17 => ?_)
    exact q_ireti d_X12_look_139 rfl h_r16 w_s17
  refine q_ite (fun c18 => ?_) (fun c18 => ?_)
  · refine q_tswC (tgt := 140) d_X12_look_1 h_x1 c18 (by decide) (by decide) rfl (by decide) ?_
    refine q_aload_n d_X12_look_140 rfl ?_
    refine q_getR (n := 1) d_X12_look_141 hA.1 fi_12_7 rfl (Nat.le_of_ble_eq_true rfl) ?_
    refine q_bipush d_X12_look_144 rfl ?_
    refine q_iaload (m := 1732) d_X12_look_146 hA.2.1 (by decide) rfl (fun g19 => ?_)
    exact q_ireti d_X12_look_147 rfl (w_s0 _ _) w_s0
  refine q_ite (fun c20 => ?_) (fun c20 => ?_)
  · refine q_tswC (tgt := 148) d_X12_look_1 h_x1 c20 (by decide) (by decide) rfl (by decide) ?_
    refine q_aload_n d_X12_look_148 rfl ?_
    refine q_getR (n := 1) d_X12_look_149 hA.1 fi_12_7 rfl (Nat.le_of_ble_eq_true rfl) ?_
    refine q_iconst d_X12_look_152 ?_
    refine q_iaload (m := 1732) d_X12_look_153 hA.2.1 (by decide) rfl (fun g21 => ?_)
    exact q_ireti d_X12_look_154 rfl (w_s0 _ _) w_s0
  refine q_ite (fun c22 => ?_) (fun c22 => ?_)
  · refine q_tswC (tgt := 155) d_X12_look_1 h_x1 c22 (by decide) (by decide) rfl (by decide) ?_
    refine q_aload_n d_X12_look_155 rfl ?_
    refine q_getR (n := 1) d_X12_look_156 hA.1 fi_12_7 rfl (Nat.le_of_ble_eq_true rfl) ?_
    refine q_bipush d_X12_look_159 rfl ?_
    refine q_iaload (m := 1732) d_X12_look_161 hA.2.1 (by decide) rfl (fun g23 => ?_)
    exact q_ireti d_X12_look_162 rfl (w_s0 _ _) w_s0
  refine q_ite (fun c24 => ?_) (fun c24 => ?_)
  · refine q_tswC (tgt := 163) d_X12_look_1 h_x1 c24 (by decide) (by decide) rfl (by decide) ?_
    refine q_aload_n d_X12_look_163 rfl ?_
    refine q_getR (n := 1) d_X12_look_164 hA.1 fi_12_7 rfl (Nat.le_of_ble_eq_true rfl) ?_
    refine q_bipush d_X12_look_167 rfl ?_
    refine q_iaload (m := 1732) d_X12_look_169 hA.2.1 (by decide) rfl (fun g25 => ?_)
    exact q_ireti d_X12_look_170 rfl (w_s0 _ _) w_s0
  refine q_ite (fun c26 => ?_) (fun c26 => ?_)
  · refine q_tswC (tgt := 171) d_X12_look_1 h_x1 c26 (by decide) (by decide) rfl (by decide) ?_
    refine q_aload_n d_X12_look_171 rfl ?_
    refine q_getR (n := 1) d_X12_look_172 hA.1 fi_12_7 rfl (Nat.le_of_ble_eq_true rfl) ?_
    refine q_bipush d_X12_look_175 rfl ?_
    refine q_iaload (m := 1732) d_X12_look_177 hA.2.1 (by decide) rfl (fun g27 => ?_)
    exact q_ireti d_X12_look_178 rfl (w_s0 _ _) w_s0
  refine q_ite (fun c28 => ?_) (fun c28 => ?_)
  · refine q_tswC (tgt := 179) d_X12_look_1 h_x1 c28 (by decide) (by decide) rfl (by decide) ?_
    refine q_aload_n d_X12_look_179 rfl ?_
    refine q_getR (n := 1) d_X12_look_180 hA.1 fi_12_7 rfl (Nat.le_of_ble_eq_true rfl) ?_
    refine q_bipush d_X12_look_183 rfl ?_
    refine q_iaload (m := 1732) d_X12_look_185 hA.2.1 (by decide) rfl (fun g29 => ?_)
    exact q_ireti d_X12_look_186 rfl (w_s0 _ _) w_s0
  refine q_ite (fun c30 => ?_) (fun c30 => ?_)
  · refine q_tswC (tgt := 187) d_X12_look_1 h_x1 c30 (by decide) (by decide) rfl (by decide) ?_
    refine q_aload_n d_X12_look_187 rfl ?_
    refine q_getR (n := 1) d_X12_look_188 hA.1 fi_12_7 rfl (Nat.le_of_ble_eq_true rfl) ?_
    refine q_bipush d_X12_look_191 rfl ?_
    refine q_iaload (m := 1732) d_X12_look_193 hA.2.1 (by decide) rfl (fun g31 => ?_)
    exact q_ireti d_X12_look_194 rfl (w_s0 _ _) w_s0
  refine q_ite (fun c32 => ?_) (fun c32 => ?_)
  · refine q_tswC (tgt := 195) d_X12_look_1 h_x1 c32 (by decide) (by decide) rfl (by decide) ?_
    refine q_aload_n d_X12_look_195 rfl ?_
    refine q_getR (n := 1) d_X12_look_196 hA.1 fi_12_7 rfl (Nat.le_of_ble_eq_true rfl) ?_
    refine q_bipush d_X12_look_199 rfl ?_
    refine q_iaload (m := 1732) d_X12_look_201 hA.2.1 (by decide) rfl (fun g33 => ?_)
    exact q_ireti d_X12_look_202 rfl (w_s0 _ _) w_s0
  refine q_ite (fun c34 => ?_) (fun c34 => ?_)
  · refine q_tswC (tgt := 203) d_X12_look_1 h_x1 c34 (by decide) (by decide) rfl (by decide) ?_
    refine q_aload_n d_X12_look_203 rfl ?_
    refine q_getI (k := 4) (j := 4) d_X12_look_204 hA.1 fi_12_68 rfl rfl ?_
    exact q_ireti d_X12_look_207 rfl (w_s0 _ _) w_s0
  refine q_tswD (tgt := 208) d_X12_look_1 h_x1 (by omega) (by decide) ?_
  refine q_iconst d_X12_look_208 ?_
  exact q_ireti d_X12_look_209 rfl (inr_d rfl) w_s0

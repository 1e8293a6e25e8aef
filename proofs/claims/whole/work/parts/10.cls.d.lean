abbrev R_X10_lacks : Room := { frames := 3, cells := 0, slots := 0, locals := 78 }
noncomputable def f_X10_lacks (a : Nat) (x1 : Int) (s0 : Mem) : Res :=
  bd (f_X2_tells (a + 11) 12 (a + 1) x1 s0) fun r1 s2 => bd (f_X4_lean (a + 1) x1 s2) fun r3 s4 => some (wr (r1 - r3), s4)
set_option maxHeartbeats 4000000 in
set_option maxRecDepth 10000 in
theorem c_X10_lacks (κ : Kp) (a : Nat) (hA : At10 κ a) (x1 : Int) (h_x1 : InR x1) (s0 : Mem) : ∀ r σ', f_X10_lacks a x1 s0 = some (r, σ') → Ct κ M_X10_lacks R_X10_lacks [vr κ a, vi x1] s0 r σ' := by
  intro r σ' ho
  refine Ct.of (by decide) (Nat.le_of_ble_eq_true rfl) (cat_ok rfl) (fun w_s0 => ?_) ⟨rfl, rfl⟩
  refine q_ent (ls' := [some (vr κ a), some (vi x1)]) (o := f_X10_lacks a x1 s0) ⟨rfl, rfl, trivial⟩ ?_ ho
  unfold f_X10_lacks
  refine q_aload_n d_X10_lacks_0 rfl ?_
  refine q_getR (n := 11) d_X10_lacks_1 hA.1 fi_10_25 rfl (Nat.le_of_ble_eq_true rfl) ?_
  refine q_bipush d_X10_lacks_4 rfl ?_
  refine q_aload_n d_X10_lacks_6 rfl ?_
  refine q_getR (n := 1) d_X10_lacks_7 hA.1 fi_10_12 rfl (Nat.le_of_ble_eq_true rfl) ?_
  refine q_iload_n (x := x1) d_X10_lacks_10 rfl ?_
  refine q_callI (R' := R_X2_tells) (runV (As := [vi 12, vr κ (a + 1), vi x1]) (rest := []) d_X10_lacks_11.1 cv_10_129 rfl hA.2.2.2.1.1 rfl rfl ⟨rfl, rfl, by decide, by decide⟩ (Nat.le_of_ble_eq_true rfl) w_s0 rfl) d_X10_lacks_11.2 (c_X2_tells κ (a + 11) hA.2.2.2.1 12 (inr_d rfl) (a + 1) hA.2.1 x1 h_x1 s0) rfl (fun r1 s2 h_r1 w_s2 => ?_)
  refine q_aload_n d_X10_lacks_14 rfl ?_
  refine q_getR (n := 1) d_X10_lacks_15 hA.1 fi_10_12 rfl (Nat.le_of_ble_eq_true rfl) ?_
  refine q_iload_n (x := x1) d_X10_lacks_18 rfl ?_
  refine q_callI (R' := R_X4_lean) (runV (As := [vi x1]) (rest := [vi r1]) d_X10_lacks_19.1 cv_10_173 rfl hA.2.1.1 rfl rfl ⟨rfl, rfl, by decide, by decide⟩ (Nat.le_of_ble_eq_true rfl) w_s2 rfl) d_X10_lacks_19.2 (c_X4_lean κ (a + 1) hA.2.1 x1 h_x1 s2) rfl (fun r3 s4 h_r3 w_s4 => ?_)
  refine q_isub d_X10_lacks_22 ?_
  exact q_ireti d_X10_lacks_23 rfl (inr_wr _) w_s4
abbrev R_X10_heaviest : Room := { frames := 4, cells := 0, slots := 0, locals := 99 }
noncomputable def f_X10_heaviest_6 (a : Nat) (k57 : Int → Mem → Res) : Nat → Int → Int → Int → Mem → Res
  | 0, _, _, _, _ => none
  | n + 1, x1, x2, x3, s0 =>
    if x3 < s0 (a + 1) 8 then (bd (f_X4_afloat (a + 1) x3 s0) fun r4 s5 => jn (fun (v6 : Int) (v7 : Int) (s8 : Mem) => f_X10_heaviest_6 a k57 n v6 v7 (wr (x3 + 1)) s8) fun j51 => if r4 = 0 then (j51 x1 x2 s5) else (bd (f_X10_lacks a x3 s5) fun r10 s11 => jn (fun (_ : Unit) => j51 x3 r10 s11) fun j46 => if x1 = (-1) then (j46 ()) else (if r10 < x2 then (j46 ()) else (j51 x1 x2 s11)))) else (k57 x1 s0)
noncomputable def f_X10_heaviest (a : Nat) (s0 : Mem) : Res :=
  jn (fun (v1 : Int) (s2 : Mem) => some (v1, s2)) fun j57 => f_X10_heaviest_6 a j57 FU (-1) 0 0 s0
set_option maxHeartbeats 4000000 in
set_option maxRecDepth 10000 in
theorem l_X10_heaviest_6 (κ : Kp) (a : Nat) (hA : At10 κ a) (k57 : Int → Mem → Res) (hk57 : ∀ (z1 : Int) (h_z1 : InR z1) (sz : Mem) (w_sz : WF sz), EO κ M_X10_heaviest R_X10_heaviest 57 [none, some (vi z1), none, none, none] [] sz (k57 z1 sz)) : ∀ (n : Nat) (x1 : Int) (h_x1 : InR x1) (x2 : Int) (h_x2 : InR x2) (x3 : Int) (h_x3 : InR x3) (s0 : Mem) (w_s0 : WF s0), EO κ M_X10_heaviest R_X10_heaviest 6 [some (vr κ a), some (vi x1), some (vi x2), some (vi x3), none] [] s0 (f_X10_heaviest_6 a k57 n x1 x2 x3 s0) := by
  intro n
  induction n with
  | zero => exact fun _ _ _ _ _ _ _ _ => q_none
  | succ n ih =>
    intro x1 h_x1 x2 h_x2 x3 h_x3 s0 w_s0
    rw [f_X10_heaviest_6]
    refine q_iload_n (x := x3) d_X10_heaviest_6 rfl ?_
    refine q_aload_n d_X10_heaviest_7 rfl ?_
    refine q_getR (n := 1) d_X10_heaviest_8 hA.1 fi_10_12 rfl (Nat.le_of_ble_eq_true rfl) ?_
    refine q_getI (k := 8) (j := 8) d_X10_heaviest_11 hA.2.1.1 fi_10_112 rfl rfl ?_
    refine q_icmp_ge d_X10_heaviest_14 h_x3 (w_s0 _ _) (fun c3 => ?_) (fun c3 => ?_)
    · refine q_aload_n d_X10_heaviest_17 rfl ?_
      refine q_getR (n := 1) d_X10_heaviest_18 hA.1 fi_10_12 rfl (Nat.le_of_ble_eq_true rfl) ?_
      refine q_iload_n (x := x3) d_X10_heaviest_21 rfl ?_
      refine q_callZ (R' := R_X4_afloat) (runV (As := [vi x3]) (rest := []) d_X10_heaviest_22.1 cv_10_115 rfl hA.2.1.1 rfl rfl ⟨rfl, rfl, by decide, by decide⟩ (Nat.le_of_ble_eq_true rfl) w_s0 rfl) d_X10_heaviest_22.2 (c_X4_afloat κ (a + 1) hA.2.1 x3 h_x3 s0) rfl (fun r4 s5 h_r4 w_s5 => ?_)
      refine q_jn (α := Int → Int → Mem → Res) (fun j51 => ∀ (v6 : Int) (h_v6 : InR v6) (v7 : Int) (h_v7 : InR v7) (s8 : Mem) (w_s8 : WF s8), EO κ M_X10_heaviest R_X10_heaviest 51 [some (vr κ a), some (vi v6), some (vi v7), some (vi x3), none] [] s8 (j51 v6 v7 s8)) ?_ (fun j51 hj51 => ?_)
      · intro v6 h_v6 v7 h_v7 s8 w_s8
        refine q_iinc (x := x3) d_X10_heaviest_51 rfl rfl ?_
        refine q_goto d_X10_heaviest_54 ?_
        refine q_sub (ls' := [some (vr κ a), some (vi v6), some (vi v7), some (vi (wr (x3 + 1))), none]) ⟨rfl, rfl, rfl, rfl, trivial⟩ ?_
        exact ih v6 h_v6 v7 h_v7 (wr (x3 + 1)) (inr_wr _) s8 w_s8
      refine q_if_eq d_X10_heaviest_25 (inr_b h_r4) (fun c9 => ?_) (fun c9 => ?_)
      · refine q_sub (ls' := [some (vr κ a), some (vi x1), some (vi x2), some (vi x3), none]) ⟨rfl, rfl, rfl, rfl, trivial⟩ ?_
        exact hj51 x1 h_x1 x2 h_x2 s5 w_s5
      · refine q_aload_n d_X10_heaviest_28 rfl ?_
        refine q_iload_n (x := x3) d_X10_heaviest_29 rfl ?_
        refine q_callI (R' := R_X10_lacks) (runV (As := [vi x3]) (rest := []) d_X10_heaviest_30.1 cv_10_204 rfl hA.1 rfl rfl ⟨rfl, rfl, by decide, by decide⟩ (Nat.le_of_ble_eq_true rfl) w_s5 rfl) d_X10_heaviest_30.2 (c_X10_lacks κ a hA x3 h_x3 s5) rfl (fun r10 s11 h_r10 w_s11 => ?_)
        refine q_istore d_X10_heaviest_33 rfl ?_
        refine q_iload_n (x := x1) d_X10_heaviest_35 rfl ?_
        refine q_iconst d_X10_heaviest_36 ?_
        refine q_jn (α := Unit → Res) (fun j46 => EO κ M_X10_heaviest R_X10_heaviest 46 [some (vr κ a), none, none, some (vi x3), some (vi r10)] [] s11 (j46 ())) ?_ (fun j46 hj46 => ?_)
        · refine q_iload_n (x := x3) d_X10_heaviest_46 rfl ?_
          refine q_istore_n d_X10_heaviest_47 rfl ?_
          refine q_iload (x := r10) d_X10_heaviest_48 rfl ?_
          refine q_istore_n d_X10_heaviest_50 rfl ?_
          refine q_sub (ls' := [some (vr κ a), some (vi x3), some (vi r10), some (vi x3), none]) ⟨rfl, rfl, rfl, rfl, trivial⟩ ?_
          exact hj51 x3 h_x3 r10 h_r10 s11 w_s11
        refine q_icmp_eq d_X10_heaviest_37 h_x1 (inr_d rfl) (fun c12 => ?_) (fun c12 => ?_)
        · refine q_sub (ls' := [some (vr κ a), none, none, some (vi x3), some (vi r10)]) ⟨rfl, rfl, rfl, trivial⟩ ?_
          exact hj46 
        · refine q_iload (x := r10) d_X10_heaviest_40 rfl ?_
          refine q_iload_n (x := x2) d_X10_heaviest_42 rfl ?_
          refine q_icmp_ge d_X10_heaviest_43 h_r10 h_x2 (fun c13 => ?_) (fun c13 => ?_)
          · refine q_sub (ls' := [some (vr κ a), none, none, some (vi x3), some (vi r10)]) ⟨rfl, rfl, rfl, trivial⟩ ?_
            exact hj46 
          · refine q_sub (ls' := [some (vr κ a), some (vi x1), some (vi x2), some (vi x3), none]) ⟨rfl, rfl, rfl, rfl, trivial⟩ ?_
            exact hj51 x1 h_x1 x2 h_x2 s11 w_s11
    · refine q_sub (ls' := [none, some (vi x1), none, none, none]) ⟨rfl, trivial⟩ ?_
      exact hk57 x1 h_x1 s0 w_s0
set_option maxHeartbeats 4000000 in
set_option maxRecDepth 10000 in
theorem c_X10_heaviest (κ : Kp) (a : Nat) (hA : At10 κ a) (s0 : Mem) : ∀ r σ', f_X10_heaviest a s0 = some (r, σ') → Ct κ M_X10_heaviest R_X10_heaviest [vr κ a] s0 r σ' := by
  intro r σ' ho
  refine Ct.of (by decide) (Nat.le_of_ble_eq_true rfl) (cat_ok rfl) (fun w_s0 => ?_) ⟨rfl, rfl⟩
  refine q_ent (ls' := [some (vr κ a), none, none, none, none]) (o := f_X10_heaviest a s0) ⟨rfl, trivial⟩ ?_ ho
  unfold f_X10_heaviest
  refine q_iconst d_X10_heaviest_0 ?_
  refine q_istore_n d_X10_heaviest_1 rfl ?_
  refine q_iconst d_X10_heaviest_2 ?_
  refine q_istore_n d_X10_heaviest_3 rfl ?_
  refine q_iconst d_X10_heaviest_4 ?_
  refine q_istore_n d_X10_heaviest_5 rfl ?_
  refine q_jn (α := Int → Mem → Res) (fun j57 => ∀ (v1 : Int) (h_v1 : InR v1) (s2 : Mem) (w_s2 : WF s2), EO κ M_X10_heaviest R_X10_heaviest 57 [none, some (vi v1), none, none, none] [] s2 (j57 v1 s2)) ?_ (fun j57 hj57 => ?_)
  · intro v1 h_v1 s2 w_s2
    refine q_iload_n (x := v1) d_X10_heaviest_57 rfl ?_
    exact q_ireti d_X10_heaviest_58 rfl h_v1 w_s2
  refine q_sub (ls' := [some (vr κ a), some (vi (-1)), some (vi 0), some (vi 0), none]) ⟨rfl, rfl, rfl, rfl, trivial⟩ ?_
  exact l_X10_heaviest_6 κ a hA j57 hj57 FU (-1) (inr_d rfl) 0 (inr_b (Or.inl rfl)) 0 (inr_b (Or.inl rfl)) s0 w_s0
abbrev R_X11_state : Room := { frames := 1, cells := 0, slots := 0, locals := 20 }
noncomputable def f_X11_state (a : Nat) (x1 : Int) (s0 : Mem) : Res :=
  lm (mup s0 ((a + 1) + 1) 9 x1) fun s1 => bd (f_X5_forget (a + 77) s1) fun r2 s3 => some (s0 ((a + 1) + 1) 9, s3)
set_option maxHeartbeats 4000000 in
set_option maxRecDepth 10000 in
theorem c_X11_state (κ : Kp) (a : Nat) (hA : At11 κ a) (x1 : Int) (h_x1 : InR x1) (s0 : Mem) : ∀ r σ', f_X11_state a x1 s0 = some (r, σ') → Ct κ M_X11_state R_X11_state [vr κ a, vi x1] s0 r σ' := by
  intro r σ' ho
  refine Ct.of (by decide) (Nat.le_of_ble_eq_true rfl) (cat_ok rfl) (fun w_s0 => ?_) ⟨rfl, rfl⟩
  refine q_ent (ls' := [some (vr κ a), some (vi x1), none]) (o := f_X11_state a x1 s0) ⟨rfl, rfl, trivial⟩ ?_ ho
  unfold f_X11_state
  refine q_aload_n d_X11_state_0 rfl ?_
  refine q_getR (n := 1) d_X11_state_1 hA.1 fi_11_10 rfl (Nat.le_of_ble_eq_true rfl) ?_
  refine q_getR (n := 1) d_X11_state_4 hA.2.1.1 fi_11_44 rfl (Nat.le_of_ble_eq_true rfl) ?_
  refine q_getI (k := 9) (j := 9) d_X11_state_7 hA.2.1.2.1.1 fi_11_48 rfl rfl ?_
  refine q_istore_n d_X11_state_10 rfl ?_
  refine q_aload_n d_X11_state_11 rfl ?_
  refine q_getR (n := 1) d_X11_state_12 hA.1 fi_11_10 rfl (Nat.le_of_ble_eq_true rfl) ?_
  refine q_getR (n := 1) d_X11_state_15 hA.2.1.1 fi_11_44 rfl (Nat.le_of_ble_eq_true rfl) ?_
  refine q_iload_n (x := x1) d_X11_state_18 rfl ?_
  refine q_putI (k := 9) (j := 9) d_X11_state_19 hA.2.1.2.1.1 fp_11_48 rfl rfl h_x1 w_s0 (fun s1 w_s1 => ?_)
  refine q_aload_n d_X11_state_22 rfl ?_
  refine q_getR (n := 77) d_X11_state_23 hA.1 fi_11_22 rfl (Nat.le_of_ble_eq_true rfl) ?_
  refine q_callV (R' := R_X5_forget) (runV (As := []) (rest := []) d_X11_state_26.1 cv_11_54 rfl hA.2.2.2.1.1 rfl rfl ⟨rfl, rfl, by decide, by decide⟩ (Nat.le_of_ble_eq_true rfl) w_s1 rfl) d_X11_state_26.2 (c_X5_forget κ (a + 77) hA.2.2.2.1 s1) rfl (fun r2 s3 w_s3 => ?_)
  refine q_iload_n (x := s0 ((a + 1) + 1) 9) d_X11_state_29 rfl ?_
  exact q_ireti d_X11_state_30 rfl (w_s0 _ _) w_s3
abbrev R_X11_boat : Room := { frames := 2, cells := 0, slots := 0, locals := 46 }
noncomputable def f_X11_boat (a : Nat) (x1 : Int) (x2 : Int) (x3 : Int) (s0 : Mem) : Res :=
  bd (f_X11_within x1 1 40 s0) fun r1 s2 => if r1 = 0 then (some ((-1), s2)) else (bd (f_X11_within x2 0 2 s2) fun r4 s5 => if r4 = 0 then (some ((-1), s5)) else (bd (f_X11_within x3 0 15 s5) fun r7 s8 => if r7 = 0 then (some ((-1), s8)) else (if s8 ((a + 1) + 1) 8 < 10 then (bd (f_X5_forget (a + 77) s8) fun r11 s12 => bd (f_X4_launch ((a + 1) + 1) x1 x2 x3 s12) fun r13 s14 => some (r13, s14)) else (some ((-1), s8)))))
set_option maxHeartbeats 4000000 in
set_option maxRecDepth 10000 in
theorem c_X11_boat (κ : Kp) (a : Nat) (hA : At11 κ a) (x1 : Int) (h_x1 : InR x1) (x2 : Int) (h_x2 : InR x2) (x3 : Int) (h_x3 : InR x3) (s0 : Mem) : ∀ r σ', f_X11_boat a x1 x2 x3 s0 = some (r, σ') → Ct κ M_X11_boat R_X11_boat [vr κ a, vi x1, vi x2, vi x3] s0 r σ' := by
  intro r σ' ho
  refine Ct.of (by decide) (Nat.le_of_ble_eq_true rfl) (cat_ok rfl) (fun w_s0 => ?_) ⟨rfl, rfl⟩
  refine q_ent (ls' := [some (vr κ a), some (vi x1), some (vi x2), some (vi x3), none]) (o := f_X11_boat a x1 x2 x3 s0) ⟨rfl, rfl, rfl, rfl, trivial⟩ ?_ ho
  unfold f_X11_boat
  refine q_aload_n d_X11_boat_0 rfl ?_
  refine q_getR (n := 1) d_X11_boat_1 hA.1 fi_11_10 rfl (Nat.le_of_ble_eq_true rfl) ?_
  refine q_getR (n := 1) d_X11_boat_4 hA.2.1.1 fi_11_44 rfl (Nat.le_of_ble_eq_true rfl) ?_
  refine q_astore d_X11_boat_7 rfl ?_
  refine q_iload_n (x := x1) d_X11_boat_9 rfl ?_
  refine q_iconst d_X11_boat_10 ?_
  refine q_bipush d_X11_boat_11 rfl ?_
  refine q_callZ (R' := R_X11_within) (runS (As := [vi x1, vi 1, vi 40]) (rest := []) d_X11_boat_13.1 cv_11_57 rfl ⟨rfl, rfl, by decide, by decide⟩ (Nat.le_of_ble_eq_true rfl) w_s0 rfl) d_X11_boat_13.2 (c_X11_within κ x1 h_x1 1 (inr_b (Or.inr rfl)) 40 (inr_d rfl) s0) rfl (fun r1 s2 h_r1 w_s2 => ?_)
  refine q_if_eq d_X11_boat_16 (inr_b h_r1) (fun c3 => ?_) (fun c3 => ?_)
  · refine q_iconst d_X11_boat_48 ?_
    exact q_ireti d_X11_boat_49 rfl (inr_d rfl) w_s2
  · refine q_iload_n (x := x2) d_X11_boat_19 rfl ?_
    refine q_iconst d_X11_boat_20 ?_
    refine q_iconst d_X11_boat_21 ?_
    refine q_callZ (R' := R_X11_within) (runS (As := [vi x2, vi 0, vi 2]) (rest := []) d_X11_boat_22.1 cv_11_57 rfl ⟨rfl, rfl, by decide, by decide⟩ (Nat.le_of_ble_eq_true rfl) w_s2 rfl) d_X11_boat_22.2 (c_X11_within κ x2 h_x2 0 (inr_b (Or.inl rfl)) 2 (inr_d rfl) s2) rfl (fun r4 s5 h_r4 w_s5 => ?_)
    refine q_if_eq d_X11_boat_25 (inr_b h_r4) (fun c6 => ?_) (fun c6 => ?_)
    · refine q_iconst d_X11_boat_48 ?_
      exact q_ireti d_X11_boat_49 rfl (inr_d rfl) w_s5
    · refine q_iload_n (x := x3) d_X11_boat_28 rfl ?_
      refine q_iconst d_X11_boat_29 ?_
      refine q_bipush d_X11_boat_30 rfl ?_
      refine q_callZ (R' := R_X11_within) (runS (As := [vi x3, vi 0, vi 15]) (rest := []) d_X11_boat_32.1 cv_11_57 rfl ⟨rfl, rfl, by decide, by decide⟩ (Nat.le_of_ble_eq_true rfl) w_s5 rfl) d_X11_boat_32.2 (c_X11_within κ x3 h_x3 0 (inr_b (Or.inl rfl)) 15 (inr_d rfl) s5) rfl (fun r7 s8 h_r7 w_s8 => ?_)
      refine q_if_eq d_X11_boat_35 (inr_b h_r7) (fun c9 => ?_) (fun c9 => ?_)
      · refine q_iconst d_X11_boat_48 ?_
        exact q_ireti d_X11_boat_49 rfl (inr_d rfl) w_s8
      · refine q_aload d_X11_boat_38 rfl ?_
        refine q_getI (k := 8) (j := 8) d_X11_boat_40 hA.2.1.2.1.1 fi_11_61 rfl rfl ?_
        refine q_bipush d_X11_boat_43 rfl ?_
        refine q_icmp_lt d_X11_boat_45 (w_s8 _ _) (inr_d rfl) (fun c10 => ?_) (fun c10 => ?_)
        · refine q_aload_n d_X11_boat_50 rfl ?_
          refine q_getR (n := 77) d_X11_boat_51 hA.1 fi_11_22 rfl (Nat.le_of_ble_eq_true rfl) ?_
          refine q_callV (R' := R_X5_forget) (runV (As := []) (rest := []) d_X11_boat_54.1 cv_11_54 rfl hA.2.2.2.1.1 rfl rfl ⟨rfl, rfl, by decide, by decide⟩ (Nat.le_of_ble_eq_true rfl) w_s8 rfl) d_X11_boat_54.2 (c_X5_forget κ (a + 77) hA.2.2.2.1 s8) rfl (fun r11 s12 w_s12 => ?_)
          refine q_aload d_X11_boat_57 rfl ?_
          refine q_iload_n (x := x1) d_X11_boat_59 rfl ?_
          refine q_iload_n (x := x2) d_X11_boat_60 rfl ?_
          refine q_iload_n (x := x3) d_X11_boat_61 rfl ?_
          refine q_callI (R' := R_X4_launch) (runV (As := [vi x1, vi x2, vi x3]) (rest := []) d_X11_boat_62.1 cv_11_64 rfl hA.2.1.2.1.1 rfl rfl ⟨rfl, rfl, by decide, by decide⟩ (Nat.le_of_ble_eq_true rfl) w_s12 rfl) d_X11_boat_62.2 (c_X4_launch κ ((a + 1) + 1) hA.2.1.2.1 x1 h_x1 x2 h_x2 x3 h_x3 s12) rfl (fun r13 s14 h_r13 w_s14 => ?_)
          exact q_ireti d_X11_boat_65 rfl h_r13 w_s14
        · refine q_iconst d_X11_boat_48 ?_
          exact q_ireti d_X11_boat_49 rfl (inr_d rfl) w_s8
abbrev R_X11_set : Room := { frames := 3, cells := 0, slots := 0, locals := 67 }
noncomputable def f_X11_set (a : Nat) (x1 : Int) (x2 : Int) (x3 : Int) (s0 : Mem) : Res :=
  bd (f_X4_tell ((a + 1) + 1) x1 x2 x3 s0) fun r1 s2 => if r1 = 0 then (some (0, s2)) else (bd (f_X5_forget (a + 77) s2) fun r4 s5 => some (1, s5))
set_option maxHeartbeats 4000000 in
set_option maxRecDepth 10000 in
theorem c_X11_set (κ : Kp) (a : Nat) (hA : At11 κ a) (x1 : Int) (h_x1 : InR x1) (x2 : Int) (h_x2 : InR x2) (x3 : Int) (h_x3 : InR x3) (s0 : Mem) : ∀ r σ', f_X11_set a x1 x2 x3 s0 = some (r, σ') → Ct κ M_X11_set R_X11_set [vr κ a, vi x1, vi x2, vi x3] s0 r σ' := by
  intro r σ' ho
  refine Ct.of (by decide) (Nat.le_of_ble_eq_true rfl) (cat_ok rfl) (fun w_s0 => ?_) ⟨rfl, rfl⟩
  refine q_ent (ls' := [some (vr κ a), some (vi x1), some (vi x2), some (vi x3)]) (o := f_X11_set a x1 x2 x3 s0) ⟨rfl, rfl, rfl, rfl, trivial⟩ ?_ ho
  unfold f_X11_set
  refine q_aload_n d_X11_set_0 rfl ?_
  refine q_getR (n := 1) d_X11_set_1 hA.1 fi_11_10 rfl (Nat.le_of_ble_eq_true rfl) ?_
  refine q_getR (n := 1) d_X11_set_4 hA.2.1.1 fi_11_44 rfl (Nat.le_of_ble_eq_true rfl) ?_
  refine q_iload_n (x := x1) d_X11_set_7 rfl ?_
  refine q_iload_n (x := x2) d_X11_set_8 rfl ?_
  refine q_iload_n (x := x3) d_X11_set_9 rfl ?_
  refine q_callZ (R' := R_X4_tell) (runV (As := [vi x1, vi x2, vi x3]) (rest := []) d_X11_set_10.1 cv_11_68 rfl hA.2.1.2.1.1 rfl rfl ⟨rfl, rfl, by decide, by decide⟩ (Nat.le_of_ble_eq_true rfl) w_s0 rfl) d_X11_set_10.2 (c_X4_tell κ ((a + 1) + 1) hA.2.1.2.1 x1 h_x1 x2 h_x2 x3 h_x3 s0) rfl (fun r1 s2 h_r1 w_s2 => ?_)
  refine q_if_ne d_X11_set_13 (inr_b h_r1) (fun c3 => ?_) (fun c3 => ?_)
  · refine q_iconst d_X11_set_16 ?_
    exact q_iretz d_X11_set_17 rfl (Or.inl rfl) w_s2
  · refine q_aload_n d_X11_set_18 rfl ?_
    refine q_getR (n := 77) d_X11_set_19 hA.1 fi_11_22 rfl (Nat.le_of_ble_eq_true rfl) ?_
    refine q_callV (R' := R_X5_forget) (runV (As := []) (rest := []) d_X11_set_22.1 cv_11_54 rfl hA.2.2.2.1.1 rfl rfl ⟨rfl, rfl, by decide, by decide⟩ (Nat.le_of_ble_eq_true rfl) w_s2 rfl) d_X11_set_22.2 (c_X5_forget κ (a + 77) hA.2.2.2.1 s2) rfl (fun r4 s5 w_s5 => ?_)
    refine q_iconst d_X11_set_25 ?_
    exact q_iretz d_X11_set_26 rfl (Or.inr rfl) w_s5
abbrev R_X11_turn : Room := { frames := 4, cells := 0, slots := 0, locals := 123 }
noncomputable def f_X11_turn (a : Nat) (x1 : Int) (s0 : Mem) : Res :=
  bd (f_X4_afloat ((a + 1) + 1) x1 s0) fun r1 s2 => if r1 = 0 then (some (0, s2)) else (bd (f_X5_keep (a + 77) ((a + 1) + 1) s2) fun r4 s5 => bd (f_X10_turnAbout (a + 1) ((a + 1) + 1) x1 1 s5) fun r6 s7 => some (1, s7))
set_option maxHeartbeats 4000000 in
set_option maxRecDepth 10000 in
theorem c_X11_turn (κ : Kp) (a : Nat) (hA : At11 κ a) (x1 : Int) (h_x1 : InR x1) (s0 : Mem) : ∀ r σ', f_X11_turn a x1 s0 = some (r, σ') → Ct κ M_X11_turn R_X11_turn [vr κ a, vi x1] s0 r σ' := by
  intro r σ' ho
  refine Ct.of (by decide) (Nat.le_of_ble_eq_true rfl) (cat_ok rfl) (fun w_s0 => ?_) ⟨rfl, rfl⟩
  refine q_ent (ls' := [some (vr κ a), some (vi x1)]) (o := f_X11_turn a x1 s0) ⟨rfl, rfl, trivial⟩ ?_ ho
  unfold f_X11_turn
  refine q_aload_n d_X11_turn_0 rfl ?_
  refine q_getR (n := 1) d_X11_turn_1 hA.1 fi_11_10 rfl (Nat.le_of_ble_eq_true rfl) ?_
  refine q_getR (n := 1) d_X11_turn_4 hA.2.1.1 fi_11_44 rfl (Nat.le_of_ble_eq_true rfl) ?_
  refine q_iload_n (x := x1) d_X11_turn_7 rfl ?_
  refine q_callZ (R' := R_X4_afloat) (runV (As := [vi x1]) (rest := []) d_X11_turn_8.1 cv_11_71 rfl hA.2.1.2.1.1 rfl rfl ⟨rfl, rfl, by decide, by decide⟩ (Nat.le_of_ble_eq_true rfl) w_s0 rfl) d_X11_turn_8.2 (c_X4_afloat κ ((a + 1) + 1) hA.2.1.2.1 x1 h_x1 s0) rfl (fun r1 s2 h_r1 w_s2 => ?_)
  refine q_if_ne d_X11_turn_11 (inr_b h_r1) (fun c3 => ?_) (fun c3 => ?_)
  · refine q_iconst d_X11_turn_14 ?_
    exact q_iretz d_X11_turn_15 rfl (Or.inl rfl) w_s2
  · refine q_aload_n d_X11_turn_16 rfl ?_
    refine q_getR (n := 77) d_X11_turn_17 hA.1 fi_11_22 rfl (Nat.le_of_ble_eq_true rfl) ?_
    refine q_aload_n d_X11_turn_20 rfl ?_
    refine q_getR (n := 1) d_X11_turn_21 hA.1 fi_11_10 rfl (Nat.le_of_ble_eq_true rfl) ?_
    refine q_getR (n := 1) d_X11_turn_24 hA.2.1.1 fi_11_44 rfl (Nat.le_of_ble_eq_true rfl) ?_
    refine q_callV (R' := R_X5_keep) (runV (As := [vr κ ((a + 1) + 1)]) (rest := []) d_X11_turn_27.1 cv_11_75 rfl hA.2.2.2.1.1 rfl rfl ⟨rfl, rfl, by decide, by decide⟩ (Nat.le_of_ble_eq_true rfl) w_s2 rfl) d_X11_turn_27.2 (c_X5_keep κ (a + 77) hA.2.2.2.1 ((a + 1) + 1) hA.2.1.2.1 s2) rfl (fun r4 s5 w_s5 => ?_)
    refine q_aload_n d_X11_turn_30 rfl ?_
    refine q_getR (n := 1) d_X11_turn_31 hA.1 fi_11_10 rfl (Nat.le_of_ble_eq_true rfl) ?_
    refine q_aload_n d_X11_turn_34 rfl ?_
    refine q_getR (n := 1) d_X11_turn_35 hA.1 fi_11_10 rfl (Nat.le_of_ble_eq_true rfl) ?_
    refine q_getR (n := 1) d_X11_turn_38 hA.2.1.1 fi_11_44 rfl (Nat.le_of_ble_eq_true rfl) ?_
    refine q_iload_n (x := x1) d_X11_turn_41 rfl ?_
    refine q_iconst d_X11_turn_42 ?_
    refine q_callV (R' := R_X10_turnAbout) (runV (As := [vr κ ((a + 1) + 1), vi x1, vi 1]) (rest := []) d_X11_turn_43.1 cv_11_79 rfl hA.2.1.1 rfl rfl ⟨rfl, rfl, by decide, by decide⟩ (Nat.le_of_ble_eq_true rfl) w_s5 rfl) d_X11_turn_43.2 (c_X10_turnAbout κ (a + 1) hA.2.1 ((a + 1) + 1) hA.2.1.2.1 x1 h_x1 1 (inr_b (Or.inr rfl)) s5) rfl (fun r6 s7 w_s7 => ?_)
    refine q_iconst d_X11_turn_46 ?_
    exact q_iretz d_X11_turn_47 rfl (Or.inr rfl) w_s7
abbrev R_X11_home : Room := { frames := 4, cells := 0, slots := 0, locals := 123 }
noncomputable def f_X11_home (a : Nat) (x1 : Int) (s0 : Mem) : Res :=
  bd (f_X4_afloat ((a + 1) + 1) x1 s0) fun r1 s2 => if r1 = 0 then (some ((-1), s2)) else (bd (f_X5_keep (a + 77) ((a + 1) + 1) s2) fun r4 s5 => bd (f_X10_bringHome (a + 1) ((a + 1) + 1) x1 1 s5) fun r6 s7 => some (r6, s7))
set_option maxHeartbeats 4000000 in
set_option maxRecDepth 10000 in
theorem c_X11_home (κ : Kp) (a : Nat) (hA : At11 κ a) (x1 : Int) (h_x1 : InR x1) (s0 : Mem) : ∀ r σ', f_X11_home a x1 s0 = some (r, σ') → Ct κ M_X11_home R_X11_home [vr κ a, vi x1] s0 r σ' := by
  intro r σ' ho
  refine Ct.of (by decide) (Nat.le_of_ble_eq_true rfl) (cat_ok rfl) (fun w_s0 => ?_) ⟨rfl, rfl⟩
  refine q_ent (ls' := [some (vr κ a), some (vi x1)]) (o := f_X11_home a x1 s0) ⟨rfl, rfl, trivial⟩ ?_ ho
  unfold f_X11_home
  refine q_aload_n d_X11_home_0 rfl ?_
  refine q_getR (n := 1) d_X11_home_1 hA.1 fi_11_10 rfl (Nat.le_of_ble_eq_true rfl) ?_
  refine q_getR (n := 1) d_X11_home_4 hA.2.1.1 fi_11_44 rfl (Nat.le_of_ble_eq_true rfl) ?_
  refine q_iload_n (x := x1) d_X11_home_7 rfl ?_
  refine q_callZ (R' := R_X4_afloat) (runV (As := [vi x1]) (rest := []) d_X11_home_8.1 cv_11_71 rfl hA.2.1.2.1.1 rfl rfl ⟨rfl, rfl, by decide, by decide⟩ (Nat.le_of_ble_eq_true rfl) w_s0 rfl) d_X11_home_8.2 (c_X4_afloat κ ((a + 1) + 1) hA.2.1.2.1 x1 h_x1 s0) rfl (fun r1 s2 h_r1 w_s2 => ?_)
  refine q_if_ne d_X11_home_11 (inr_b h_r1) (fun c3 => ?_) (fun c3 => ?_)
  · refine q_iconst d_X11_home_14 ?_
    exact q_ireti d_X11_home_15 rfl (inr_d rfl) w_s2
  · refine q_aload_n d_X11_home_16 rfl ?_
    refine q_getR (n := 77) d_X11_home_17 hA.1 fi_11_22 rfl (Nat.le_of_ble_eq_true rfl) ?_
    refine q_aload_n d_X11_home_20 rfl ?_
    refine q_getR (n := 1) d_X11_home_21 hA.1 fi_11_10 rfl (Nat.le_of_ble_eq_true rfl) ?_
    refine q_getR (n := 1) d_X11_home_24 hA.2.1.1 fi_11_44 rfl (Nat.le_of_ble_eq_true rfl) ?_
    refine q_callV (R' := R_X5_keep) (runV (As := [vr κ ((a + 1) + 1)]) (rest := []) d_X11_home_27.1 cv_11_75 rfl hA.2.2.2.1.1 rfl rfl ⟨rfl, rfl, by decide, by decide⟩ (Nat.le_of_ble_eq_true rfl) w_s2 rfl) d_X11_home_27.2 (c_X5_keep κ (a + 77) hA.2.2.2.1 ((a + 1) + 1) hA.2.1.2.1 s2) rfl (fun r4 s5 w_s5 => ?_)
    refine q_aload_n d_X11_home_30 rfl ?_
    refine q_getR (n := 1) d_X11_home_31 hA.1 fi_11_10 rfl (Nat.le_of_ble_eq_true rfl) ?_
    refine q_aload_n d_X11_home_34 rfl ?_
    refine q_getR (n := 1) d_X11_home_35 hA.1 fi_11_10 rfl (Nat.le_of_ble_eq_true rfl) ?_
    refine q_getR (n := 1) d_X11_home_38 hA.2.1.1 fi_11_44 rfl (Nat.le_of_ble_eq_true rfl) ?_
    refine q_iload_n (x := x1) d_X11_home_41 rfl ?_
    refine q_iconst d_X11_home_42 ?_
    refine q_callI (R' := R_X10_bringHome) (runV (As := [vr κ ((a + 1) + 1), vi x1, vi 1]) (rest := []) d_X11_home_43.1 cv_11_83 rfl hA.2.1.1 rfl rfl ⟨rfl, rfl, by decide, by decide⟩ (Nat.le_of_ble_eq_true rfl) w_s5 rfl) d_X11_home_43.2 (c_X10_bringHome κ (a + 1) hA.2.1 ((a + 1) + 1) hA.2.1.2.1 x1 h_x1 1 (inr_b (Or.inr rfl)) s5) rfl (fun r6 s7 h_r6 w_s7 => ?_)
    exact q_ireti d_X11_home_46 rfl h_r6 w_s7
abbrev R_X11_move : Room := { frames := 4, cells := 0, slots := 0, locals := 123 }
noncomputable def f_X11_move (a : Nat) (x1 : Int) (x2 : Int) (s0 : Mem) : Res :=
  bd (f_X4_afloat ((a + 1) + 1) x1 s0) fun r1 s2 => if r1 = 0 then (some (0, s2)) else (bd (f_X11_within x2 0 15 s2) fun r4 s5 => if r4 = 0 then (some (0, s5)) else (bd (f_X5_keep (a + 77) ((a + 1) + 1) s5) fun r7 s8 => bd (f_X10_bringTo (a + 1) ((a + 1) + 1) x1 x2 1 s8) fun r9 s10 => some (1, s10)))
set_option maxHeartbeats 4000000 in
set_option maxRecDepth 10000 in
theorem c_X11_move (κ : Kp) (a : Nat) (hA : At11 κ a) (x1 : Int) (h_x1 : InR x1) (x2 : Int) (h_x2 : InR x2) (s0 : Mem) : ∀ r σ', f_X11_move a x1 x2 s0 = some (r, σ') → Ct κ M_X11_move R_X11_move [vr κ a, vi x1, vi x2] s0 r σ' := by
  intro r σ' ho
  refine Ct.of (by decide) (Nat.le_of_ble_eq_true rfl) (cat_ok rfl) (fun w_s0 => ?_) ⟨rfl, rfl⟩
  refine q_ent (ls' := [some (vr κ a), some (vi x1), some (vi x2)]) (o := f_X11_move a x1 x2 s0) ⟨rfl, rfl, rfl, trivial⟩ ?_ ho
  unfold f_X11_move
  refine q_aload_n d_X11_move_0 rfl ?_
  refine q_getR (n := 1) d_X11_move_1 hA.1 fi_11_10 rfl (Nat.le_of_ble_eq_true rfl) ?_
  refine q_getR (n := 1) d_X11_move_4 hA.2.1.1 fi_11_44 rfl (Nat.le_of_ble_eq_true rfl) ?_
  refine q_iload_n (x := x1) d_X11_move_7 rfl ?_
  refine q_callZ (R' := R_X4_afloat) (runV (As := [vi x1]) (rest := []) d_X11_move_8.1 cv_11_71 rfl hA.2.1.2.1.1 rfl rfl ⟨rfl, rfl, by decide, by decide⟩ (Nat.le_of_ble_eq_true rfl) w_s0 rfl) d_X11_move_8.2 (c_X4_afloat κ ((a + 1) + 1) hA.2.1.2.1 x1 h_x1 s0) rfl (fun r1 s2 h_r1 w_s2 => ?_)
  refine q_if_eq d_X11_move_11 (inr_b h_r1) (fun c3 => ?_) (fun c3 => ?_)
  · refine q_iconst d_X11_move_24 ?_
    exact q_iretz d_X11_move_25 rfl (Or.inl rfl) w_s2
  · refine q_iload_n (x := x2) d_X11_move_14 rfl ?_
    refine q_iconst d_X11_move_15 ?_
    refine q_bipush d_X11_move_16 rfl ?_
    refine q_callZ (R' := R_X11_within) (runS (As := [vi x2, vi 0, vi 15]) (rest := []) d_X11_move_18.1 cv_11_57 rfl ⟨rfl, rfl, by decide, by decide⟩ (Nat.le_of_ble_eq_true rfl) w_s2 rfl) d_X11_move_18.2 (c_X11_within κ x2 h_x2 0 (inr_b (Or.inl rfl)) 15 (inr_d rfl) s2) rfl (fun r4 s5 h_r4 w_s5 => ?_)
    refine q_if_ne d_X11_move_21 (inr_b h_r4) (fun c6 => ?_) (fun c6 => ?_)
    · refine q_iconst d_X11_move_24 ?_
      exact q_iretz d_X11_move_25 rfl (Or.inl rfl) w_s5
    · refine q_aload_n d_X11_move_26 rfl ?_
      refine q_getR (n := 77) d_X11_move_27 hA.1 fi_11_22 rfl (Nat.le_of_ble_eq_true rfl) ?_
      refine q_aload_n d_X11_move_30 rfl ?_
      refine q_getR (n := 1) d_X11_move_31 hA.1 fi_11_10 rfl (Nat.le_of_ble_eq_true rfl) ?_
      refine q_getR (n := 1) d_X11_move_34 hA.2.1.1 fi_11_44 rfl (Nat.le_of_ble_eq_true rfl) ?_
      refine q_callV (R' := R_X5_keep) (runV (As := [vr κ ((a + 1) + 1)]) (rest := []) d_X11_move_37.1 cv_11_75 rfl hA.2.2.2.1.1 rfl rfl ⟨rfl, rfl, by decide, by decide⟩ (Nat.le_of_ble_eq_true rfl) w_s5 rfl) d_X11_move_37.2 (c_X5_keep κ (a + 77) hA.2.2.2.1 ((a + 1) + 1) hA.2.1.2.1 s5) rfl (fun r7 s8 w_s8 => ?_)
      refine q_aload_n d_X11_move_40 rfl ?_
      refine q_getR (n := 1) d_X11_move_41 hA.1 fi_11_10 rfl (Nat.le_of_ble_eq_true rfl) ?_
      refine q_aload_n d_X11_move_44 rfl ?_
      refine q_getR (n := 1) d_X11_move_45 hA.1 fi_11_10 rfl (Nat.le_of_ble_eq_true rfl) ?_
      refine q_getR (n := 1) d_X11_move_48 hA.2.1.1 fi_11_44 rfl (Nat.le_of_ble_eq_true rfl) ?_
      refine q_iload_n (x := x1) d_X11_move_51 rfl ?_
      refine q_iload_n (x := x2) d_X11_move_52 rfl ?_
      refine q_iconst d_X11_move_53 ?_
      refine q_callV (R' := R_X10_bringTo) (runV (As := [vr κ ((a + 1) + 1), vi x1, vi x2, vi 1]) (rest := []) d_X11_move_54.1 cv_11_87 rfl hA.2.1.1 rfl rfl ⟨rfl, rfl, by decide, by decide⟩ (Nat.le_of_ble_eq_true rfl) w_s8 rfl) d_X11_move_54.2 (c_X10_bringTo κ (a + 1) hA.2.1 ((a + 1) + 1) hA.2.1.2.1 x1 h_x1 x2 h_x2 1 (inr_b (Or.inr rfl)) s8) rfl (fun r9 s10 w_s10 => ?_)
      refine q_iconst d_X11_move_57 ?_
      exact q_iretz d_X11_move_58 rfl (Or.inr rfl) w_s10
abbrev R_X11_hours : Room := { frames := 5, cells := 0, slots := 0, locals := 128 }
noncomputable def f_X11_hours_34 (a : Nat) (p1 : Int) (k77 : Int → Mem → Res) : Nat → Int → Int → Mem → Res
  | 0, _, _, _ => none
  | n + 1, x2, x3, s0 =>
    if x3 < p1 then (bd (f_X5_keep (a + 77) ((a + 1) + 1) s0) fun r8 s9 => bd (f_X10_pass (a + 1) ((a + 1) + 1) 1 s9) fun r10 s11 => f_X11_hours_34 a p1 k77 n (wr (x2 + r10)) (wr (x3 + 1)) s11) else (k77 x2 s0)
noncomputable def f_X11_hours (a : Nat) (x1 : Int) (s0 : Mem) : Res :=
  bd (f_X11_within x1 1 60 s0) fun r1 s2 => if r1 = 0 then (some ((-1), s2)) else (if wr (9999 - x1) < s2 ((a + 1) + 1) 14 then (some ((-1), s2)) else (jn (fun (v5 : Int) (s6 : Mem) => some (v5, s6)) fun j77 => f_X11_hours_34 a x1 j77 FU 0 0 s2))
set_option maxHeartbeats 4000000 in
set_option maxRecDepth 10000 in
theorem l_X11_hours_34 (κ : Kp) (a : Nat) (hA : At11 κ a) (p1 : Int) (h_p1 : InR p1) (k77 : Int → Mem → Res) (hk77 : ∀ (z2 : Int) (h_z2 : InR z2) (sz : Mem) (w_sz : WF sz), EO κ M_X11_hours R_X11_hours 77 [none, none, some (vi z2), none] [] sz (k77 z2 sz)) : ∀ (n : Nat) (x2 : Int) (h_x2 : InR x2) (x3 : Int) (h_x3 : InR x3) (s0 : Mem) (w_s0 : WF s0), EO κ M_X11_hours R_X11_hours 34 [some (vr κ a), some (vi p1), some (vi x2), some (vi x3)] [] s0 (f_X11_hours_34 a p1 k77 n x2 x3 s0) := by
  intro n
  induction n with
  | zero => exact fun _ _ _ _ _ _ => q_none
  | succ n ih =>
    intro x2 h_x2 x3 h_x3 s0 w_s0
    rw [f_X11_hours_34]
    refine q_iload_n (x := x3) d_X11_hours_34 rfl ?_
    refine q_iload_n (x := p1) d_X11_hours_35 rfl ?_
    refine q_icmp_ge d_X11_hours_36 h_x3 h_p1 (fun c7 => ?_) (fun c7 => ?_)
    · refine q_aload_n d_X11_hours_39 rfl ?_
      refine q_getR (n := 77) d_X11_hours_40 hA.1 fi_11_22 rfl (Nat.le_of_ble_eq_true rfl) ?_
      refine q_aload_n d_X11_hours_43 rfl ?_
      refine q_getR (n := 1) d_X11_hours_44 hA.1 fi_11_10 rfl (Nat.le_of_ble_eq_true rfl) ?_
      refine q_getR (n := 1) d_X11_hours_47 hA.2.1.1 fi_11_44 rfl (Nat.le_of_ble_eq_true rfl) ?_
      refine q_callV (R' := R_X5_keep) (runV (As := [vr κ ((a + 1) + 1)]) (rest := []) d_X11_hours_50.1 cv_11_75 rfl hA.2.2.2.1.1 rfl rfl ⟨rfl, rfl, by decide, by decide⟩ (Nat.le_of_ble_eq_true rfl) w_s0 rfl) d_X11_hours_50.2 (c_X5_keep κ (a + 77) hA.2.2.2.1 ((a + 1) + 1) hA.2.1.2.1 s0) rfl (fun r8 s9 w_s9 => ?_)
      refine q_iload_n (x := x2) d_X11_hours_53 rfl ?_
      refine q_aload_n d_X11_hours_54 rfl ?_
      refine q_getR (n := 1) d_X11_hours_55 hA.1 fi_11_10 rfl (Nat.le_of_ble_eq_true rfl) ?_
      refine q_aload_n d_X11_hours_58 rfl ?_
      refine q_getR (n := 1) d_X11_hours_59 hA.1 fi_11_10 rfl (Nat.le_of_ble_eq_true rfl) ?_
      refine q_getR (n := 1) d_X11_hours_62 hA.2.1.1 fi_11_44 rfl (Nat.le_of_ble_eq_true rfl) ?_
      refine q_iconst d_X11_hours_65 ?_
      refine q_callI (R' := R_X10_pass) (runV (As := [vr κ ((a + 1) + 1), vi 1]) (rest := [vi x2]) d_X11_hours_66.1 cv_11_94 rfl hA.2.1.1 rfl rfl ⟨rfl, rfl, by decide, by decide⟩ (Nat.le_of_ble_eq_true rfl) w_s9 rfl) d_X11_hours_66.2 (c_X10_pass κ (a + 1) hA.2.1 ((a + 1) + 1) hA.2.1.2.1 1 (inr_b (Or.inr rfl)) s9) rfl (fun r10 s11 h_r10 w_s11 => ?_)
      refine q_iadd d_X11_hours_69 ?_
      refine q_istore_n d_X11_hours_70 rfl ?_
      refine q_iinc (x := x3) d_X11_hours_71 rfl rfl ?_
      refine q_goto d_X11_hours_74 ?_
      refine q_sub (ls' := [some (vr κ a), some (vi p1), some (vi (wr (x2 + r10))), some (vi (wr (x3 + 1)))]) ⟨rfl, rfl, rfl, rfl, trivial⟩ ?_
      exact ih (wr (x2 + r10)) (inr_wr _) (wr (x3 + 1)) (inr_wr _) s11 w_s11
    · refine q_sub (ls' := [none, none, some (vi x2), none]) ⟨rfl, trivial⟩ ?_
      exact hk77 x2 h_x2 s0 w_s0
set_option maxHeartbeats 4000000 in
set_option maxRecDepth 10000 in
theorem c_X11_hours (κ : Kp) (a : Nat) (hA : At11 κ a) (x1 : Int) (h_x1 : InR x1) (s0 : Mem) : ∀ r σ', f_X11_hours a x1 s0 = some (r, σ') → Ct κ M_X11_hours R_X11_hours [vr κ a, vi x1] s0 r σ' := by
  intro r σ' ho
  refine Ct.of (by decide) (Nat.le_of_ble_eq_true rfl) (cat_ok rfl) (fun w_s0 => ?_) ⟨rfl, rfl⟩
  refine q_ent (ls' := [some (vr κ a), some (vi x1), none, none]) (o := f_X11_hours a x1 s0) ⟨rfl, rfl, trivial⟩ ?_ ho
  unfold f_X11_hours
  refine q_iload_n (x := x1) d_X11_hours_0 rfl ?_
  refine q_iconst d_X11_hours_1 ?_
  refine q_bipush d_X11_hours_2 rfl ?_
  refine q_callZ (R' := R_X11_within) (runS (As := [vi x1, vi 1, vi 60]) (rest := []) d_X11_hours_4.1 cv_11_57 rfl ⟨rfl, rfl, by decide, by decide⟩ (Nat.le_of_ble_eq_true rfl) w_s0 rfl) d_X11_hours_4.2 (c_X11_within κ x1 h_x1 1 (inr_b (Or.inr rfl)) 60 (inr_d rfl) s0) rfl (fun r1 s2 h_r1 w_s2 => ?_)
  refine q_if_eq d_X11_hours_7 (inr_b h_r1) (fun c3 => ?_) (fun c3 => ?_)
  · refine q_iconst d_X11_hours_28 ?_
    exact q_ireti d_X11_hours_29 rfl (inr_d rfl) w_s2
  · refine q_aload_n d_X11_hours_10 rfl ?_
    refine q_getR (n := 1) d_X11_hours_11 hA.1 fi_11_10 rfl (Nat.le_of_ble_eq_true rfl) ?_
    refine q_getR (n := 1) d_X11_hours_14 hA.2.1.1 fi_11_44 rfl (Nat.le_of_ble_eq_true rfl) ?_
    refine q_getI (k := 14) (j := 14) d_X11_hours_17 hA.2.1.2.1.1 fi_11_91 rfl rfl ?_
    refine q_sipush d_X11_hours_20 rfl ?_
    refine q_iload_n (x := x1) d_X11_hours_23 rfl ?_
    refine q_isub d_X11_hours_24 ?_
    refine q_icmp_le d_X11_hours_25 (w_s2 _ _) (inr_wr _) (fun c4 => ?_) (fun c4 => ?_)
    · refine q_iconst d_X11_hours_28 ?_
      exact q_ireti d_X11_hours_29 rfl (inr_d rfl) w_s2
    · refine q_iconst d_X11_hours_30 ?_
      refine q_istore_n d_X11_hours_31 rfl ?_
      refine q_iconst d_X11_hours_32 ?_
      refine q_istore_n d_X11_hours_33 rfl ?_
      refine q_jn (α := Int → Mem → Res) (fun j77 => ∀ (v5 : Int) (h_v5 : InR v5) (s6 : Mem) (w_s6 : WF s6), EO κ M_X11_hours R_X11_hours 77 [none, none, some (vi v5), none] [] s6 (j77 v5 s6)) ?_ (fun j77 hj77 => ?_)
      · intro v5 h_v5 s6 w_s6
        refine q_iload_n (x := v5) d_X11_hours_77 rfl ?_
        exact q_ireti d_X11_hours_78 rfl h_v5 w_s6
      refine q_sub (ls' := [some (vr κ a), some (vi x1), some (vi 0), some (vi 0)]) ⟨rfl, rfl, rfl, rfl, trivial⟩ ?_
      exact l_X11_hours_34 κ a hA x1 h_x1 j77 hj77 FU 0 (inr_b (Or.inl rfl)) 0 (inr_b (Or.inl rfl)) s2 w_s2
abbrev R_X11_feed : Room := { frames := 1, cells := 0, slots := 0, locals := 22 }
noncomputable def f_X11_feed (a : Nat) (x1 : Int) (x2 : Int) (x3 : Int) (x4 : Int) (x5 : Int) (s0 : Mem) : Res :=
  if 380 < s0 (a + 236) 4 then (some ((-1), s0)) else (bd (f_X7_take (a + 236) x1 s0) fun r2 s3 => bd (f_X7_take (a + 236) x2 s3) fun r4 s5 => bd (f_X7_take (a + 236) x3 s5) fun r6 s7 => bd (f_X7_take (a + 236) x4 s7) fun r8 s9 => bd (f_X7_take (a + 236) x5 s9) fun r10 s11 => some (s11 (a + 236) 4, s11))
set_option maxHeartbeats 4000000 in
set_option maxRecDepth 10000 in
theorem c_X11_feed (κ : Kp) (a : Nat) (hA : At11 κ a) (x1 : Int) (h_x1 : InR x1) (x2 : Int) (h_x2 : InR x2) (x3 : Int) (h_x3 : InR x3) (x4 : Int) (h_x4 : InR x4) (x5 : Int) (h_x5 : InR x5) (s0 : Mem) : ∀ r σ', f_X11_feed a x1 x2 x3 x4 x5 s0 = some (r, σ') → Ct κ M_X11_feed R_X11_feed [vr κ a, vi x1, vi x2, vi x3, vi x4, vi x5] s0 r σ' := by
  intro r σ' ho
  refine Ct.of (by decide) (Nat.le_of_ble_eq_true rfl) (cat_ok rfl) (fun w_s0 => ?_) ⟨rfl, rfl⟩
  refine q_ent (ls' := [some (vr κ a), some (vi x1), some (vi x2), some (vi x3), some (vi x4), some (vi x5)]) (o := f_X11_feed a x1 x2 x3 x4 x5 s0) ⟨rfl, rfl, rfl, rfl, rfl, rfl, trivial⟩ ?_ ho
  unfold f_X11_feed
  refine q_aload_n d_X11_feed_0 rfl ?_
  refine q_getR (n := 236) d_X11_feed_1 hA.1 fi_11_36 rfl (Nat.le_of_ble_eq_true rfl) ?_
  refine q_getI (k := 4) (j := 4) d_X11_feed_4 hA.2.2.2.2.2.1 fi_11_98 rfl rfl ?_
  refine q_sipush d_X11_feed_7 rfl ?_
  refine q_icmp_le d_X11_feed_10 (w_s0 _ _) (inr_d rfl) (fun c1 => ?_) (fun c1 => ?_)
  · refine q_iconst d_X11_feed_13 ?_
    exact q_ireti d_X11_feed_14 rfl (inr_d rfl) w_s0
  · refine q_aload_n d_X11_feed_15 rfl ?_
    refine q_getR (n := 236) d_X11_feed_16 hA.1 fi_11_36 rfl (Nat.le_of_ble_eq_true rfl) ?_
    refine q_iload_n (x := x1) d_X11_feed_19 rfl ?_
    refine q_callV (R' := R_X7_take) (runV (As := [vi x1]) (rest := []) d_X11_feed_20.1 cv_11_101 rfl hA.2.2.2.2.2.1 rfl rfl ⟨rfl, rfl, by decide, by decide⟩ (Nat.le_of_ble_eq_true rfl) w_s0 rfl) d_X11_feed_20.2 (c_X7_take κ (a + 236) hA.2.2.2.2.2 x1 h_x1 s0) rfl (fun r2 s3 w_s3 => ?_)
    refine q_aload_n d_X11_feed_23 rfl ?_
    refine q_getR (n := 236) d_X11_feed_24 hA.1 fi_11_36 rfl (Nat.le_of_ble_eq_true rfl) ?_
    refine q_iload_n (x := x2) d_X11_feed_27 rfl ?_
    refine q_callV (R' := R_X7_take) (runV (As := [vi x2]) (rest := []) d_X11_feed_28.1 cv_11_101 rfl hA.2.2.2.2.2.1 rfl rfl ⟨rfl, rfl, by decide, by decide⟩ (Nat.le_of_ble_eq_true rfl) w_s3 rfl) d_X11_feed_28.2 (c_X7_take κ (a + 236) hA.2.2.2.2.2 x2 h_x2 s3) rfl (fun r4 s5 w_s5 => ?_)
    refine q_aload_n d_X11_feed_31 rfl ?_
    refine q_getR (n := 236) d_X11_feed_32 hA.1 fi_11_36 rfl (Nat.le_of_ble_eq_true rfl) ?_
    refine q_iload_n (x := x3) d_X11_feed_35 rfl ?_
    refine q_callV (R' := R_X7_take) (runV (As := [vi x3]) (rest := []) d_X11_feed_36.1 cv_11_101 rfl hA.2.2.2.2.2.1 rfl rfl ⟨rfl, rfl, by decide, by decide⟩ (Nat.le_of_ble_eq_true rfl) w_s5 rfl) d_X11_feed_36.2 (c_X7_take κ (a + 236) hA.2.2.2.2.2 x3 h_x3 s5) rfl (fun r6 s7 w_s7 => ?_)
    refine q_aload_n d_X11_feed_39 rfl ?_
    refine q_getR (n := 236) d_X11_feed_40 hA.1 fi_11_36 rfl (Nat.le_of_ble_eq_true rfl) ?_
    refine q_iload (x := x4) d_X11_feed_43 rfl ?_
    refine q_callV (R' := R_X7_take) (runV (As := [vi x4]) (rest := []) d_X11_feed_45.1 cv_11_101 rfl hA.2.2.2.2.2.1 rfl rfl ⟨rfl, rfl, by decide, by decide⟩ (Nat.le_of_ble_eq_true rfl) w_s7 rfl) d_X11_feed_45.2 (c_X7_take κ (a + 236) hA.2.2.2.2.2 x4 h_x4 s7) rfl (fun r8 s9 w_s9 => ?_)
    refine q_aload_n d_X11_feed_48 rfl ?_
    refine q_getR (n := 236) d_X11_feed_49 hA.1 fi_11_36 rfl (Nat.le_of_ble_eq_true rfl) ?_
    refine q_iload (x := x5) d_X11_feed_52 rfl ?_
    refine q_callV (R' := R_X7_take) (runV (As := [vi x5]) (rest := []) d_X11_feed_54.1 cv_11_101 rfl hA.2.2.2.2.2.1 rfl rfl ⟨rfl, rfl, by decide, by decide⟩ (Nat.le_of_ble_eq_true rfl) w_s9 rfl) d_X11_feed_54.2 (c_X7_take κ (a + 236) hA.2.2.2.2.2 x5 h_x5 s9) rfl (fun r10 s11 w_s11 => ?_)
    refine q_aload_n d_X11_feed_57 rfl ?_
    refine q_getR (n := 236) d_X11_feed_58 hA.1 fi_11_36 rfl (Nat.le_of_ble_eq_true rfl) ?_
    refine q_getI (k := 4) (j := 4) d_X11_feed_61 hA.2.2.2.2.2.1 fi_11_98 rfl rfl ?_
    exact q_ireti d_X11_feed_64 rfl (w_s11 _ _) w_s11
abbrev R_X11_end : Room := { frames := 1, cells := 0, slots := 0, locals := 22 }
noncomputable def f_X11_end (a : Nat) (x1 : Int) (s0 : Mem) : Res :=
  bd (f_X11_within x1 0 (s0 (a + 236) 4) s0) fun r1 s2 => if r1 = 0 then (some (0, s2)) else (lm (mup s2 (a + 236) 4 x1) fun s4 => some (1, s4))
set_option maxHeartbeats 4000000 in
set_option maxRecDepth 10000 in
theorem c_X11_end (κ : Kp) (a : Nat) (hA : At11 κ a) (x1 : Int) (h_x1 : InR x1) (s0 : Mem) : ∀ r σ', f_X11_end a x1 s0 = some (r, σ') → Ct κ M_X11_end R_X11_end [vr κ a, vi x1] s0 r σ' := by
  intro r σ' ho
  refine Ct.of (by decide) (Nat.le_of_ble_eq_true rfl) (cat_ok rfl) (fun w_s0 => ?_) ⟨rfl, rfl⟩
  refine q_ent (ls' := [some (vr κ a), some (vi x1)]) (o := f_X11_end a x1 s0) ⟨rfl, rfl, trivial⟩ ?_ ho
  unfold f_X11_end
  refine q_iload_n (x := x1) d_X11_end_0 rfl ?_
  refine q_iconst d_X11_end_1 ?_
  refine q_aload_n d_X11_end_2 rfl ?_
  refine q_getR (n := 236) d_X11_end_3 hA.1 fi_11_36 rfl (Nat.le_of_ble_eq_true rfl) ?_
  refine q_getI (k := 4) (j := 4) d_X11_end_6 hA.2.2.2.2.2.1 fi_11_98 rfl rfl ?_
  refine q_callZ (R' := R_X11_within) (runS (As := [vi x1, vi 0, vi (s0 (a + 236) 4)]) (rest := []) d_X11_end_9.1 cv_11_57 rfl ⟨rfl, rfl, by decide, by decide⟩ (Nat.le_of_ble_eq_true rfl) w_s0 rfl) d_X11_end_9.2 (c_X11_within κ x1 h_x1 0 (inr_b (Or.inl rfl)) (s0 (a + 236) 4) (w_s0 _ _) s0) rfl (fun r1 s2 h_r1 w_s2 => ?_)
  refine q_if_ne d_X11_end_12 (inr_b h_r1) (fun c3 => ?_) (fun c3 => ?_)
  · refine q_iconst d_X11_end_15 ?_
    exact q_iretz d_X11_end_16 rfl (Or.inl rfl) w_s2
  · refine q_aload_n d_X11_end_17 rfl ?_
    refine q_getR (n := 236) d_X11_end_18 hA.1 fi_11_36 rfl (Nat.le_of_ble_eq_true rfl) ?_
    refine q_iload_n (x := x1) d_X11_end_21 rfl ?_
    refine q_putI (k := 4) (j := 4) d_X11_end_22 hA.2.2.2.2.2.1 fp_11_98 rfl rfl h_x1 w_s2 (fun s4 w_s4 => ?_)
    refine q_iconst d_X11_end_25 ?_
    exact q_iretz d_X11_end_26 rfl (Or.inr rfl) w_s4
abbrev R_X11_text : Room := { frames := 7, cells := 0, slots := 0, locals := 159 }
noncomputable def f_X11_text (a : Nat) (x1 : Int) (s0 : Mem) : Res :=
  bd (f_X7_reads (a + 236) x1 (s0 ((a + 1) + 1) 8) s0) fun r1 s2 => if r1 = 0 then (some ((-1), s2)) else (if x1 = 0 then (bd (f_X2_become ((a + 1) + 11) ((a + 236) + 1) s2) fun r5 s6 => some (s6 ((a + 1) + 11) 4, s6)) else (if x1 = 1 then (bd (f_X5_forget (a + 77) s2) fun r8 s9 => bd (f_X1_become ((a + 1) + 18) ((a + 236) + 8) s9) fun r10 s11 => some (s11 ((a + 1) + 18) 2, s11)) else (if x1 = 2 then (bd (f_X5_forget (a + 77) s2) fun r13 s14 => bd (f_X6_become ((a + 1) + 21) ((a + 236) + 11) s14) fun r15 s16 => some (s16 ((a + 1) + 21) 4, s16)) else (bd (f_X9_become ((a + 1) + 26) ((a + 236) + 16) s2) fun r17 s18 => some (s18 ((a + 1) + 26) 3, s18)))))
set_option maxHeartbeats 4000000 in
set_option maxRecDepth 10000 in
theorem c_X11_text (κ : Kp) (a : Nat) (hA : At11 κ a) (x1 : Int) (h_x1 : InR x1) (s0 : Mem) : ∀ r σ', f_X11_text a x1 s0 = some (r, σ') → Ct κ M_X11_text R_X11_text [vr κ a, vi x1] s0 r σ' := by
  intro r σ' ho
  refine Ct.of (by decide) (Nat.le_of_ble_eq_true rfl) (cat_ok rfl) (fun w_s0 => ?_) ⟨rfl, rfl⟩
  refine q_ent (ls' := [some (vr κ a), some (vi x1)]) (o := f_X11_text a x1 s0) ⟨rfl, rfl, trivial⟩ ?_ ho
  unfold f_X11_text
  refine q_aload_n d_X11_text_0 rfl ?_
  refine q_getR (n := 236) d_X11_text_1 hA.1 fi_11_36 rfl (Nat.le_of_ble_eq_true rfl) ?_
  refine q_iload_n (x := x1) d_X11_text_4 rfl ?_
  refine q_aload_n d_X11_text_5 rfl ?_
  refine q_getR (n := 1) d_X11_text_6 hA.1 fi_11_10 rfl (Nat.le_of_ble_eq_true rfl) ?_
  refine q_getR (n := 1) d_X11_text_9 hA.2.1.1 fi_11_44 rfl (Nat.le_of_ble_eq_true rfl) ?_
  refine q_getI (k := 8) (j := 8) d_X11_text_12 hA.2.1.2.1.1 fi_11_61 rfl rfl ?_
  refine q_callZ (R' := R_X7_reads) (runV (As := [vi x1, vi (s0 ((a + 1) + 1) 8)]) (rest := []) d_X11_text_15.1 cv_11_105 rfl hA.2.2.2.2.2.1 rfl rfl ⟨rfl, rfl, by decide, by decide⟩ (Nat.le_of_ble_eq_true rfl) w_s0 rfl) d_X11_text_15.2 (c_X7_reads κ (a + 236) hA.2.2.2.2.2 x1 h_x1 (s0 ((a + 1) + 1) 8) (w_s0 _ _) s0) rfl (fun r1 s2 h_r1 w_s2 => ?_)
  refine q_if_ne d_X11_text_18 (inr_b h_r1) (fun c3 => ?_) (fun c3 => ?_)
  · refine q_iconst d_X11_text_21 ?_
    exact q_ireti d_X11_text_22 rfl (inr_d rfl) w_s2
  · refine q_iload_n (x := x1) d_X11_text_23 rfl ?_
    refine q_ite (fun c4 => ?_) (fun c4 => ?_)
    · refine q_tswC (tgt := 52) d_X11_text_24 h_x1 c4 (by decide) (by decide) rfl (by decide) ?_
      refine q_aload_n d_X11_text_52 rfl ?_
      refine q_getR (n := 1) d_X11_text_53 hA.1 fi_11_10 rfl (Nat.le_of_ble_eq_true rfl) ?_
      refine q_getR (n := 11) d_X11_text_56 hA.2.1.1 fi_11_109 rfl (Nat.le_of_ble_eq_true rfl) ?_
      refine q_aload_n d_X11_text_59 rfl ?_
      refine q_getR (n := 236) d_X11_text_60 hA.1 fi_11_36 rfl (Nat.le_of_ble_eq_true rfl) ?_
      refine q_getR (n := 1) d_X11_text_63 hA.2.2.2.2.2.1 fi_11_113 rfl (Nat.le_of_ble_eq_true rfl) ?_
      refine q_callV (R' := R_X2_become) (runV (As := [vr κ ((a + 236) + 1)]) (rest := []) d_X11_text_66.1 cv_11_114 rfl hA.2.1.2.2.2.1.1 rfl rfl ⟨rfl, rfl, by decide, by decide⟩ (Nat.le_of_ble_eq_true rfl) w_s2 rfl) d_X11_text_66.2 (c_X2_become κ ((a + 1) + 11) hA.2.1.2.2.2.1 ((a + 236) + 1) hA.2.2.2.2.2.2.1 s2) rfl (fun r5 s6 w_s6 => ?_)
      refine q_aload_n d_X11_text_69 rfl ?_
      refine q_getR (n := 1) d_X11_text_70 hA.1 fi_11_10 rfl (Nat.le_of_ble_eq_true rfl) ?_
      refine q_getR (n := 11) d_X11_text_73 hA.2.1.1 fi_11_109 rfl (Nat.le_of_ble_eq_true rfl) ?_
      refine q_getI (k := 4) (j := 4) d_X11_text_76 hA.2.1.2.2.2.1.1 fi_11_120 rfl rfl ?_
      exact q_ireti d_X11_text_79 rfl (w_s6 _ _) w_s6
    refine q_ite (fun c7 => ?_) (fun c7 => ?_)
    · refine q_tswC (tgt := 80) d_X11_text_24 h_x1 c7 (by decide) (by decide) rfl (by decide) ?_
      refine q_aload_n d_X11_text_80 rfl ?_
      refine q_getR (n := 77) d_X11_text_81 hA.1 fi_11_22 rfl (Nat.le_of_ble_eq_true rfl) ?_
      refine q_callV (R' := R_X5_forget) (runV (As := []) (rest := []) d_X11_text_84.1 cv_11_54 rfl hA.2.2.2.1.1 rfl rfl ⟨rfl, rfl, by decide, by decide⟩ (Nat.le_of_ble_eq_true rfl) w_s2 rfl) d_X11_text_84.2 (c_X5_forget κ (a + 77) hA.2.2.2.1 s2) rfl (fun r8 s9 w_s9 => ?_)
      refine q_aload_n d_X11_text_87 rfl ?_
      refine q_getR (n := 1) d_X11_text_88 hA.1 fi_11_10 rfl (Nat.le_of_ble_eq_true rfl) ?_
      refine q_getR (n := 18) d_X11_text_91 hA.2.1.1 fi_11_123 rfl (Nat.le_of_ble_eq_true rfl) ?_
      refine q_aload_n d_X11_text_94 rfl ?_
      refine q_getR (n := 236) d_X11_text_95 hA.1 fi_11_36 rfl (Nat.le_of_ble_eq_true rfl) ?_
      refine q_getR (n := 8) d_X11_text_98 hA.2.2.2.2.2.1 fi_11_127 rfl (Nat.le_of_ble_eq_true rfl) ?_
      refine q_callV (R' := R_X1_become) (runV (As := [vr κ ((a + 236) + 8)]) (rest := []) d_X11_text_101.1 cv_11_128 rfl hA.2.1.2.2.2.2.1.1 rfl rfl ⟨rfl, rfl, by decide, by decide⟩ (Nat.le_of_ble_eq_true rfl) w_s9 rfl) d_X11_text_101.2 (c_X1_become κ ((a + 1) + 18) hA.2.1.2.2.2.2.1 ((a + 236) + 8) hA.2.2.2.2.2.2.2.1 s9) rfl (fun r10 s11 w_s11 => ?_)
      refine q_aload_n d_X11_text_104 rfl ?_
      refine q_getR (n := 1) d_X11_text_105 hA.1 fi_11_10 rfl (Nat.le_of_ble_eq_true rfl) ?_
      refine q_getR (n := 18) d_X11_text_108 hA.2.1.1 fi_11_123 rfl (Nat.le_of_ble_eq_true rfl) ?_
      refine q_getI (k := 2) (j := 2) d_X11_text_111 hA.2.1.2.2.2.2.1.1 fi_11_133 rfl rfl ?_
      exact q_ireti d_X11_text_114 rfl (w_s11 _ _) w_s11
    refine q_ite (fun c12 => ?_) (fun c12 => ?_)
    · refine q_tswC (tgt := 115) d_X11_text_24 h_x1 c12 (by decide) (by decide) rfl (by decide) ?_
      refine q_aload_n d_X11_text_115 rfl ?_
      refine q_getR (n := 77) d_X11_text_116 hA.1 fi_11_22 rfl (Nat.le_of_ble_eq_true rfl) ?_
      refine q_callV (R' := R_X5_forget) (runV (As := []) (rest := []) d_X11_text_119.1 cv_11_54 rfl hA.2.2.2.1.1 rfl rfl ⟨rfl, rfl, by decide, by decide⟩ (Nat.le_of_ble_eq_true rfl) w_s2 rfl) d_X11_text_119.2 (c_X5_forget κ (a + 77) hA.2.2.2.1 s2) rfl (fun r13 s14 w_s14 => ?_)
      refine q_aload_n d_X11_text_122 rfl ?_
      refine q_getR (n := 1) d_X11_text_123 hA.1 fi_11_10 rfl (Nat.le_of_ble_eq_true rfl) ?_
      refine q_getR (n := 21) d_X11_text_126 hA.2.1.1 fi_11_134 rfl (Nat.le_of_ble_eq_true rfl) ?_
      refine q_aload_n d_X11_text_129 rfl ?_
      refine q_getR (n := 236) d_X11_text_130 hA.1 fi_11_36 rfl (Nat.le_of_ble_eq_true rfl) ?_
      refine q_getR (n := 11) d_X11_text_133 hA.2.2.2.2.2.1 fi_11_138 rfl (Nat.le_of_ble_eq_true rfl) ?_
      refine q_callV (R' := R_X6_become) (runV (As := [vr κ ((a + 236) + 11)]) (rest := []) d_X11_text_136.1 cv_11_139 rfl hA.2.1.2.2.2.2.2.1.1 rfl rfl ⟨rfl, rfl, by decide, by decide⟩ (Nat.le_of_ble_eq_true rfl) w_s14 rfl) d_X11_text_136.2 (c_X6_become κ ((a + 1) + 21) hA.2.1.2.2.2.2.2.1 ((a + 236) + 11) hA.2.2.2.2.2.2.2.2.1 s14) rfl (fun r15 s16 w_s16 => ?_)
      refine q_aload_n d_X11_text_139 rfl ?_
      refine q_getR (n := 1) d_X11_text_140 hA.1 fi_11_10 rfl (Nat.le_of_ble_eq_true rfl) ?_
      refine q_getR (n := 21) d_X11_text_143 hA.2.1.1 fi_11_134 rfl (Nat.le_of_ble_eq_true rfl) ?_
      refine q_getI (k := 4) (j := 4) d_X11_text_146 hA.2.1.2.2.2.2.2.1.1 fi_11_144 rfl rfl ?_
      exact q_ireti d_X11_text_149 rfl (w_s16 _ _) w_s16
    refine q_tswD (tgt := 150) d_X11_text_24 h_x1 (by omega) (by decide) ?_
    refine q_aload_n d_X11_text_150 rfl ?_
    refine q_getR (n := 1) d_X11_text_151 hA.1 fi_11_10 rfl (Nat.le_of_ble_eq_true rfl) ?_
    refine q_getR (n := 26) d_X11_text_154 hA.2.1.1 fi_11_145 rfl (Nat.le_of_ble_eq_true rfl) ?_
    refine q_aload_n d_X11_text_157 rfl ?_
    refine q_getR (n := 236) d_X11_text_158 hA.1 fi_11_36 rfl (Nat.le_of_ble_eq_true rfl) ?_
    refine q_getR (n := 16) d_X11_text_161 hA.2.2.2.2.2.1 fi_11_149 rfl (Nat.le_of_ble_eq_true rfl) ?_
    refine q_callV (R' := R_X9_become) (runV (As := [vr κ ((a + 236) + 16)]) (rest := []) d_X11_text_164.1 cv_11_150 rfl hA.2.1.2.2.2.2.2.2.1.1 rfl rfl ⟨rfl, rfl, by decide, by decide⟩ (Nat.le_of_ble_eq_true rfl) w_s2 rfl) d_X11_text_164.2 (c_X9_become κ ((a + 1) + 26) hA.2.1.2.2.2.2.2.2.1 ((a + 236) + 16) hA.2.2.2.2.2.2.2.2.2.1 s2) rfl (fun r17 s18 w_s18 => ?_)
    refine q_aload_n d_X11_text_167 rfl ?_
    refine q_getR (n := 1) d_X11_text_168 hA.1 fi_11_10 rfl (Nat.le_of_ble_eq_true rfl) ?_
    refine q_getR (n := 26) d_X11_text_171 hA.2.1.1 fi_11_145 rfl (Nat.le_of_ble_eq_true rfl) ?_
    refine q_getI (k := 3) (j := 3) d_X11_text_174 hA.2.1.2.2.2.2.2.2.1.1 fi_11_155 rfl rfl ?_
    exact q_ireti d_X11_text_177 rfl (w_s18 _ _) w_s18
abbrev R_X11_fault : Room := { frames := 0, cells := 0, slots := 0, locals := 0 }
noncomputable def f_X11_fault (a : Nat) (x1 : Int) (s0 : Mem) : Res :=
  if x1 = 0 then (some (s0 (a + 236) 5, s0)) else (if x1 = 1 then (some (s0 (a + 236) 6, s0)) else (some ((-1), s0)))
set_option maxHeartbeats 4000000 in
set_option maxRecDepth 10000 in
theorem c_X11_fault (κ : Kp) (a : Nat) (hA : At11 κ a) (x1 : Int) (h_x1 : InR x1) (s0 : Mem) : ∀ r σ', f_X11_fault a x1 s0 = some (r, σ') → Ct κ M_X11_fault R_X11_fault [vr κ a, vi x1] s0 r σ' := by
  intro r σ' ho
  refine Ct.of (by decide) (Nat.le_of_ble_eq_true rfl) (cat_ok rfl) (fun w_s0 => ?_) ⟨rfl, rfl⟩
  refine q_ent (ls' := [some (vr κ a), some (vi x1)]) (o := f_X11_fault a x1 s0) ⟨rfl, rfl, trivial⟩ ?_ ho
  unfold f_X11_fault
  refine q_iload_n (x := x1) d_X11_fault_0 rfl ?_
  refine q_ite (fun c1 => ?_) (fun c1 => ?_)
  · refine q_lsw (tgt := 28) (off := 27) d_X11_fault_1 h_x1 (by decide) (by rw [c1]; rfl) (by decide) ?_
    refine q_aload_n d_X11_fault_28 rfl ?_
    refine q_getR (n := 236) d_X11_fault_29 hA.1 fi_11_36 rfl (Nat.le_of_ble_eq_true rfl) ?_
    refine q_getI (k := 5) (j := 5) d_X11_fault_32 hA.2.2.2.2.2.1 fi_11_156 rfl rfl ?_
    exact q_ireti d_X11_fault_35 rfl (w_s0 _ _) w_s0
  refine q_ite (fun c2 => ?_) (fun c2 => ?_)
  · refine q_lsw (tgt := 36) (off := 35) d_X11_fault_1 h_x1 (by decide) (by rw [c2]; rfl) (by decide) ?_
    refine q_aload_n d_X11_fault_36 rfl ?_
    refine q_getR (n := 236) d_X11_fault_37 hA.1 fi_11_36 rfl (Nat.le_of_ble_eq_true rfl) ?_
    refine q_getI (k := 6) (j := 6) d_X11_fault_40 hA.2.2.2.2.2.1 fi_11_159 rfl rfl ?_
    exact q_ireti d_X11_fault_43 rfl (w_s0 _ _) w_s0
  refine q_lsw (tgt := 44) (off := 43) d_X11_fault_1 h_x1 (by decide) (by
    show Op.lookupswitch.offset [(0, 27), (1, 35)] 43 x1 = 43
    rw [Op.lookupswitch.offset_cons, if_neg (fun q => c1 q.symm), Op.lookupswitch.offset_cons, if_neg (fun q => c2 q.symm), Op.lookupswitch.offset_nil]) (by decide) ?_
  refine q_iconst d_X11_fault_44 ?_
  exact q_ireti d_X11_fault_45 rfl (inr_d rfl) w_s0
abbrev R_X11_of : Room := { frames := 3, cells := 0, slots := 0, locals := 78 }
noncomputable def f_X11_of (a : Nat) (x1 : Int) (x2 : Int) (s0 : Mem) : Res :=
  bd (f_X4_has ((a + 1) + 1) x1 s0) fun r1 s2 => if r1 = 0 then (some ((-1), s2)) else (if x2 = 0 then (gd ((0 : Int) ≤ x1 ∧ x1 < 10) (some (s2 (((a + 1) + 1) + 1) x1, s2))) else (if x2 = 1 then (gd ((0 : Int) ≤ x1 ∧ x1 < 10) (some (s2 (((a + 1) + 1) + 2) x1, s2))) else (if x2 = 2 then (gd ((0 : Int) ≤ x1 ∧ x1 < 10) (some (s2 (((a + 1) + 1) + 3) x1, s2))) else (if x2 = 3 then (gd ((0 : Int) ≤ x1 ∧ x1 < 10) (some (s2 (((a + 1) + 1) + 4) x1, s2))) else (if x2 = 4 then (gd ((0 : Int) ≤ x1 ∧ x1 < 10) (some (s2 (((a + 1) + 1) + 5) x1, s2))) else (if x2 = 5 then (gd ((0 : Int) ≤ x1 ∧ x1 < 10) (some (s2 (((a + 1) + 1) + 6) x1, s2))) else (if x2 = 6 then (gd ((0 : Int) ≤ x1 ∧ x1 < 10) (some (s2 (((a + 1) + 1) + 7) x1, s2))) else (if x2 = 7 then (bd (f_X2_tells ((a + 1) + 11) 10 ((a + 1) + 1) x1 s2) fun r19 s20 => some (r19, s20)) else (if x2 = 8 then (bd (f_X2_tells ((a + 1) + 11) 11 ((a + 1) + 1) x1 s2) fun r22 s23 => some (r22, s23)) else (if x2 = 9 then (bd (f_X2_tells ((a + 1) + 11) 12 ((a + 1) + 1) x1 s2) fun r25 s26 => some (r25, s26)) else (some ((-1), s2))))))))))))
set_option maxHeartbeats 4000000 in
set_option maxRecDepth 10000 in
theorem c_X11_of (κ : Kp) (a : Nat) (hA : At11 κ a) (x1 : Int) (h_x1 : InR x1) (x2 : Int) (h_x2 : InR x2) (s0 : Mem) : ∀ r σ', f_X11_of a x1 x2 s0 = some (r, σ') → Ct κ M_X11_of R_X11_of [vr κ a, vi x1, vi x2] s0 r σ' := by
  intro r σ' ho
  refine Ct.of (by decide) (Nat.le_of_ble_eq_true rfl) (cat_ok rfl) (fun w_s0 => ?_) ⟨rfl, rfl⟩
  refine q_ent (ls' := [some (vr κ a), some (vi x1), some (vi x2), none]) (o := f_X11_of a x1 x2 s0) ⟨rfl, rfl, rfl, trivial⟩ ?_ ho
  unfold f_X11_of
  refine q_aload_n d_X11_of_0 rfl ?_
  refine q_getR (n := 1) d_X11_of_1 hA.1 fi_11_10 rfl (Nat.le_of_ble_eq_true rfl) ?_
  refine q_getR (n := 1) d_X11_of_4 hA.2.1.1 fi_11_44 rfl (Nat.le_of_ble_eq_true rfl) ?_
  refine q_astore_n d_X11_of_7 rfl ?_
  refine q_aload_n d_X11_of_8 rfl ?_
  refine q_iload_n (x := x1) d_X11_of_9 rfl ?_
  refine q_callZ (R' := R_X4_has) (runV (As := [vi x1]) (rest := []) d_X11_of_10.1 cv_11_162 rfl hA.2.1.2.1.1 rfl rfl ⟨rfl, rfl, by decide, by decide⟩ (Nat.le_of_ble_eq_true rfl) w_s0 rfl) d_X11_of_10.2 (c_X4_has κ ((a + 1) + 1) hA.2.1.2.1 x1 h_x1 s0) rfl (fun r1 s2 h_r1 w_s2 => ?_)
  refine q_if_ne d_X11_of_13 (inr_b h_r1) (fun c3 => ?_) (fun c3 => ?_)
  · refine q_iconst d_X11_of_16 ?_
    exact q_ireti d_X11_of_17 rfl (inr_d rfl) w_s2
  · refine q_iload_n (x := x2) d_X11_of_18 rfl ?_
    refine q_ite (fun c4 => ?_) (fun c4 => ?_)
    · refine q_tswC (tgt := 72) d_X11_of_19 h_x2 c4 (by decide) (by decide) rfl (by decide) ?_
      refine q_aload_n d_X11_of_72 rfl ?_
      refine q_getR (n := 1) d_X11_of_73 hA.2.1.2.1.1 fi_11_165 rfl (Nat.le_of_ble_eq_true rfl) ?_
      refine q_iload_n (x := x1) d_X11_of_76 rfl ?_
      refine q_iaload (m := 10) d_X11_of_77 hA.2.1.2.1.2.1 (by decide) rfl (fun g5 => ?_)
      exact q_ireti d_X11_of_78 rfl (w_s2 _ _) w_s2
    refine q_ite (fun c6 => ?_) (fun c6 => ?_)
    · refine q_tswC (tgt := 79) d_X11_of_19 h_x2 c6 (by decide) (by decide) rfl (by decide) ?_
      refine q_aload_n d_X11_of_79 rfl ?_
      refine q_getR (n := 2) d_X11_of_80 hA.2.1.2.1.1 fi_11_169 rfl (Nat.le_of_ble_eq_true rfl) ?_
      refine q_iload_n (x := x1) d_X11_of_83 rfl ?_
      refine q_iaload (m := 10) d_X11_of_84 hA.2.1.2.1.2.2.1 (by decide) rfl (fun g7 => ?_)
      exact q_ireti d_X11_of_85 rfl (w_s2 _ _) w_s2
    refine q_ite (fun c8 => ?_) (fun c8 => ?_)
    · refine q_tswC (tgt := 86) d_X11_of_19 h_x2 c8 (by decide) (by decide) rfl (by decide) ?_
      refine q_aload_n d_X11_of_86 rfl ?_
      refine q_getR (n := 3) d_X11_of_87 hA.2.1.2.1.1 fi_11_172 rfl (Nat.le_of_ble_eq_true rfl) ?_
      refine q_iload_n (x := x1) d_X11_of_90 rfl ?_
      refine q_iaload (m := 10) d_X11_of_91 hA.2.1.2.1.2.2.2.1 (by decide) rfl (fun g9 => ?_)
      exact q_ireti d_X11_of_92 rfl (w_s2 _ _) w_s2
    refine q_ite (fun c10 => ?_) (fun c10 => ?_)
    · refine q_tswC (tgt := 93) d_X11_of_19 h_x2 c10 (by decide) (by decide) rfl (by decide) ?_
      refine q_aload_n d_X11_of_93 rfl ?_
      refine q_getR (n := 4) d_X11_of_94 hA.2.1.2.1.1 fi_11_175 rfl (Nat.le_of_ble_eq_true rfl) ?_
      refine q_iload_n (x := x1) d_X11_of_97 rfl ?_
      refine q_iaload (m := 10) d_X11_of_98 hA.2.1.2.1.2.2.2.2.1 (by decide) rfl (fun g11 => ?_)
      exact q_ireti d_X11_of_99 rfl (w_s2 _ _) w_s2
    refine q_ite (fun c12 => ?_) (fun c12 => ?_)
    · refine q_tswC (tgt := 100) d_X11_of_19 h_x2 c12 (by decide) (by decide) rfl (by decide) ?_
      refine q_aload_n d_X11_of_100 rfl ?_
      refine q_getR (n := 5) d_X11_of_101 hA.2.1.2.1.1 fi_11_178 rfl (Nat.le_of_ble_eq_true rfl) ?_
      refine q_iload_n (x := x1) d_X11_of_104 rfl ?_
      refine q_iaload (m := 10) d_X11_of_105 hA.2.1.2.1.2.2.2.2.2.1 (by decide) rfl (fun g13 => ?_)
      exact q_ireti d_X11_of_106 rfl (w_s2 _ _) w_s2
    refine q_ite (fun c14 => ?_) (fun c14 => ?_)
    · refine q_tswC (tgt := 107) d_X11_of_19 h_x2 c14 (by decide) (by decide) rfl (by decide) ?_
      refine q_aload_n d_X11_of_107 rfl ?_
      refine q_getR (n := 6) d_X11_of_108 hA.2.1.2.1.1 fi_11_181 rfl (Nat.le_of_ble_eq_true rfl) ?_
      refine q_iload_n (x := x1) d_X11_of_111 rfl ?_
      refine q_iaload (m := 10) d_X11_of_112 hA.2.1.2.1.2.2.2.2.2.2.1 (by decide) rfl (fun g15 => ?_)
      exact q_ireti d_X11_of_113 rfl (w_s2 _ _) w_s2
    refine q_ite (fun c16 => ?_) (fun c16 => ?_)
    · refine q_tswC (tgt := 114) d_X11_of_19 h_x2 c16 (by decide) (by decide) rfl (by decide) ?_
      refine q_aload_n d_X11_of_114 rfl ?_
      refine q_getR (n := 7) d_X11_of_115 hA.2.1.2.1.1 fi_11_184 rfl (Nat.le_of_ble_eq_true rfl) ?_
      refine q_iload_n (x := x1) d_X11_of_118 rfl ?_
      refine q_iaload (m := 10) d_X11_of_119 hA.2.1.2.1.2.2.2.2.2.2.2.1 (by decide) rfl (fun g17 => ?_)
      exact q_ireti d_X11_of_120 rfl (w_s2 _ _) w_s2
    refine q_ite (fun c18 => ?_) (fun c18 => ?_)
    · refine q_tswC (tgt := 121) d_X11_of_19 h_x2 c18 (by decide) (by decide) rfl (by decide) ?_
      refine q_aload_n d_X11_of_121 rfl ?_
      refine q_getR (n := 1) d_X11_of_122 hA.1 fi_11_10 rfl (Nat.le_of_ble_eq_true rfl) ?_
      refine q_getR (n := 11) d_X11_of_125 hA.2.1.1 fi_11_109 rfl (Nat.le_of_ble_eq_true rfl) ?_
      refine q_bipush d_X11_of_128 rfl ?_
      refine q_aload_n d_X11_of_130 rfl ?_
      refine q_iload_n (x := x1) d_X11_of_131 rfl ?_
      refine q_callI (R' := R_X2_tells) (runV (As := [vi 10, vr κ ((a + 1) + 1), vi x1]) (rest := []) d_X11_of_132.1 cv_11_187 rfl hA.2.1.2.2.2.1.1 rfl rfl ⟨rfl, rfl, by decide, by decide⟩ (Nat.le_of_ble_eq_true rfl) w_s2 rfl) d_X11_of_132.2 (c_X2_tells κ ((a + 1) + 11) hA.2.1.2.2.2.1 10 (inr_d rfl) ((a + 1) + 1) hA.2.1.2.1 x1 h_x1 s2) rfl (fun r19 s20 h_r19 w_s20 => ?_)
      exact q_ireti d_X11_of_135 rfl h_r19 w_s20
    refine q_ite (fun c21 => ?_) (fun c21 => ?_)
    · refine q_tswC (tgt := 136) d_X11_of_19 h_x2 c21 (by decide) (by decide) rfl (by decide) ?_
      refine q_aload_n d_X11_of_136 rfl ?_
      refine q_getR (n := 1) d_X11_of_137 hA.1 fi_11_10 rfl (Nat.le_of_ble_eq_true rfl) ?_
      refine q_getR (n := 11) d_X11_of_140 hA.2.1.1 fi_11_109 rfl (Nat.le_of_ble_eq_true rfl) ?_
      refine q_bipush d_X11_of_143 rfl ?_
      refine q_aload_n d_X11_of_145 rfl ?_
      refine q_iload_n (x := x1) d_X11_of_146 rfl ?_
      refine q_callI (R' := R_X2_tells) (runV (As := [vi 11, vr κ ((a + 1) + 1), vi x1]) (rest := []) d_X11_of_147.1 cv_11_187 rfl hA.2.1.2.2.2.1.1 rfl rfl ⟨rfl, rfl, by decide, by decide⟩ (Nat.le_of_ble_eq_true rfl) w_s2 rfl) d_X11_of_147.2 (c_X2_tells κ ((a + 1) + 11) hA.2.1.2.2.2.1 11 (inr_d rfl) ((a + 1) + 1) hA.2.1.2.1 x1 h_x1 s2) rfl (fun r22 s23 h_r22 w_s23 => ?_)
      exact q_ireti d_X11_of_150 rfl h_r22 w_s23
    refine q_ite (fun c24 => ?_) (fun c24 => ?_)
    · refine q_tswC (tgt := 151) d_X11_of_19 h_x2 c24 (by decide) (by decide) rfl (by decide) ?_
      refine q_aload_n d_X11_of_151 rfl ?_
      refine q_getR (n := 1) d_X11_of_152 hA.1 fi_11_10 rfl (Nat.le_of_ble_eq_true rfl) ?_
      refine q_getR (n := 11) d_X11_of_155 hA.2.1.1 fi_11_109 rfl (Nat.le_of_ble_eq_true rfl) ?_
      refine q_bipush d_X11_of_158 rfl ?_
      refine q_aload_n d_X11_of_160 rfl ?_
      refine q_iload_n (x := x1) d_X11_of_161 rfl ?_
      refine q_callI (R' := R_X2_tells) (runV (As := [vi 12, vr κ ((a + 1) + 1), vi x1]) (rest := []) d_X11_of_162.1 cv_11_187 rfl hA.2.1.2.2.2.1.1 rfl rfl ⟨rfl, rfl, by decide, by decide⟩ (Nat.le_of_ble_eq_true rfl) w_s2 rfl) d_X11_of_162.2 (c_X2_tells κ ((a + 1) + 11) hA.2.1.2.2.2.1 12 (inr_d rfl) ((a + 1) + 1) hA.2.1.2.1 x1 h_x1 s2) rfl (fun r25 s26 h_r25 w_s26 => ?_)
      exact q_ireti d_X11_of_165 rfl h_r25 w_s26
    refine q_tswD (tgt := 166) d_X11_of_19 h_x2 (by omega) (by decide) ?_
    refine q_iconst d_X11_of_166 ?_
    exact q_ireti d_X11_of_167 rfl (inr_d rfl) w_s2
abbrev R_X11_river : Room := { frames := 2, cells := 0, slots := 0, locals := 45 }
noncomputable def f_X11_river (a : Nat) (x1 : Int) (x2 : Int) (s0 : Mem) : Res :=
  jn (fun (s1 : Mem) => if x2 = 1 then (bd (f_X11_within x1 0 23 s1) fun r3 s4 => if r3 = 0 then (some ((-100), s4)) else (bd (f_X1_goesAt ((a + 1) + 18) x1 s4) fun r6 s7 => some (r6, s7))) else (some ((-100), s1))) fun j27 => if x2 = 0 then (bd (f_X11_within x1 0 15 s0) fun r9 s10 => if r9 = 0 then (j27 s10) else (gd ((0 : Int) ≤ x1 ∧ x1 < 16) (some (s10 (((a + 1) + 1) + 8) x1, s10)))) else (j27 s0)
set_option maxHeartbeats 4000000 in
set_option maxRecDepth 10000 in
theorem c_X11_river (κ : Kp) (a : Nat) (hA : At11 κ a) (x1 : Int) (h_x1 : InR x1) (x2 : Int) (h_x2 : InR x2) (s0 : Mem) : ∀ r σ', f_X11_river a x1 x2 s0 = some (r, σ') → Ct κ M_X11_river R_X11_river [vr κ a, vi x1, vi x2] s0 r σ' := by
  intro r σ' ho
  refine Ct.of (by decide) (Nat.le_of_ble_eq_true rfl) (cat_ok rfl) (fun w_s0 => ?_) ⟨rfl, rfl⟩
  refine q_ent (ls' := [some (vr κ a), some (vi x1), some (vi x2)]) (o := f_X11_river a x1 x2 s0) ⟨rfl, rfl, rfl, trivial⟩ ?_ ho
  unfold f_X11_river
  refine q_iload_n (x := x2) d_X11_river_0 rfl ?_
  refine q_jn (α := Mem → Res) (fun j27 => ∀ (s1 : Mem) (w_s1 : WF s1), EO κ M_X11_river R_X11_river 27 [some (vr κ a), some (vi x1), some (vi x2)] [] s1 (j27 s1)) ?_ (fun j27 hj27 => ?_)
  · intro s1 w_s1
    refine q_iload_n (x := x2) d_X11_river_27 rfl ?_
    refine q_iconst d_X11_river_28 ?_
    refine q_icmp_ne d_X11_river_29 h_x2 (inr_b (Or.inr rfl)) (fun c2 => ?_) (fun c2 => ?_)
    · refine q_iload_n (x := x1) d_X11_river_32 rfl ?_
      refine q_iconst d_X11_river_33 ?_
      refine q_bipush d_X11_river_34 rfl ?_
      refine q_callZ (R' := R_X11_within) (runS (As := [vi x1, vi 0, vi 23]) (rest := []) d_X11_river_36.1 cv_11_57 rfl ⟨rfl, rfl, by decide, by decide⟩ (Nat.le_of_ble_eq_true rfl) w_s1 rfl) d_X11_river_36.2 (c_X11_within κ x1 h_x1 0 (inr_b (Or.inl rfl)) 23 (inr_d rfl) s1) rfl (fun r3 s4 h_r3 w_s4 => ?_)
      refine q_if_eq d_X11_river_39 (inr_b h_r3) (fun c5 => ?_) (fun c5 => ?_)
      · refine q_bipush d_X11_river_54 rfl ?_
        exact q_ireti d_X11_river_56 rfl (inr_d rfl) w_s4
      · refine q_aload_n d_X11_river_42 rfl ?_
        refine q_getR (n := 1) d_X11_river_43 hA.1 fi_11_10 rfl (Nat.le_of_ble_eq_true rfl) ?_
        refine q_getR (n := 18) d_X11_river_46 hA.2.1.1 fi_11_123 rfl (Nat.le_of_ble_eq_true rfl) ?_
        refine q_iload_n (x := x1) d_X11_river_49 rfl ?_
        refine q_callI (R' := R_X1_goesAt) (runV (As := [vi x1]) (rest := []) d_X11_river_50.1 cv_11_194 rfl hA.2.1.2.2.2.2.1.1 rfl rfl ⟨rfl, rfl, by decide, by decide⟩ (Nat.le_of_ble_eq_true rfl) w_s4 rfl) d_X11_river_50.2 (c_X1_goesAt κ ((a + 1) + 18) hA.2.1.2.2.2.2.1 x1 h_x1 s4) rfl (fun r6 s7 h_r6 w_s7 => ?_)
        exact q_ireti d_X11_river_53 rfl h_r6 w_s7
    · refine q_bipush d_X11_river_54 rfl ?_
      exact q_ireti d_X11_river_56 rfl (inr_d rfl) w_s1
  refine q_if_ne d_X11_river_1 h_x2 (fun c8 => ?_) (fun c8 => ?_)
  · refine q_iload_n (x := x1) d_X11_river_4 rfl ?_
    refine q_iconst d_X11_river_5 ?_
    refine q_bipush d_X11_river_6 rfl ?_
    refine q_callZ (R' := R_X11_within) (runS (As := [vi x1, vi 0, vi 15]) (rest := []) d_X11_river_8.1 cv_11_57 rfl ⟨rfl, rfl, by decide, by decide⟩ (Nat.le_of_ble_eq_true rfl) w_s0 rfl) d_X11_river_8.2 (c_X11_within κ x1 h_x1 0 (inr_b (Or.inl rfl)) 15 (inr_d rfl) s0) rfl (fun r9 s10 h_r9 w_s10 => ?_)
    refine q_if_eq d_X11_river_11 (inr_b h_r9) (fun c11 => ?_) (fun c11 => ?_)
    · refine q_sub (ls' := [some (vr κ a), some (vi x1), some (vi x2)]) ⟨rfl, rfl, rfl, trivial⟩ ?_
      exact hj27 s10 w_s10
    · refine q_aload_n d_X11_river_14 rfl ?_
      refine q_getR (n := 1) d_X11_river_15 hA.1 fi_11_10 rfl (Nat.le_of_ble_eq_true rfl) ?_
      refine q_getR (n := 1) d_X11_river_18 hA.2.1.1 fi_11_44 rfl (Nat.le_of_ble_eq_true rfl) ?_
      refine q_getR (n := 8) d_X11_river_21 hA.2.1.2.1.1 fi_11_191 rfl (Nat.le_of_ble_eq_true rfl) ?_
      refine q_iload_n (x := x1) d_X11_river_24 rfl ?_
      refine q_iaload (m := 16) d_X11_river_25 hA.2.1.2.1.2.2.2.2.2.2.2.2 (by decide) rfl (fun g12 => ?_)
      exact q_ireti d_X11_river_26 rfl (w_s10 _ _) w_s10
  · refine q_sub (ls' := [some (vr κ a), some (vi x1), some (vi x2)]) ⟨rfl, rfl, rfl, trivial⟩ ?_
    exact hj27 s0 w_s0
abbrev R_X11_village : Room := { frames := 2, cells := 0, slots := 0, locals := 43 }
noncomputable def f_X11_village (a : Nat) (x1 : Int) (x2 : Int) (s0 : Mem) : Res :=
  bd (f_X9_isTold ((a + 1) + 26) x1 s0) fun r1 s2 => if r1 = 0 then (some ((-1), s2)) else (if x2 = 0 then (gd ((0 : Int) ≤ x1 ∧ x1 < 12) (some (s2 (((a + 1) + 26) + 1) x1, s2))) else (if x2 = 1 then (gd ((0 : Int) ≤ x1 ∧ x1 < 12) (some (s2 (((a + 1) + 26) + 2) x1, s2))) else (some ((-1), s2))))
set_option maxHeartbeats 4000000 in
set_option maxRecDepth 10000 in
theorem c_X11_village (κ : Kp) (a : Nat) (hA : At11 κ a) (x1 : Int) (h_x1 : InR x1) (x2 : Int) (h_x2 : InR x2) (s0 : Mem) : ∀ r σ', f_X11_village a x1 x2 s0 = some (r, σ') → Ct κ M_X11_village R_X11_village [vr κ a, vi x1, vi x2] s0 r σ' := by
  intro r σ' ho
  refine Ct.of (by decide) (Nat.le_of_ble_eq_true rfl) (cat_ok rfl) (fun w_s0 => ?_) ⟨rfl, rfl⟩
  refine q_ent (ls' := [some (vr κ a), some (vi x1), some (vi x2)]) (o := f_X11_village a x1 x2 s0) ⟨rfl, rfl, rfl, trivial⟩ ?_ ho
  unfold f_X11_village
  refine q_aload_n d_X11_village_0 rfl ?_
  refine q_getR (n := 1) d_X11_village_1 hA.1 fi_11_10 rfl (Nat.le_of_ble_eq_true rfl) ?_
  refine q_getR (n := 26) d_X11_village_4 hA.2.1.1 fi_11_145 rfl (Nat.le_of_ble_eq_true rfl) ?_
  refine q_iload_n (x := x1) d_X11_village_7 rfl ?_
  refine q_callZ (R' := R_X9_isTold) (runV (As := [vi x1]) (rest := []) d_X11_village_8.1 cv_11_198 rfl hA.2.1.2.2.2.2.2.2.1.1 rfl rfl ⟨rfl, rfl, by decide, by decide⟩ (Nat.le_of_ble_eq_true rfl) w_s0 rfl) d_X11_village_8.2 (c_X9_isTold κ ((a + 1) + 26) hA.2.1.2.2.2.2.2.2.1 x1 h_x1 s0) rfl (fun r1 s2 h_r1 w_s2 => ?_)
  refine q_if_ne d_X11_village_11 (inr_b h_r1) (fun c3 => ?_) (fun c3 => ?_)
  · refine q_iconst d_X11_village_14 ?_
    exact q_ireti d_X11_village_15 rfl (inr_d rfl) w_s2
  · refine q_iload_n (x := x2) d_X11_village_16 rfl ?_
    refine q_ite (fun c4 => ?_) (fun c4 => ?_)
    · refine q_lsw (tgt := 44) (off := 27) d_X11_village_17 h_x2 (by decide) (by rw [c4]; rfl) (by decide) ?_
      refine q_aload_n d_X11_village_44 rfl ?_
      refine q_getR (n := 1) d_X11_village_45 hA.1 fi_11_10 rfl (Nat.le_of_ble_eq_true rfl) ?_
      refine q_getR (n := 26) d_X11_village_48 hA.2.1.1 fi_11_145 rfl (Nat.le_of_ble_eq_true rfl) ?_
      refine q_getR (n := 1) d_X11_village_51 hA.2.1.2.2.2.2.2.2.1.1 fi_11_201 rfl (Nat.le_of_ble_eq_true rfl) ?_
      refine q_iload_n (x := x1) d_X11_village_54 rfl ?_
      refine q_iaload (m := 12) d_X11_village_55 hA.2.1.2.2.2.2.2.2.1.2.1 (by decide) rfl (fun g5 => ?_)
      exact q_ireti d_X11_village_56 rfl (w_s2 _ _) w_s2
    refine q_ite (fun c6 => ?_) (fun c6 => ?_)
    · refine q_lsw (tgt := 57) (off := 40) d_X11_village_17 h_x2 (by decide) (by rw [c6]; rfl) (by decide) ?_
      refine q_aload_n d_X11_village_57 rfl ?_
      refine q_getR (n := 1) d_X11_village_58 hA.1 fi_11_10 rfl (Nat.le_of_ble_eq_true rfl) ?_
      refine q_getR (n := 26) d_X11_village_61 hA.2.1.1 fi_11_145 rfl (Nat.le_of_ble_eq_true rfl) ?_
      refine q_getR (n := 2) d_X11_village_64 hA.2.1.2.2.2.2.2.2.1.1 fi_11_202 rfl (Nat.le_of_ble_eq_true rfl) ?_
      refine q_iload_n (x := x1) d_X11_village_67 rfl ?_
      refine q_iaload (m := 12) d_X11_village_68 hA.2.1.2.2.2.2.2.2.1.2.2.1 (by decide) rfl (fun g7 => ?_)
      exact q_ireti d_X11_village_69 rfl (w_s2 _ _) w_s2
    refine q_lsw (tgt := 70) (off := 53) d_X11_village_17 h_x2 (by decide) (by
    show Op.lookupswitch.offset [(0, 27), (1, 40)] 53 x2 = 53
    rw [Op.lookupswitch.offset_cons, if_neg (fun q => c4 q.symm), Op.lookupswitch.offset_cons, if_neg (fun q => c6 q.symm), Op.lookupswitch.offset_nil]) (by decide) ?_
    refine q_iconst d_X11_village_70 ?_
    exact q_ireti d_X11_village_71 rfl (inr_d rfl) w_s2
abbrev R_X11_book : Room := { frames := 1, cells := 0, slots := 0, locals := 22 }
noncomputable def f_X11_book (a : Nat) (x1 : Int) (x2 : Int) (s0 : Mem) : Res :=
  bd (f_X11_within x1 0 (wr ((s0 ((a + 1) + 1) 16) - 1)) s0) fun r1 s2 => if r1 = 0 then (some ((-1), s2)) else (bd (f_X11_within x2 0 3 s2) fun r4 s5 => if r4 = 0 then (some ((-1), s5)) else (gd ((0 : Int) ≤ wr ((wr (4 * x1)) + x2) ∧ wr ((wr (4 * x1)) + x2) < 600) (some (s5 ((a + 1) + 10) (wr ((wr (4 * x1)) + x2)), s5))))
set_option maxHeartbeats 4000000 in
set_option maxRecDepth 10000 in
theorem c_X11_book (κ : Kp) (a : Nat) (hA : At11 κ a) (x1 : Int) (h_x1 : InR x1) (x2 : Int) (h_x2 : InR x2) (s0 : Mem) : ∀ r σ', f_X11_book a x1 x2 s0 = some (r, σ') → Ct κ M_X11_book R_X11_book [vr κ a, vi x1, vi x2] s0 r σ' := by
  intro r σ' ho
  refine Ct.of (by decide) (Nat.le_of_ble_eq_true rfl) (cat_ok rfl) (fun w_s0 => ?_) ⟨rfl, rfl⟩
  refine q_ent (ls' := [some (vr κ a), some (vi x1), some (vi x2)]) (o := f_X11_book a x1 x2 s0) ⟨rfl, rfl, rfl, trivial⟩ ?_ ho
  unfold f_X11_book
  refine q_iload_n (x := x1) d_X11_book_0 rfl ?_
  refine q_iconst d_X11_book_1 ?_
  refine q_aload_n d_X11_book_2 rfl ?_
  refine q_getR (n := 1) d_X11_book_3 hA.1 fi_11_10 rfl (Nat.le_of_ble_eq_true rfl) ?_
  refine q_getR (n := 1) d_X11_book_6 hA.2.1.1 fi_11_44 rfl (Nat.le_of_ble_eq_true rfl) ?_
  refine q_getI (k := 16) (j := 16) d_X11_book_9 hA.2.1.2.1.1 fi_11_205 rfl rfl ?_
  refine q_iconst d_X11_book_12 ?_
  refine q_isub d_X11_book_13 ?_
  refine q_callZ (R' := R_X11_within) (runS (As := [vi x1, vi 0, vi (wr ((s0 ((a + 1) + 1) 16) - 1))]) (rest := []) d_X11_book_14.1 cv_11_57 rfl ⟨rfl, rfl, by decide, by decide⟩ (Nat.le_of_ble_eq_true rfl) w_s0 rfl) d_X11_book_14.2 (c_X11_within κ x1 h_x1 0 (inr_b (Or.inl rfl)) (wr ((s0 ((a + 1) + 1) 16) - 1)) (inr_wr _) s0) rfl (fun r1 s2 h_r1 w_s2 => ?_)
  refine q_if_eq d_X11_book_17 (inr_b h_r1) (fun c3 => ?_) (fun c3 => ?_)
  · refine q_iconst d_X11_book_29 ?_
    exact q_ireti d_X11_book_30 rfl (inr_d rfl) w_s2
  · refine q_iload_n (x := x2) d_X11_book_20 rfl ?_
    refine q_iconst d_X11_book_21 ?_
    refine q_iconst d_X11_book_22 ?_
    refine q_callZ (R' := R_X11_within) (runS (As := [vi x2, vi 0, vi 3]) (rest := []) d_X11_book_23.1 cv_11_57 rfl ⟨rfl, rfl, by decide, by decide⟩ (Nat.le_of_ble_eq_true rfl) w_s2 rfl) d_X11_book_23.2 (c_X11_within κ x2 h_x2 0 (inr_b (Or.inl rfl)) 3 (inr_d rfl) s2) rfl (fun r4 s5 h_r4 w_s5 => ?_)
    refine q_if_ne d_X11_book_26 (inr_b h_r4) (fun c6 => ?_) (fun c6 => ?_)
    · refine q_iconst d_X11_book_29 ?_
      exact q_ireti d_X11_book_30 rfl (inr_d rfl) w_s5
    · refine q_aload_n d_X11_book_31 rfl ?_
      refine q_getR (n := 1) d_X11_book_32 hA.1 fi_11_10 rfl (Nat.le_of_ble_eq_true rfl) ?_
      refine q_getR (n := 10) d_X11_book_35 hA.2.1.1 fi_11_208 rfl (Nat.le_of_ble_eq_true rfl) ?_
      refine q_iconst d_X11_book_38 ?_
      refine q_iload_n (x := x1) d_X11_book_39 rfl ?_
      refine q_imul d_X11_book_40 ?_
      refine q_iload_n (x := x2) d_X11_book_41 rfl ?_
      refine q_iadd d_X11_book_42 ?_
      refine q_iaload (m := 600) d_X11_book_43 hA.2.1.2.2.1 (by decide) rfl (fun g7 => ?_)
      exact q_ireti d_X11_book_44 rfl (w_s5 _ _) w_s5
abbrev R_X11_goes : Room := { frames := 6, cells := 0, slots := 0, locals := 152 }
noncomputable def f_X11_goes (a : Nat) (x1 : Int) (x2 : Int) (s0 : Mem) : Res :=
  bd (f_X11_within x1 1 99 s0) fun r1 s2 => if r1 = 0 then (some ((-1), s2)) else (bd (f_X11_within x2 0 2 s2) fun r4 s5 => if r4 = 0 then (some ((-1), s5)) else (bd (f_X8_behind (a + 133) (a + 1) x1 s5) fun r7 s8 => gd (isN r7.toNat) (if x2 = 0 then (bd (f_X4_had (r7.toNat) s8) fun r11 s12 => some (r11, s12)) else (if x2 = 1 then (bd (f_X4_howManyLost (r7.toNat) s8) fun r14 s15 => some (r14, s15)) else (some (s8 (r7.toNat) 10, s8))))))
set_option maxHeartbeats 4000000 in
set_option maxRecDepth 10000 in
theorem c_X11_goes (κ : Kp) (a : Nat) (hA : At11 κ a) (x1 : Int) (h_x1 : InR x1) (x2 : Int) (h_x2 : InR x2) (s0 : Mem) : ∀ r σ', f_X11_goes a x1 x2 s0 = some (r, σ') → Ct κ M_X11_goes R_X11_goes [vr κ a, vi x1, vi x2] s0 r σ' := by
  intro r σ' ho
  refine Ct.of (by decide) (Nat.le_of_ble_eq_true rfl) (cat_ok rfl) (fun w_s0 => ?_) ⟨rfl, rfl⟩
  refine q_ent (ls' := [some (vr κ a), some (vi x1), some (vi x2), none]) (o := f_X11_goes a x1 x2 s0) ⟨rfl, rfl, rfl, trivial⟩ ?_ ho
  unfold f_X11_goes
  refine q_iload_n (x := x1) d_X11_goes_0 rfl ?_
  refine q_iconst d_X11_goes_1 ?_
  refine q_bipush d_X11_goes_2 rfl ?_
  refine q_callZ (R' := R_X11_within) (runS (As := [vi x1, vi 1, vi 99]) (rest := []) d_X11_goes_4.1 cv_11_57 rfl ⟨rfl, rfl, by decide, by decide⟩ (Nat.le_of_ble_eq_true rfl) w_s0 rfl) d_X11_goes_4.2 (c_X11_within κ x1 h_x1 1 (inr_b (Or.inr rfl)) 99 (inr_d rfl) s0) rfl (fun r1 s2 h_r1 w_s2 => ?_)
  refine q_if_eq d_X11_goes_7 (inr_b h_r1) (fun c3 => ?_) (fun c3 => ?_)
  · refine q_iconst d_X11_goes_19 ?_
    exact q_ireti d_X11_goes_20 rfl (inr_d rfl) w_s2
  · refine q_iload_n (x := x2) d_X11_goes_10 rfl ?_
    refine q_iconst d_X11_goes_11 ?_
    refine q_iconst d_X11_goes_12 ?_
    refine q_callZ (R' := R_X11_within) (runS (As := [vi x2, vi 0, vi 2]) (rest := []) d_X11_goes_13.1 cv_11_57 rfl ⟨rfl, rfl, by decide, by decide⟩ (Nat.le_of_ble_eq_true rfl) w_s2 rfl) d_X11_goes_13.2 (c_X11_within κ x2 h_x2 0 (inr_b (Or.inl rfl)) 2 (inr_d rfl) s2) rfl (fun r4 s5 h_r4 w_s5 => ?_)
    refine q_if_ne d_X11_goes_16 (inr_b h_r4) (fun c6 => ?_) (fun c6 => ?_)
    · refine q_iconst d_X11_goes_19 ?_
      exact q_ireti d_X11_goes_20 rfl (inr_d rfl) w_s5
    · refine q_aload_n d_X11_goes_21 rfl ?_
      refine q_getR (n := 133) d_X11_goes_22 hA.1 fi_11_29 rfl (Nat.le_of_ble_eq_true rfl) ?_
      refine q_aload_n d_X11_goes_25 rfl ?_
      refine q_getR (n := 1) d_X11_goes_26 hA.1 fi_11_10 rfl (Nat.le_of_ble_eq_true rfl) ?_
      refine q_iload_n (x := x1) d_X11_goes_29 rfl ?_
      refine q_callR (R' := R_X8_behind) (runV (As := [vr κ (a + 1), vi x1]) (rest := []) d_X11_goes_30.1 cv_11_210 rfl hA.2.2.2.2.1.1 rfl rfl ⟨rfl, rfl, by decide, by decide⟩ (Nat.le_of_ble_eq_true rfl) w_s5 rfl) d_X11_goes_30.2 (c_X8_behind κ (a + 133) hA.2.2.2.2.1 (a + 1) hA.2.1 x1 h_x1 s5) rfl (fun r7 s8 h_r7 w_s8 => ?_)
      refine q_gd (fun g9 => ?_)
      refine q_astore_n d_X11_goes_33 rfl ?_
      refine q_iload_n (x := x2) d_X11_goes_34 rfl ?_
      refine q_if_ne d_X11_goes_35 h_x2 (fun c10 => ?_) (fun c10 => ?_)
      · refine q_aload_n d_X11_goes_38 rfl ?_
        refine q_callI (R' := R_X4_had) (runV (As := []) (rest := []) d_X11_goes_39.1 cv_11_214 rfl (at4_x hA.2.2.2.2.1.2.2.2 g9).1 rfl rfl ⟨rfl, rfl, by decide, by decide⟩ (Nat.le_of_ble_eq_true rfl) w_s8 rfl) d_X11_goes_39.2 (c_X4_had κ (r7.toNat) (at4_x hA.2.2.2.2.1.2.2.2 g9) s8) rfl (fun r11 s12 h_r11 w_s12 => ?_)
        exact q_ireti d_X11_goes_42 rfl h_r11 w_s12
      · refine q_iload_n (x := x2) d_X11_goes_43 rfl ?_
        refine q_iconst d_X11_goes_44 ?_
        refine q_icmp_ne d_X11_goes_45 h_x2 (inr_b (Or.inr rfl)) (fun c13 => ?_) (fun c13 => ?_)
        · refine q_aload_n d_X11_goes_48 rfl ?_
          refine q_callI (R' := R_X4_howManyLost) (runV (As := []) (rest := []) d_X11_goes_49.1 cv_11_218 rfl (at4_x hA.2.2.2.2.1.2.2.2 g9).1 rfl rfl ⟨rfl, rfl, by decide, by decide⟩ (Nat.le_of_ble_eq_true rfl) w_s8 rfl) d_X11_goes_49.2 (c_X4_howManyLost κ (r7.toNat) (at4_x hA.2.2.2.2.1.2.2.2 g9) s8) rfl (fun r14 s15 h_r14 w_s15 => ?_)
          refine q_goto d_X11_goes_52 ?_
          exact q_ireti d_X11_goes_59 rfl h_r14 w_s15
        · refine q_aload_n d_X11_goes_55 rfl ?_
          refine q_getI (k := 10) (j := 10) d_X11_goes_56 (at4_x hA.2.2.2.2.1.2.2.2 g9).1 fi_11_221 rfl rfl ?_
          exact q_ireti d_X11_goes_59 rfl (w_s8 _ _) w_s8
abbrev R_X11_stays : Room := { frames := 6, cells := 0, slots := 0, locals := 152 }
noncomputable def f_X11_stays (a : Nat) (x1 : Int) (s0 : Mem) : Res :=
  bd (f_X4_afloat ((a + 1) + 1) x1 s0) fun r1 s2 => if r1 = 0 then (some ((-1), s2)) else (bd (f_X8_lostBehind (a + 133) (a + 1) x1 s2) fun r4 s5 => some (r4, s5))
set_option maxHeartbeats 4000000 in
set_option maxRecDepth 10000 in
theorem c_X11_stays (κ : Kp) (a : Nat) (hA : At11 κ a) (x1 : Int) (h_x1 : InR x1) (s0 : Mem) : ∀ r σ', f_X11_stays a x1 s0 = some (r, σ') → Ct κ M_X11_stays R_X11_stays [vr κ a, vi x1] s0 r σ' := by
  intro r σ' ho
  refine Ct.of (by decide) (Nat.le_of_ble_eq_true rfl) (cat_ok rfl) (fun w_s0 => ?_) ⟨rfl, rfl⟩
  refine q_ent (ls' := [some (vr κ a), some (vi x1)]) (o := f_X11_stays a x1 s0) ⟨rfl, rfl, trivial⟩ ?_ ho
  unfold f_X11_stays
  refine q_aload_n d_X11_stays_0 rfl ?_
  refine q_getR (n := 1) d_X11_stays_1 hA.1 fi_11_10 rfl (Nat.le_of_ble_eq_true rfl) ?_
  refine q_getR (n := 1) d_X11_stays_4 hA.2.1.1 fi_11_44 rfl (Nat.le_of_ble_eq_true rfl) ?_
  refine q_iload_n (x := x1) d_X11_stays_7 rfl ?_
  refine q_callZ (R' := R_X4_afloat) (runV (As := [vi x1]) (rest := []) d_X11_stays_8.1 cv_11_71 rfl hA.2.1.2.1.1 rfl rfl ⟨rfl, rfl, by decide, by decide⟩ (Nat.le_of_ble_eq_true rfl) w_s0 rfl) d_X11_stays_8.2 (c_X4_afloat κ ((a + 1) + 1) hA.2.1.2.1 x1 h_x1 s0) rfl (fun r1 s2 h_r1 w_s2 => ?_)
  refine q_if_eq d_X11_stays_11 (inr_b h_r1) (fun c3 => ?_) (fun c3 => ?_)
  · refine q_iconst d_X11_stays_29 ?_
    exact q_ireti d_X11_stays_30 rfl (inr_d rfl) w_s2
  · refine q_aload_n d_X11_stays_14 rfl ?_
    refine q_getR (n := 133) d_X11_stays_15 hA.1 fi_11_29 rfl (Nat.le_of_ble_eq_true rfl) ?_
    refine q_aload_n d_X11_stays_18 rfl ?_
    refine q_getR (n := 1) d_X11_stays_19 hA.1 fi_11_10 rfl (Nat.le_of_ble_eq_true rfl) ?_
    refine q_iload_n (x := x1) d_X11_stays_22 rfl ?_
    refine q_callI (R' := R_X8_lostBehind) (runV (As := [vr κ (a + 1), vi x1]) (rest := []) d_X11_stays_23.1 cv_11_224 rfl hA.2.2.2.2.1.1 rfl rfl ⟨rfl, rfl, by decide, by decide⟩ (Nat.le_of_ble_eq_true rfl) w_s2 rfl) d_X11_stays_23.2 (c_X8_lostBehind κ (a + 133) hA.2.2.2.2.1 (a + 1) hA.2.1 x1 h_x1 s2) rfl (fun r4 s5 h_r4 w_s5 => ?_)
    refine q_goto d_X11_stays_26 ?_
    exact q_ireti d_X11_stays_30 rfl h_r4 w_s5
abbrev R_X11_keeps : Room := { frames := 6, cells := 0, slots := 0, locals := 152 }
noncomputable def f_X11_keeps (a : Nat) (x1 : Int) (s0 : Mem) : Res :=
  bd (f_X11_within x1 1 9999 s0) fun r1 s2 => if r1 = 0 then (some ((-1), s2)) else (bd (f_X8_hadBehind (a + 133) (a + 1) x1 s2) fun r4 s5 => some (r4, s5))
set_option maxHeartbeats 4000000 in
set_option maxRecDepth 10000 in
theorem c_X11_keeps (κ : Kp) (a : Nat) (hA : At11 κ a) (x1 : Int) (h_x1 : InR x1) (s0 : Mem) : ∀ r σ', f_X11_keeps a x1 s0 = some (r, σ') → Ct κ M_X11_keeps R_X11_keeps [vr κ a, vi x1] s0 r σ' := by
  intro r σ' ho
  refine Ct.of (by decide) (Nat.le_of_ble_eq_true rfl) (cat_ok rfl) (fun w_s0 => ?_) ⟨rfl, rfl⟩
  refine q_ent (ls' := [some (vr κ a), some (vi x1)]) (o := f_X11_keeps a x1 s0) ⟨rfl, rfl, trivial⟩ ?_ ho
  unfold f_X11_keeps
  refine q_iload_n (x := x1) d_X11_keeps_0 rfl ?_
  refine q_iconst d_X11_keeps_1 ?_
  refine q_sipush d_X11_keeps_2 rfl ?_
  refine q_callZ (R' := R_X11_within) (runS (As := [vi x1, vi 1, vi 9999]) (rest := []) d_X11_keeps_5.1 cv_11_57 rfl ⟨rfl, rfl, by decide, by decide⟩ (Nat.le_of_ble_eq_true rfl) w_s0 rfl) d_X11_keeps_5.2 (c_X11_within κ x1 h_x1 1 (inr_b (Or.inr rfl)) 9999 (inr_d rfl) s0) rfl (fun r1 s2 h_r1 w_s2 => ?_)
  refine q_if_eq d_X11_keeps_8 (inr_b h_r1) (fun c3 => ?_) (fun c3 => ?_)
  · refine q_iconst d_X11_keeps_26 ?_
    exact q_ireti d_X11_keeps_27 rfl (inr_d rfl) w_s2
  · refine q_aload_n d_X11_keeps_11 rfl ?_
    refine q_getR (n := 133) d_X11_keeps_12 hA.1 fi_11_29 rfl (Nat.le_of_ble_eq_true rfl) ?_
    refine q_aload_n d_X11_keeps_15 rfl ?_
    refine q_getR (n := 1) d_X11_keeps_16 hA.1 fi_11_10 rfl (Nat.le_of_ble_eq_true rfl) ?_
    refine q_iload_n (x := x1) d_X11_keeps_19 rfl ?_
    refine q_callI (R' := R_X8_hadBehind) (runV (As := [vr κ (a + 1), vi x1]) (rest := []) d_X11_keeps_20.1 cv_11_228 rfl hA.2.2.2.2.1.1 rfl rfl ⟨rfl, rfl, by decide, by decide⟩ (Nat.le_of_ble_eq_true rfl) w_s2 rfl) d_X11_keeps_20.2 (c_X8_hadBehind κ (a + 133) hA.2.2.2.2.1 (a + 1) hA.2.1 x1 h_x1 s2) rfl (fun r4 s5 h_r4 w_s5 => ?_)
    refine q_goto d_X11_keeps_23 ?_
    exact q_ireti d_X11_keeps_27 rfl h_r4 w_s5
abbrev R_X11_turnings : Room := { frames := 6, cells := 0, slots := 0, locals := 158 }
noncomputable def f_X11_turnings (a : Nat) (x1 : Int) (x2 : Int) (x3 : Int) (s0 : Mem) : Res :=
  bd (f_X4_afloat ((a + 1) + 1) x1 s0) fun r1 s2 => if r1 = 0 then (some ((-1), s2)) else (bd (f_X11_within x2 1 10 s2) fun r4 s5 => if r4 = 0 then (some ((-1), s5)) else (bd (f_X11_within x3 0 1 s5) fun r7 s8 => if r7 = 0 then (some ((-1), s8)) else (bd (f_X8_bestTurns (a + 133) (a + 1) x1 x2 x3 s8) fun r10 s11 => some (r10, s11))))
set_option maxHeartbeats 4000000 in
set_option maxRecDepth 10000 in
theorem c_X11_turnings (κ : Kp) (a : Nat) (hA : At11 κ a) (x1 : Int) (h_x1 : InR x1) (x2 : Int) (h_x2 : InR x2) (x3 : Int) (h_x3 : InR x3) (s0 : Mem) : ∀ r σ', f_X11_turnings a x1 x2 x3 s0 = some (r, σ') → Ct κ M_X11_turnings R_X11_turnings [vr κ a, vi x1, vi x2, vi x3] s0 r σ' := by
  intro r σ' ho
  refine Ct.of (by decide) (Nat.le_of_ble_eq_true rfl) (cat_ok rfl) (fun w_s0 => ?_) ⟨rfl, rfl⟩
  refine q_ent (ls' := [some (vr κ a), some (vi x1), some (vi x2), some (vi x3)]) (o := f_X11_turnings a x1 x2 x3 s0) ⟨rfl, rfl, rfl, rfl, trivial⟩ ?_ ho
  unfold f_X11_turnings
  refine q_aload_n d_X11_turnings_0 rfl ?_
  refine q_getR (n := 1) d_X11_turnings_1 hA.1 fi_11_10 rfl (Nat.le_of_ble_eq_true rfl) ?_
  refine q_getR (n := 1) d_X11_turnings_4 hA.2.1.1 fi_11_44 rfl (Nat.le_of_ble_eq_true rfl) ?_
  refine q_iload_n (x := x1) d_X11_turnings_7 rfl ?_
  refine q_callZ (R' := R_X4_afloat) (runV (As := [vi x1]) (rest := []) d_X11_turnings_8.1 cv_11_71 rfl hA.2.1.2.1.1 rfl rfl ⟨rfl, rfl, by decide, by decide⟩ (Nat.le_of_ble_eq_true rfl) w_s0 rfl) d_X11_turnings_8.2 (c_X4_afloat κ ((a + 1) + 1) hA.2.1.2.1 x1 h_x1 s0) rfl (fun r1 s2 h_r1 w_s2 => ?_)
  refine q_if_eq d_X11_turnings_11 (inr_b h_r1) (fun c3 => ?_) (fun c3 => ?_)
  · refine q_iconst d_X11_turnings_33 ?_
    exact q_ireti d_X11_turnings_34 rfl (inr_d rfl) w_s2
  · refine q_iload_n (x := x2) d_X11_turnings_14 rfl ?_
    refine q_iconst d_X11_turnings_15 ?_
    refine q_bipush d_X11_turnings_16 rfl ?_
    refine q_callZ (R' := R_X11_within) (runS (As := [vi x2, vi 1, vi 10]) (rest := []) d_X11_turnings_18.1 cv_11_57 rfl ⟨rfl, rfl, by decide, by decide⟩ (Nat.le_of_ble_eq_true rfl) w_s2 rfl) d_X11_turnings_18.2 (c_X11_within κ x2 h_x2 1 (inr_b (Or.inr rfl)) 10 (inr_d rfl) s2) rfl (fun r4 s5 h_r4 w_s5 => ?_)
    refine q_if_eq d_X11_turnings_21 (inr_b h_r4) (fun c6 => ?_) (fun c6 => ?_)
    · refine q_iconst d_X11_turnings_33 ?_
      exact q_ireti d_X11_turnings_34 rfl (inr_d rfl) w_s5
    · refine q_iload_n (x := x3) d_X11_turnings_24 rfl ?_
      refine q_iconst d_X11_turnings_25 ?_
      refine q_iconst d_X11_turnings_26 ?_
      refine q_callZ (R' := R_X11_within) (runS (As := [vi x3, vi 0, vi 1]) (rest := []) d_X11_turnings_27.1 cv_11_57 rfl ⟨rfl, rfl, by decide, by decide⟩ (Nat.le_of_ble_eq_true rfl) w_s5 rfl) d_X11_turnings_27.2 (c_X11_within κ x3 h_x3 0 (inr_b (Or.inl rfl)) 1 (inr_b (Or.inr rfl)) s5) rfl (fun r7 s8 h_r7 w_s8 => ?_)
      refine q_if_ne d_X11_turnings_30 (inr_b h_r7) (fun c9 => ?_) (fun c9 => ?_)
      · refine q_iconst d_X11_turnings_33 ?_
        exact q_ireti d_X11_turnings_34 rfl (inr_d rfl) w_s8
      · refine q_aload_n d_X11_turnings_35 rfl ?_
        refine q_getR (n := 133) d_X11_turnings_36 hA.1 fi_11_29 rfl (Nat.le_of_ble_eq_true rfl) ?_
        refine q_aload_n d_X11_turnings_39 rfl ?_
        refine q_getR (n := 1) d_X11_turnings_40 hA.1 fi_11_10 rfl (Nat.le_of_ble_eq_true rfl) ?_
        refine q_iload_n (x := x1) d_X11_turnings_43 rfl ?_
        refine q_iload_n (x := x2) d_X11_turnings_44 rfl ?_
        refine q_iload_n (x := x3) d_X11_turnings_45 rfl ?_
        refine q_callI (R' := R_X8_bestTurns) (runV (As := [vr κ (a + 1), vi x1, vi x2, vi x3]) (rest := []) d_X11_turnings_46.1 cv_11_231 rfl hA.2.2.2.2.1.1 rfl rfl ⟨rfl, rfl, by decide, by decide⟩ (Nat.le_of_ble_eq_true rfl) w_s8 rfl) d_X11_turnings_46.2 (c_X8_bestTurns κ (a + 133) hA.2.2.2.2.1 (a + 1) hA.2.1 x1 h_x1 x2 h_x2 x3 h_x3 s8) rfl (fun r10 s11 h_r10 w_s11 => ?_)
        exact q_ireti d_X11_turnings_49 rfl h_r10 w_s11
abbrev R_X11_lies : Room := { frames := 6, cells := 0, slots := 0, locals := 157 }
noncomputable def f_X11_lies (a : Nat) (x1 : Int) (s0 : Mem) : Res :=
  bd (f_X11_within x1 1 20 s0) fun r1 s2 => if r1 = 0 then (some ((-1), s2)) else (bd (f_X8_bestReach (a + 133) (a + 1) x1 s2) fun r4 s5 => some (r4, s5))
set_option maxHeartbeats 4000000 in
set_option maxRecDepth 10000 in
theorem c_X11_lies (κ : Kp) (a : Nat) (hA : At11 κ a) (x1 : Int) (h_x1 : InR x1) (s0 : Mem) : ∀ r σ', f_X11_lies a x1 s0 = some (r, σ') → Ct κ M_X11_lies R_X11_lies [vr κ a, vi x1] s0 r σ' := by
  intro r σ' ho
  refine Ct.of (by decide) (Nat.le_of_ble_eq_true rfl) (cat_ok rfl) (fun w_s0 => ?_) ⟨rfl, rfl⟩
  refine q_ent (ls' := [some (vr κ a), some (vi x1)]) (o := f_X11_lies a x1 s0) ⟨rfl, rfl, trivial⟩ ?_ ho
  unfold f_X11_lies
  refine q_iload_n (x := x1) d_X11_lies_0 rfl ?_
  refine q_iconst d_X11_lies_1 ?_
  refine q_bipush d_X11_lies_2 rfl ?_
  refine q_callZ (R' := R_X11_within) (runS (As := [vi x1, vi 1, vi 20]) (rest := []) d_X11_lies_4.1 cv_11_57 rfl ⟨rfl, rfl, by decide, by decide⟩ (Nat.le_of_ble_eq_true rfl) w_s0 rfl) d_X11_lies_4.2 (c_X11_within κ x1 h_x1 1 (inr_b (Or.inr rfl)) 20 (inr_d rfl) s0) rfl (fun r1 s2 h_r1 w_s2 => ?_)
  refine q_if_eq d_X11_lies_7 (inr_b h_r1) (fun c3 => ?_) (fun c3 => ?_)
  · refine q_iconst d_X11_lies_25 ?_
    exact q_ireti d_X11_lies_26 rfl (inr_d rfl) w_s2
  · refine q_aload_n d_X11_lies_10 rfl ?_
    refine q_getR (n := 133) d_X11_lies_11 hA.1 fi_11_29 rfl (Nat.le_of_ble_eq_true rfl) ?_
    refine q_aload_n d_X11_lies_14 rfl ?_
    refine q_getR (n := 1) d_X11_lies_15 hA.1 fi_11_10 rfl (Nat.le_of_ble_eq_true rfl) ?_
    refine q_iload_n (x := x1) d_X11_lies_18 rfl ?_
    refine q_callI (R' := R_X8_bestReach) (runV (As := [vr κ (a + 1), vi x1]) (rest := []) d_X11_lies_19.1 cv_11_235 rfl hA.2.2.2.2.1.1 rfl rfl ⟨rfl, rfl, by decide, by decide⟩ (Nat.le_of_ble_eq_true rfl) w_s2 rfl) d_X11_lies_19.2 (c_X8_bestReach κ (a + 133) hA.2.2.2.2.1 (a + 1) hA.2.1 x1 h_x1 s2) rfl (fun r4 s5 h_r4 w_s5 => ?_)
    refine q_goto d_X11_lies_22 ?_
    exact q_ireti d_X11_lies_26 rfl h_r4 w_s5
abbrev R_X11_fogs : Room := { frames := 3, cells := 0, slots := 0, locals := 77 }
noncomputable def f_X11_fogs (a : Nat) (x1 : Int) (x2 : Int) (s0 : Mem) : Res :=
  bd (f_X11_within x1 0 9 s0) fun r1 s2 => if r1 = 0 then (some ((-1), s2)) else (bd (f_X11_within x2 0 48 s2) fun r4 s5 => if r4 = 0 then (some ((-1), s5)) else (bd (f_X8_likely (a + 133) (s5 ((a + 1) + 1) 11) x1 x2 s5) fun r7 s8 => some (r7, s8)))
set_option maxHeartbeats 4000000 in
set_option maxRecDepth 10000 in
theorem c_X11_fogs (κ : Kp) (a : Nat) (hA : At11 κ a) (x1 : Int) (h_x1 : InR x1) (x2 : Int) (h_x2 : InR x2) (s0 : Mem) : ∀ r σ', f_X11_fogs a x1 x2 s0 = some (r, σ') → Ct κ M_X11_fogs R_X11_fogs [vr κ a, vi x1, vi x2] s0 r σ' := by
  intro r σ' ho
  refine Ct.of (by decide) (Nat.le_of_ble_eq_true rfl) (cat_ok rfl) (fun w_s0 => ?_) ⟨rfl, rfl⟩
  refine q_ent (ls' := [some (vr κ a), some (vi x1), some (vi x2)]) (o := f_X11_fogs a x1 x2 s0) ⟨rfl, rfl, rfl, trivial⟩ ?_ ho
  unfold f_X11_fogs
  refine q_iload_n (x := x1) d_X11_fogs_0 rfl ?_
  refine q_iconst d_X11_fogs_1 ?_
  refine q_bipush d_X11_fogs_2 rfl ?_
  refine q_callZ (R' := R_X11_within) (runS (As := [vi x1, vi 0, vi 9]) (rest := []) d_X11_fogs_4.1 cv_11_57 rfl ⟨rfl, rfl, by decide, by decide⟩ (Nat.le_of_ble_eq_true rfl) w_s0 rfl) d_X11_fogs_4.2 (c_X11_within κ x1 h_x1 0 (inr_b (Or.inl rfl)) 9 (inr_d rfl) s0) rfl (fun r1 s2 h_r1 w_s2 => ?_)
  refine q_if_eq d_X11_fogs_7 (inr_b h_r1) (fun c3 => ?_) (fun c3 => ?_)
  · refine q_iconst d_X11_fogs_42 ?_
    exact q_ireti d_X11_fogs_43 rfl (inr_d rfl) w_s2
  · refine q_iload_n (x := x2) d_X11_fogs_10 rfl ?_
    refine q_iconst d_X11_fogs_11 ?_
    refine q_bipush d_X11_fogs_12 rfl ?_
    refine q_callZ (R' := R_X11_within) (runS (As := [vi x2, vi 0, vi 48]) (rest := []) d_X11_fogs_14.1 cv_11_57 rfl ⟨rfl, rfl, by decide, by decide⟩ (Nat.le_of_ble_eq_true rfl) w_s2 rfl) d_X11_fogs_14.2 (c_X11_within κ x2 h_x2 0 (inr_b (Or.inl rfl)) 48 (inr_d rfl) s2) rfl (fun r4 s5 h_r4 w_s5 => ?_)
    refine q_if_eq d_X11_fogs_17 (inr_b h_r4) (fun c6 => ?_) (fun c6 => ?_)
    · refine q_iconst d_X11_fogs_42 ?_
      exact q_ireti d_X11_fogs_43 rfl (inr_d rfl) w_s5
    · refine q_aload_n d_X11_fogs_20 rfl ?_
      refine q_getR (n := 133) d_X11_fogs_21 hA.1 fi_11_29 rfl (Nat.le_of_ble_eq_true rfl) ?_
      refine q_aload_n d_X11_fogs_24 rfl ?_
      refine q_getR (n := 1) d_X11_fogs_25 hA.1 fi_11_10 rfl (Nat.le_of_ble_eq_true rfl) ?_
      refine q_getR (n := 1) d_X11_fogs_28 hA.2.1.1 fi_11_44 rfl (Nat.le_of_ble_eq_true rfl) ?_
      refine q_getI (k := 11) (j := 11) d_X11_fogs_31 hA.2.1.2.1.1 fi_11_238 rfl rfl ?_
      refine q_iload_n (x := x1) d_X11_fogs_34 rfl ?_
      refine q_iload_n (x := x2) d_X11_fogs_35 rfl ?_
      refine q_callI (R' := R_X8_likely) (runV (As := [vi (s5 ((a + 1) + 1) 11), vi x1, vi x2]) (rest := []) d_X11_fogs_36.1 cv_11_241 rfl hA.2.2.2.2.1.1 rfl rfl ⟨rfl, rfl, by decide, by decide⟩ (Nat.le_of_ble_eq_true rfl) w_s5 rfl) d_X11_fogs_36.2 (c_X8_likely κ (a + 133) hA.2.2.2.2.1 (s5 ((a + 1) + 1) 11) (w_s5 _ _) x1 h_x1 x2 h_x2 s5) rfl (fun r7 s8 h_r7 w_s8 => ?_)
      refine q_goto d_X11_fogs_39 ?_
      exact q_ireti d_X11_fogs_43 rfl h_r7 w_s8
abbrev R_X11_buys : Room := { frames := 4, cells := 0, slots := 0, locals := 90 }
noncomputable def f_X11_buys (a : Nat) (x1 : Int) (x2 : Int) (s0 : Mem) : Res :=
  bd (f_X11_within x1 1 999 s0) fun r1 s2 => if r1 = 0 then (some ((-1), s2)) else (bd (f_X11_within x2 0 1 s2) fun r4 s5 => if r4 = 0 then (some ((-1), s5)) else (bd (f_X9_fewestWith ((a + 1) + 26) x1 s5) fun r7 s8 => if x2 = 0 then (if r7 = (-1) then (some (r7, s8)) else (bd (f_J6_bitCount_0f7a4 r7 s8) fun r11 s12 => some (r11, s12))) else (some (r7, s8))))
set_option maxHeartbeats 4000000 in
set_option maxRecDepth 10000 in
theorem c_X11_buys (κ : Kp) (a : Nat) (hA : At11 κ a) (x1 : Int) (h_x1 : InR x1) (x2 : Int) (h_x2 : InR x2) (s0 : Mem) : ∀ r σ', f_X11_buys a x1 x2 s0 = some (r, σ') → Ct κ M_X11_buys R_X11_buys [vr κ a, vi x1, vi x2] s0 r σ' := by
  intro r σ' ho
  refine Ct.of (by decide) (Nat.le_of_ble_eq_true rfl) (cat_ok rfl) (fun w_s0 => ?_) ⟨rfl, rfl⟩
  refine q_ent (ls' := [some (vr κ a), some (vi x1), some (vi x2), none]) (o := f_X11_buys a x1 x2 s0) ⟨rfl, rfl, rfl, trivial⟩ ?_ ho
  unfold f_X11_buys
  refine q_iload_n (x := x1) d_X11_buys_0 rfl ?_
  refine q_iconst d_X11_buys_1 ?_
  refine q_sipush d_X11_buys_2 rfl ?_
  refine q_callZ (R' := R_X11_within) (runS (As := [vi x1, vi 1, vi 999]) (rest := []) d_X11_buys_5.1 cv_11_57 rfl ⟨rfl, rfl, by decide, by decide⟩ (Nat.le_of_ble_eq_true rfl) w_s0 rfl) d_X11_buys_5.2 (c_X11_within κ x1 h_x1 1 (inr_b (Or.inr rfl)) 999 (inr_d rfl) s0) rfl (fun r1 s2 h_r1 w_s2 => ?_)
  refine q_if_eq d_X11_buys_8 (inr_b h_r1) (fun c3 => ?_) (fun c3 => ?_)
  · refine q_iconst d_X11_buys_20 ?_
    exact q_ireti d_X11_buys_21 rfl (inr_d rfl) w_s2
  · refine q_iload_n (x := x2) d_X11_buys_11 rfl ?_
    refine q_iconst d_X11_buys_12 ?_
    refine q_iconst d_X11_buys_13 ?_
    refine q_callZ (R' := R_X11_within) (runS (As := [vi x2, vi 0, vi 1]) (rest := []) d_X11_buys_14.1 cv_11_57 rfl ⟨rfl, rfl, by decide, by decide⟩ (Nat.le_of_ble_eq_true rfl) w_s2 rfl) d_X11_buys_14.2 (c_X11_within κ x2 h_x2 0 (inr_b (Or.inl rfl)) 1 (inr_b (Or.inr rfl)) s2) rfl (fun r4 s5 h_r4 w_s5 => ?_)
    refine q_if_ne d_X11_buys_17 (inr_b h_r4) (fun c6 => ?_) (fun c6 => ?_)
    · refine q_iconst d_X11_buys_20 ?_
      exact q_ireti d_X11_buys_21 rfl (inr_d rfl) w_s5
    · refine q_aload_n d_X11_buys_22 rfl ?_
      refine q_getR (n := 1) d_X11_buys_23 hA.1 fi_11_10 rfl (Nat.le_of_ble_eq_true rfl) ?_
      refine q_getR (n := 26) d_X11_buys_26 hA.2.1.1 fi_11_145 rfl (Nat.le_of_ble_eq_true rfl) ?_
      refine q_iload_n (x := x1) d_X11_buys_29 rfl ?_
      refine q_callI (R' := R_X9_fewestWith) (runV (As := [vi x1]) (rest := []) d_X11_buys_30.1 cv_11_244 rfl hA.2.1.2.2.2.2.2.2.1.1 rfl rfl ⟨rfl, rfl, by decide, by decide⟩ (Nat.le_of_ble_eq_true rfl) w_s5 rfl) d_X11_buys_30.2 (c_X9_fewestWith κ ((a + 1) + 26) hA.2.1.2.2.2.2.2.2.1 x1 h_x1 s5) rfl (fun r7 s8 h_r7 w_s8 => ?_)
      refine q_istore_n d_X11_buys_33 rfl ?_
      refine q_iload_n (x := x2) d_X11_buys_34 rfl ?_
      refine q_if_ne d_X11_buys_35 h_x2 (fun c9 => ?_) (fun c9 => ?_)
      · refine q_iload_n (x := r7) d_X11_buys_38 rfl ?_
        refine q_iconst d_X11_buys_39 ?_
        refine q_icmp_eq d_X11_buys_40 h_r7 (inr_d rfl) (fun c10 => ?_) (fun c10 => ?_)
        · refine q_iload_n (x := r7) d_X11_buys_50 rfl ?_
          exact q_ireti d_X11_buys_51 rfl h_r7 w_s8
        · refine q_iload_n (x := r7) d_X11_buys_43 rfl ?_
          refine q_callI (R' := R_J6_bitCount_0f7a4) (runS (As := [vi r7]) (rest := []) d_X11_buys_44.1 cv_11_247 rfl ⟨rfl, rfl, by decide, by decide⟩ (Nat.le_of_ble_eq_true rfl) w_s8 rfl) d_X11_buys_44.2 (c_J6_bitCount_0f7a4 κ r7 h_r7 s8) rfl (fun r11 s12 h_r11 w_s12 => ?_)
          refine q_goto d_X11_buys_47 ?_
          exact q_ireti d_X11_buys_51 rfl h_r11 w_s12
      · refine q_iload_n (x := r7) d_X11_buys_50 rfl ?_
        exact q_ireti d_X11_buys_51 rfl h_r7 w_s8
abbrev R_X11_hears : Room := { frames := 2, cells := 0, slots := 0, locals := 43 }
noncomputable def f_X11_hears (a : Nat) (x1 : Int) (s0 : Mem) : Res :=
  bd (f_X9_isTold ((a + 1) + 26) x1 s0) fun r1 s2 => if r1 = 0 then (some ((-1), s2)) else (bd (f_X9_hearing ((a + 1) + 26) x1 0 s2) fun r4 s5 => some (r4, s5))
set_option maxHeartbeats 4000000 in
set_option maxRecDepth 10000 in
theorem c_X11_hears (κ : Kp) (a : Nat) (hA : At11 κ a) (x1 : Int) (h_x1 : InR x1) (s0 : Mem) : ∀ r σ', f_X11_hears a x1 s0 = some (r, σ') → Ct κ M_X11_hears R_X11_hears [vr κ a, vi x1] s0 r σ' := by
  intro r σ' ho
  refine Ct.of (by decide) (Nat.le_of_ble_eq_true rfl) (cat_ok rfl) (fun w_s0 => ?_) ⟨rfl, rfl⟩
  refine q_ent (ls' := [some (vr κ a), some (vi x1)]) (o := f_X11_hears a x1 s0) ⟨rfl, rfl, trivial⟩ ?_ ho
  unfold f_X11_hears
  refine q_aload_n d_X11_hears_0 rfl ?_
  refine q_getR (n := 1) d_X11_hears_1 hA.1 fi_11_10 rfl (Nat.le_of_ble_eq_true rfl) ?_
  refine q_getR (n := 26) d_X11_hears_4 hA.2.1.1 fi_11_145 rfl (Nat.le_of_ble_eq_true rfl) ?_
  refine q_iload_n (x := x1) d_X11_hears_7 rfl ?_
  refine q_callZ (R' := R_X9_isTold) (runV (As := [vi x1]) (rest := []) d_X11_hears_8.1 cv_11_198 rfl hA.2.1.2.2.2.2.2.2.1.1 rfl rfl ⟨rfl, rfl, by decide, by decide⟩ (Nat.le_of_ble_eq_true rfl) w_s0 rfl) d_X11_hears_8.2 (c_X9_isTold κ ((a + 1) + 26) hA.2.1.2.2.2.2.2.2.1 x1 h_x1 s0) rfl (fun r1 s2 h_r1 w_s2 => ?_)
  refine q_if_eq d_X11_hears_11 (inr_b h_r1) (fun c3 => ?_) (fun c3 => ?_)
  · refine q_iconst d_X11_hears_29 ?_
    exact q_ireti d_X11_hears_30 rfl (inr_d rfl) w_s2
  · refine q_aload_n d_X11_hears_14 rfl ?_
    refine q_getR (n := 1) d_X11_hears_15 hA.1 fi_11_10 rfl (Nat.le_of_ble_eq_true rfl) ?_
    refine q_getR (n := 26) d_X11_hears_18 hA.2.1.1 fi_11_145 rfl (Nat.le_of_ble_eq_true rfl) ?_
    refine q_iload_n (x := x1) d_X11_hears_21 rfl ?_
    refine q_iconst d_X11_hears_22 ?_
    refine q_callI (R' := R_X9_hearing) (runV (As := [vi x1, vi 0]) (rest := []) d_X11_hears_23.1 cv_11_252 rfl hA.2.1.2.2.2.2.2.2.1.1 rfl rfl ⟨rfl, rfl, by decide, by decide⟩ (Nat.le_of_ble_eq_true rfl) w_s2 rfl) d_X11_hears_23.2 (c_X9_hearing κ ((a + 1) + 26) hA.2.1.2.2.2.2.2.2.1 x1 h_x1 0 (inr_b (Or.inl rfl)) s2) rfl (fun r4 s5 h_r4 w_s5 => ?_)
    refine q_goto d_X11_hears_26 ?_
    exact q_ireti d_X11_hears_30 rfl h_r4 w_s5
abbrev R_X11_cuts : Room := { frames := 4, cells := 0, slots := 0, locals := 90 }
noncomputable def f_X11_cuts (a : Nat) (x1 : Int) (x2 : Int) (s0 : Mem) : Res :=
  if x1 = x2 then (some ((-1), s0)) else (bd (f_X9_isTold ((a + 1) + 26) x1 s0) fun r2 s3 => if r2 = 0 then (some ((-1), s3)) else (bd (f_X9_isTold ((a + 1) + 26) x2 s3) fun r5 s6 => if r5 = 0 then (some ((-1), s6)) else (bd (f_X9_talk ((a + 1) + 26) x1 x2 s6) fun r8 s9 => if r8 = 0 then (bd (f_X9_fewestSilent ((a + 1) + 26) x1 x2 s9) fun r11 s12 => some (r11, s12)) else (some ((-1), s9)))))
set_option maxHeartbeats 4000000 in
set_option maxRecDepth 10000 in
theorem c_X11_cuts (κ : Kp) (a : Nat) (hA : At11 κ a) (x1 : Int) (h_x1 : InR x1) (x2 : Int) (h_x2 : InR x2) (s0 : Mem) : ∀ r σ', f_X11_cuts a x1 x2 s0 = some (r, σ') → Ct κ M_X11_cuts R_X11_cuts [vr κ a, vi x1, vi x2] s0 r σ' := by
  intro r σ' ho
  refine Ct.of (by decide) (Nat.le_of_ble_eq_true rfl) (cat_ok rfl) (fun w_s0 => ?_) ⟨rfl, rfl⟩
  refine q_ent (ls' := [some (vr κ a), some (vi x1), some (vi x2)]) (o := f_X11_cuts a x1 x2 s0) ⟨rfl, rfl, rfl, trivial⟩ ?_ ho
  unfold f_X11_cuts
  refine q_iload_n (x := x1) d_X11_cuts_0 rfl ?_
  refine q_iload_n (x := x2) d_X11_cuts_1 rfl ?_
  refine q_icmp_eq d_X11_cuts_2 h_x1 h_x2 (fun c1 => ?_) (fun c1 => ?_)
  · refine q_iconst d_X11_cuts_48 ?_
    exact q_ireti d_X11_cuts_49 rfl (inr_d rfl) w_s0
  · refine q_aload_n d_X11_cuts_5 rfl ?_
    refine q_getR (n := 1) d_X11_cuts_6 hA.1 fi_11_10 rfl (Nat.le_of_ble_eq_true rfl) ?_
    refine q_getR (n := 26) d_X11_cuts_9 hA.2.1.1 fi_11_145 rfl (Nat.le_of_ble_eq_true rfl) ?_
    refine q_iload_n (x := x1) d_X11_cuts_12 rfl ?_
    refine q_callZ (R' := R_X9_isTold) (runV (As := [vi x1]) (rest := []) d_X11_cuts_13.1 cv_11_198 rfl hA.2.1.2.2.2.2.2.2.1.1 rfl rfl ⟨rfl, rfl, by decide, by decide⟩ (Nat.le_of_ble_eq_true rfl) w_s0 rfl) d_X11_cuts_13.2 (c_X9_isTold κ ((a + 1) + 26) hA.2.1.2.2.2.2.2.2.1 x1 h_x1 s0) rfl (fun r2 s3 h_r2 w_s3 => ?_)
    refine q_if_eq d_X11_cuts_16 (inr_b h_r2) (fun c4 => ?_) (fun c4 => ?_)
    · refine q_iconst d_X11_cuts_48 ?_
      exact q_ireti d_X11_cuts_49 rfl (inr_d rfl) w_s3
    · refine q_aload_n d_X11_cuts_19 rfl ?_
      refine q_getR (n := 1) d_X11_cuts_20 hA.1 fi_11_10 rfl (Nat.le_of_ble_eq_true rfl) ?_
      refine q_getR (n := 26) d_X11_cuts_23 hA.2.1.1 fi_11_145 rfl (Nat.le_of_ble_eq_true rfl) ?_
      refine q_iload_n (x := x2) d_X11_cuts_26 rfl ?_
      refine q_callZ (R' := R_X9_isTold) (runV (As := [vi x2]) (rest := []) d_X11_cuts_27.1 cv_11_198 rfl hA.2.1.2.2.2.2.2.2.1.1 rfl rfl ⟨rfl, rfl, by decide, by decide⟩ (Nat.le_of_ble_eq_true rfl) w_s3 rfl) d_X11_cuts_27.2 (c_X9_isTold κ ((a + 1) + 26) hA.2.1.2.2.2.2.2.2.1 x2 h_x2 s3) rfl (fun r5 s6 h_r5 w_s6 => ?_)
      refine q_if_eq d_X11_cuts_30 (inr_b h_r5) (fun c7 => ?_) (fun c7 => ?_)
      · refine q_iconst d_X11_cuts_48 ?_
        exact q_ireti d_X11_cuts_49 rfl (inr_d rfl) w_s6
      · refine q_aload_n d_X11_cuts_33 rfl ?_
        refine q_getR (n := 1) d_X11_cuts_34 hA.1 fi_11_10 rfl (Nat.le_of_ble_eq_true rfl) ?_
        refine q_getR (n := 26) d_X11_cuts_37 hA.2.1.1 fi_11_145 rfl (Nat.le_of_ble_eq_true rfl) ?_
        refine q_iload_n (x := x1) d_X11_cuts_40 rfl ?_
        refine q_iload_n (x := x2) d_X11_cuts_41 rfl ?_
        refine q_callZ (R' := R_X9_talk) (runV (As := [vi x1, vi x2]) (rest := []) d_X11_cuts_42.1 cv_11_256 rfl hA.2.1.2.2.2.2.2.2.1.1 rfl rfl ⟨rfl, rfl, by decide, by decide⟩ (Nat.le_of_ble_eq_true rfl) w_s6 rfl) d_X11_cuts_42.2 (c_X9_talk κ ((a + 1) + 26) hA.2.1.2.2.2.2.2.2.1 x1 h_x1 x2 h_x2 s6) rfl (fun r8 s9 h_r8 w_s9 => ?_)
        refine q_if_eq d_X11_cuts_45 (inr_b h_r8) (fun c10 => ?_) (fun c10 => ?_)
        · refine q_aload_n d_X11_cuts_50 rfl ?_
          refine q_getR (n := 1) d_X11_cuts_51 hA.1 fi_11_10 rfl (Nat.le_of_ble_eq_true rfl) ?_
          refine q_getR (n := 26) d_X11_cuts_54 hA.2.1.1 fi_11_145 rfl (Nat.le_of_ble_eq_true rfl) ?_
          refine q_iload_n (x := x1) d_X11_cuts_57 rfl ?_
          refine q_iload_n (x := x2) d_X11_cuts_58 rfl ?_
          refine q_callI (R' := R_X9_fewestSilent) (runV (As := [vi x1, vi x2]) (rest := []) d_X11_cuts_59.1 cv_11_259 rfl hA.2.1.2.2.2.2.2.2.1.1 rfl rfl ⟨rfl, rfl, by decide, by decide⟩ (Nat.le_of_ble_eq_true rfl) w_s9 rfl) d_X11_cuts_59.2 (c_X9_fewestSilent κ ((a + 1) + 26) hA.2.1.2.2.2.2.2.2.1 x1 h_x1 x2 h_x2 s9) rfl (fun r11 s12 h_r11 w_s12 => ?_)
          exact q_ireti d_X11_cuts_62 rfl h_r11 w_s12
        · refine q_iconst d_X11_cuts_48 ?_
          exact q_ireti d_X11_cuts_49 rfl (inr_d rfl) w_s9
abbrev R_X11_count : Room := { frames := 2, cells := 0, slots := 0, locals := 45 }
noncomputable def f_X11_count (a : Nat) (x1 : Int) (x2 : Int) (s0 : Mem) : Res :=
  if x1 = (-1) then (lm (mup s0 ((a + 1) + 30) 4 0) fun s2 => some (0, s2)) else (bd (f_X0_take ((a + 1) + 30) x1 x2 s0) fun r3 s4 => some (r3, s4))
set_option maxHeartbeats 4000000 in
set_option maxRecDepth 10000 in
theorem c_X11_count (κ : Kp) (a : Nat) (hA : At11 κ a) (x1 : Int) (h_x1 : InR x1) (x2 : Int) (h_x2 : InR x2) (s0 : Mem) : ∀ r σ', f_X11_count a x1 x2 s0 = some (r, σ') → Ct κ M_X11_count R_X11_count [vr κ a, vi x1, vi x2] s0 r σ' := by
  intro r σ' ho
  refine Ct.of (by decide) (Nat.le_of_ble_eq_true rfl) (cat_ok rfl) (fun w_s0 => ?_) ⟨rfl, rfl⟩
  refine q_ent (ls' := [some (vr κ a), some (vi x1), some (vi x2)]) (o := f_X11_count a x1 x2 s0) ⟨rfl, rfl, rfl, trivial⟩ ?_ ho
  unfold f_X11_count
  refine q_iload_n (x := x1) d_X11_count_0 rfl ?_
  refine q_iconst d_X11_count_1 ?_
  refine q_icmp_ne d_X11_count_2 h_x1 (inr_d rfl) (fun c1 => ?_) (fun c1 => ?_)
  · refine q_aload_n d_X11_count_5 rfl ?_
    refine q_getR (n := 1) d_X11_count_6 hA.1 fi_11_10 rfl (Nat.le_of_ble_eq_true rfl) ?_
    refine q_getR (n := 30) d_X11_count_9 hA.2.1.1 fi_11_262 rfl (Nat.le_of_ble_eq_true rfl) ?_
    refine q_iconst d_X11_count_12 ?_
    refine q_putI (k := 4) (j := 4) d_X11_count_13 hA.2.1.2.2.2.2.2.2.2.1.1 fp_11_266 rfl rfl (inr_b (Or.inl rfl)) w_s0 (fun s2 w_s2 => ?_)
    refine q_iconst d_X11_count_16 ?_
    exact q_ireti d_X11_count_17 rfl (inr_b (Or.inl rfl)) w_s2
  · refine q_aload_n d_X11_count_18 rfl ?_
    refine q_getR (n := 1) d_X11_count_19 hA.1 fi_11_10 rfl (Nat.le_of_ble_eq_true rfl) ?_
    refine q_getR (n := 30) d_X11_count_22 hA.2.1.1 fi_11_262 rfl (Nat.le_of_ble_eq_true rfl) ?_
    refine q_iload_n (x := x1) d_X11_count_25 rfl ?_
    refine q_iload_n (x := x2) d_X11_count_26 rfl ?_
    refine q_callI (R' := R_X0_take) (runV (As := [vi x1, vi x2]) (rest := []) d_X11_count_27.1 cv_11_271 rfl hA.2.1.2.2.2.2.2.2.2.1.1 rfl rfl ⟨rfl, rfl, by decide, by decide⟩ (Nat.le_of_ble_eq_true rfl) w_s0 rfl) d_X11_count_27.2 (c_X0_take κ ((a + 1) + 30) hA.2.1.2.2.2.2.2.2.2.1 x1 h_x1 x2 h_x2 s0) rfl (fun r3 s4 h_r3 w_s4 => ?_)
    exact q_ireti d_X11_count_30 rfl h_r3 w_s4
abbrev R_X11_fits : Room := { frames := 3, cells := 0, slots := 0, locals := 80 }
noncomputable def f_X11_fits (a : Nat) (x1 : Int) (s0 : Mem) : Res :=
  if x1 = 0 then (bd (f_X0_fitting ((a + 1) + 30) s0) fun r2 s3 => some (r2, s3)) else (if x1 = 1 then (bd (f_X0_least ((a + 1) + 30) s0) fun r5 s6 => some (r5, s6)) else (if x1 = 2 then (bd (f_X0_greatest ((a + 1) + 30) s0) fun r8 s9 => some (r8, s9)) else (if x1 = 3 then (bd (f_X0_bestToAsk ((a + 1) + 30) s0) fun r11 s12 => some (r11, s12)) else (some ((-1), s0)))))
set_option maxHeartbeats 4000000 in
set_option maxRecDepth 10000 in
theorem c_X11_fits (κ : Kp) (a : Nat) (hA : At11 κ a) (x1 : Int) (h_x1 : InR x1) (s0 : Mem) : ∀ r σ', f_X11_fits a x1 s0 = some (r, σ') → Ct κ M_X11_fits R_X11_fits [vr κ a, vi x1] s0 r σ' := by
  intro r σ' ho
  refine Ct.of (by decide) (Nat.le_of_ble_eq_true rfl) (cat_ok rfl) (fun w_s0 => ?_) ⟨rfl, rfl⟩
  refine q_ent (ls' := [some (vr κ a), some (vi x1)]) (o := f_X11_fits a x1 s0) ⟨rfl, rfl, trivial⟩ ?_ ho
  unfold f_X11_fits
  refine q_iload_n (x := x1) d_X11_fits_0 rfl ?_
  refine q_ite (fun c1 => ?_) (fun c1 => ?_)
  · refine q_tswC (tgt := 32) d_X11_fits_1 h_x1 c1 (by decide) (by decide) rfl (by decide) ?_
    refine q_aload_n d_X11_fits_32 rfl ?_
    refine q_getR (n := 1) d_X11_fits_33 hA.1 fi_11_10 rfl (Nat.le_of_ble_eq_true rfl) ?_
    refine q_getR (n := 30) d_X11_fits_36 hA.2.1.1 fi_11_262 rfl (Nat.le_of_ble_eq_true rfl) ?_
    refine q_callI (R' := R_X0_fitting) (runV (As := []) (rest := []) d_X11_fits_39.1 cv_11_273 rfl hA.2.1.2.2.2.2.2.2.2.1.1 rfl rfl ⟨rfl, rfl, by decide, by decide⟩ (Nat.le_of_ble_eq_true rfl) w_s0 rfl) d_X11_fits_39.2 (c_X0_fitting κ ((a + 1) + 30) hA.2.1.2.2.2.2.2.2.2.1 s0) rfl (fun r2 s3 h_r2 w_s3 => ?_)
    exact q_ireti d_X11_fits_42 rfl h_r2 w_s3
  refine q_ite (fun c4 => ?_) (fun c4 => ?_)
  · refine q_tswC (tgt := 43) d_X11_fits_1 h_x1 c4 (by decide) (by decide) rfl (by decide) ?_
    refine q_aload_n d_X11_fits_43 rfl ?_
    refine q_getR (n := 1) d_X11_fits_44 hA.1 fi_11_10 rfl (Nat.le_of_ble_eq_true rfl) ?_
    refine q_getR (n := 30) d_X11_fits_47 hA.2.1.1 fi_11_262 rfl (Nat.le_of_ble_eq_true rfl) ?_
    refine q_callI (R' := R_X0_least) (runV (As := []) (rest := []) d_X11_fits_50.1 cv_11_276 rfl hA.2.1.2.2.2.2.2.2.2.1.1 rfl rfl ⟨rfl, rfl, by decide, by decide⟩ (Nat.le_of_ble_eq_true rfl) w_s0 rfl) d_X11_fits_50.2 (c_X0_least κ ((a + 1) + 30) hA.2.1.2.2.2.2.2.2.2.1 s0) rfl (fun r5 s6 h_r5 w_s6 => ?_)
    exact q_ireti d_X11_fits_53 rfl h_r5 w_s6
  refine q_ite (fun c7 => ?_) (fun c7 => ?_)
  · refine q_tswC (tgt := 54) d_X11_fits_1 h_x1 c7 (by decide) (by decide) rfl (by decide) ?_
    refine q_aload_n d_X11_fits_54 rfl ?_
    refine q_getR (n := 1) d_X11_fits_55 hA.1 fi_11_10 rfl (Nat.le_of_ble_eq_true rfl) ?_
    refine q_getR (n := 30) d_X11_fits_58 hA.2.1.1 fi_11_262 rfl (Nat.le_of_ble_eq_true rfl) ?_
    refine q_callI (R' := R_X0_greatest) (runV (As := []) (rest := []) d_X11_fits_61.1 cv_11_279 rfl hA.2.1.2.2.2.2.2.2.2.1.1 rfl rfl ⟨rfl, rfl, by decide, by decide⟩ (Nat.le_of_ble_eq_true rfl) w_s0 rfl) d_X11_fits_61.2 (c_X0_greatest κ ((a + 1) + 30) hA.2.1.2.2.2.2.2.2.2.1 s0) rfl (fun r8 s9 h_r8 w_s9 => ?_)
    exact q_ireti d_X11_fits_64 rfl h_r8 w_s9
  refine q_ite (fun c10 => ?_) (fun c10 => ?_)
  · refine q_tswC (tgt := 65) d_X11_fits_1 h_x1 c10 (by decide) (by decide) rfl (by decide) ?_
    refine q_aload_n d_X11_fits_65 rfl ?_
    refine q_getR (n := 1) d_X11_fits_66 hA.1 fi_11_10 rfl (Nat.le_of_ble_eq_true rfl) ?_
    refine q_getR (n := 30) d_X11_fits_69 hA.2.1.1 fi_11_262 rfl (Nat.le_of_ble_eq_true rfl) ?_
    refine q_callI (R' := R_X0_bestToAsk) (runV (As := []) (rest := []) d_X11_fits_72.1 cv_11_282 rfl hA.2.1.2.2.2.2.2.2.2.1.1 rfl rfl ⟨rfl, rfl, by decide, by decide⟩ (Nat.le_of_ble_eq_true rfl) w_s0 rfl) d_X11_fits_72.2 (c_X0_bestToAsk κ ((a + 1) + 30) hA.2.1.2.2.2.2.2.2.2.1 s0) rfl (fun r11 s12 h_r11 w_s12 => ?_)
    exact q_ireti d_X11_fits_75 rfl h_r11 w_s12
  refine q_tswD (tgt := 76) d_X11_fits_1 h_x1 (by omega) (by decide) ?_
  refine q_iconst d_X11_fits_76 ?_
  exact q_ireti d_X11_fits_77 rfl (inr_d rfl) w_s0
abbrev R_X11_bank : Room := { frames := 1, cells := 0, slots := 0, locals := 22 }
noncomputable def f_X11_bank (a : Nat) (x1 : Int) (x2 : Int) (s0 : Mem) : Res :=
  bd (f_X11_within x1 0 3 s0) fun r1 s2 => if r1 = 0 then (some (0, s2)) else (bd (f_X11_within x2 0 99 s2) fun r4 s5 => if r4 = 0 then (some (0, s5)) else (gd ((0 : Int) ≤ x1 ∧ x1 < 4) (lm (mup s5 (((a + 1) + 35) + 1) x1 x2) fun s8 => some (1, s8))))
set_option maxHeartbeats 4000000 in
set_option maxRecDepth 10000 in
theorem c_X11_bank (κ : Kp) (a : Nat) (hA : At11 κ a) (x1 : Int) (h_x1 : InR x1) (x2 : Int) (h_x2 : InR x2) (s0 : Mem) : ∀ r σ', f_X11_bank a x1 x2 s0 = some (r, σ') → Ct κ M_X11_bank R_X11_bank [vr κ a, vi x1, vi x2] s0 r σ' := by
  intro r σ' ho
  refine Ct.of (by decide) (Nat.le_of_ble_eq_true rfl) (cat_ok rfl) (fun w_s0 => ?_) ⟨rfl, rfl⟩
  refine q_ent (ls' := [some (vr κ a), some (vi x1), some (vi x2)]) (o := f_X11_bank a x1 x2 s0) ⟨rfl, rfl, rfl, trivial⟩ ?_ ho
  unfold f_X11_bank
  refine q_iload_n (x := x1) d_X11_bank_0 rfl ?_
  refine q_iconst d_X11_bank_1 ?_
  refine q_iconst d_X11_bank_2 ?_
  refine q_callZ (R' := R_X11_within) (runS (As := [vi x1, vi 0, vi 3]) (rest := []) d_X11_bank_3.1 cv_11_57 rfl ⟨rfl, rfl, by decide, by decide⟩ (Nat.le_of_ble_eq_true rfl) w_s0 rfl) d_X11_bank_3.2 (c_X11_within κ x1 h_x1 0 (inr_b (Or.inl rfl)) 3 (inr_d rfl) s0) rfl (fun r1 s2 h_r1 w_s2 => ?_)
  refine q_if_eq d_X11_bank_6 (inr_b h_r1) (fun c3 => ?_) (fun c3 => ?_)
  · refine q_iconst d_X11_bank_19 ?_
    exact q_iretz d_X11_bank_20 rfl (Or.inl rfl) w_s2
  · refine q_iload_n (x := x2) d_X11_bank_9 rfl ?_
    refine q_iconst d_X11_bank_10 ?_
    refine q_bipush d_X11_bank_11 rfl ?_
    refine q_callZ (R' := R_X11_within) (runS (As := [vi x2, vi 0, vi 99]) (rest := []) d_X11_bank_13.1 cv_11_57 rfl ⟨rfl, rfl, by decide, by decide⟩ (Nat.le_of_ble_eq_true rfl) w_s2 rfl) d_X11_bank_13.2 (c_X11_within κ x2 h_x2 0 (inr_b (Or.inl rfl)) 99 (inr_d rfl) s2) rfl (fun r4 s5 h_r4 w_s5 => ?_)
    refine q_if_ne d_X11_bank_16 (inr_b h_r4) (fun c6 => ?_) (fun c6 => ?_)
    · refine q_iconst d_X11_bank_19 ?_
      exact q_iretz d_X11_bank_20 rfl (Or.inl rfl) w_s5
    · refine q_aload_n d_X11_bank_21 rfl ?_
      refine q_getR (n := 1) d_X11_bank_22 hA.1 fi_11_10 rfl (Nat.le_of_ble_eq_true rfl) ?_
      refine q_getR (n := 35) d_X11_bank_25 hA.2.1.1 fi_11_285 rfl (Nat.le_of_ble_eq_true rfl) ?_
      refine q_getR (n := 1) d_X11_bank_28 hA.2.1.2.2.2.2.2.2.2.2.1 fi_11_289 rfl (Nat.le_of_ble_eq_true rfl) ?_
      refine q_iload_n (x := x1) d_X11_bank_31 rfl ?_
      refine q_iload_n (x := x2) d_X11_bank_32 rfl ?_
      refine q_iastore (m := 4) d_X11_bank_33 hA.2.1.2.2.2.2.2.2.2.2.2.1 (by decide) rfl h_x2 w_s5 (fun g7 s8 w_s8 => ?_)
      refine q_iconst d_X11_bank_34 ?_
      exact q_iretz d_X11_bank_35 rfl (Or.inr rfl) w_s8
abbrev R_X11_rests : Room := { frames := 3, cells := 0, slots := 0, locals := 75 }
noncomputable def f_X11_rests (a : Nat) (x1 : Int) (s0 : Mem) : Res :=
  bd (f_X11_within x1 0 1 s0) fun r1 s2 => if r1 = 0 then (some ((-1), s2)) else (bd (f_X3_cheapest ((a + 1) + 35) s2) fun r4 s5 => if x1 = 0 then (some (r4, s5)) else (bd (f_X3_dearer ((a + 1) + 35) r4 s5) fun r7 s8 => some (r7, s8)))
set_option maxHeartbeats 4000000 in
set_option maxRecDepth 10000 in
theorem c_X11_rests (κ : Kp) (a : Nat) (hA : At11 κ a) (x1 : Int) (h_x1 : InR x1) (s0 : Mem) : ∀ r σ', f_X11_rests a x1 s0 = some (r, σ') → Ct κ M_X11_rests R_X11_rests [vr κ a, vi x1] s0 r σ' := by
  intro r σ' ho
  refine Ct.of (by decide) (Nat.le_of_ble_eq_true rfl) (cat_ok rfl) (fun w_s0 => ?_) ⟨rfl, rfl⟩
  refine q_ent (ls' := [some (vr κ a), some (vi x1), none]) (o := f_X11_rests a x1 s0) ⟨rfl, rfl, trivial⟩ ?_ ho
  unfold f_X11_rests
  refine q_iload_n (x := x1) d_X11_rests_0 rfl ?_
  refine q_iconst d_X11_rests_1 ?_
  refine q_iconst d_X11_rests_2 ?_
  refine q_callZ (R' := R_X11_within) (runS (As := [vi x1, vi 0, vi 1]) (rest := []) d_X11_rests_3.1 cv_11_57 rfl ⟨rfl, rfl, by decide, by decide⟩ (Nat.le_of_ble_eq_true rfl) w_s0 rfl) d_X11_rests_3.2 (c_X11_within κ x1 h_x1 0 (inr_b (Or.inl rfl)) 1 (inr_b (Or.inr rfl)) s0) rfl (fun r1 s2 h_r1 w_s2 => ?_)
  refine q_if_ne d_X11_rests_6 (inr_b h_r1) (fun c3 => ?_) (fun c3 => ?_)
  · refine q_iconst d_X11_rests_9 ?_
    exact q_ireti d_X11_rests_10 rfl (inr_d rfl) w_s2
  · refine q_aload_n d_X11_rests_11 rfl ?_
    refine q_getR (n := 1) d_X11_rests_12 hA.1 fi_11_10 rfl (Nat.le_of_ble_eq_true rfl) ?_
    refine q_getR (n := 35) d_X11_rests_15 hA.2.1.1 fi_11_285 rfl (Nat.le_of_ble_eq_true rfl) ?_
    refine q_callI (R' := R_X3_cheapest) (runV (As := []) (rest := []) d_X11_rests_18.1 cv_11_294 rfl hA.2.1.2.2.2.2.2.2.2.2.1 rfl rfl ⟨rfl, rfl, by decide, by decide⟩ (Nat.le_of_ble_eq_true rfl) w_s2 rfl) d_X11_rests_18.2 (c_X3_cheapest κ ((a + 1) + 35) hA.2.1.2.2.2.2.2.2.2.2 s2) rfl (fun r4 s5 h_r4 w_s5 => ?_)
    refine q_istore_n d_X11_rests_21 rfl ?_
    refine q_iload_n (x := x1) d_X11_rests_22 rfl ?_
    refine q_if_ne d_X11_rests_23 h_x1 (fun c6 => ?_) (fun c6 => ?_)
    · refine q_iload_n (x := r4) d_X11_rests_26 rfl ?_
      refine q_goto d_X11_rests_27 ?_
      exact q_ireti d_X11_rests_41 rfl h_r4 w_s5
    · refine q_aload_n d_X11_rests_30 rfl ?_
      refine q_getR (n := 1) d_X11_rests_31 hA.1 fi_11_10 rfl (Nat.le_of_ble_eq_true rfl) ?_
      refine q_getR (n := 35) d_X11_rests_34 hA.2.1.1 fi_11_285 rfl (Nat.le_of_ble_eq_true rfl) ?_
      refine q_iload_n (x := r4) d_X11_rests_37 rfl ?_
      refine q_callI (R' := R_X3_dearer) (runV (As := [vi r4]) (rest := []) d_X11_rests_38.1 cv_11_297 rfl hA.2.1.2.2.2.2.2.2.2.2.1 rfl rfl ⟨rfl, rfl, by decide, by decide⟩ (Nat.le_of_ble_eq_true rfl) w_s5 rfl) d_X11_rests_38.2 (c_X3_dearer κ ((a + 1) + 35) hA.2.1.2.2.2.2.2.2.2.2 r4 h_r4 s5) rfl (fun r7 s8 h_r7 w_s8 => ?_)
      exact q_ireti d_X11_rests_41 rfl h_r7 w_s8
abbrev R_X11_mark : Room := { frames := 2, cells := 0, slots := 0, locals := 43 }
noncomputable def f_X11_mark (a : Nat) (x1 : Int) (s0 : Mem) : Res :=
  if x1 = (-1) then (lm (mup s0 ((a + 1) + 35) 2 0) fun s2 => some (0, s2)) else (bd (f_X3_enter ((a + 1) + 35) x1 s0) fun r3 s4 => some (r3, s4))
set_option maxHeartbeats 4000000 in
set_option maxRecDepth 10000 in
theorem c_X11_mark (κ : Kp) (a : Nat) (hA : At11 κ a) (x1 : Int) (h_x1 : InR x1) (s0 : Mem) : ∀ r σ', f_X11_mark a x1 s0 = some (r, σ') → Ct κ M_X11_mark R_X11_mark [vr κ a, vi x1] s0 r σ' := by
  intro r σ' ho
  refine Ct.of (by decide) (Nat.le_of_ble_eq_true rfl) (cat_ok rfl) (fun w_s0 => ?_) ⟨rfl, rfl⟩
  refine q_ent (ls' := [some (vr κ a), some (vi x1)]) (o := f_X11_mark a x1 s0) ⟨rfl, rfl, trivial⟩ ?_ ho
  unfold f_X11_mark
  refine q_iload_n (x := x1) d_X11_mark_0 rfl ?_
  refine q_iconst d_X11_mark_1 ?_
  refine q_icmp_ne d_X11_mark_2 h_x1 (inr_d rfl) (fun c1 => ?_) (fun c1 => ?_)
  · refine q_aload_n d_X11_mark_5 rfl ?_
    refine q_getR (n := 1) d_X11_mark_6 hA.1 fi_11_10 rfl (Nat.le_of_ble_eq_true rfl) ?_
    refine q_getR (n := 35) d_X11_mark_9 hA.2.1.1 fi_11_285 rfl (Nat.le_of_ble_eq_true rfl) ?_
    refine q_iconst d_X11_mark_12 ?_
    refine q_putI (k := 2) (j := 2) d_X11_mark_13 hA.2.1.2.2.2.2.2.2.2.2.1 fp_11_300 rfl rfl (inr_b (Or.inl rfl)) w_s0 (fun s2 w_s2 => ?_)
    refine q_iconst d_X11_mark_16 ?_
    exact q_ireti d_X11_mark_17 rfl (inr_b (Or.inl rfl)) w_s2
  · refine q_aload_n d_X11_mark_18 rfl ?_
    refine q_getR (n := 1) d_X11_mark_19 hA.1 fi_11_10 rfl (Nat.le_of_ble_eq_true rfl) ?_
    refine q_getR (n := 35) d_X11_mark_22 hA.2.1.1 fi_11_285 rfl (Nat.le_of_ble_eq_true rfl) ?_
    refine q_iload_n (x := x1) d_X11_mark_25 rfl ?_
    refine q_callI (R' := R_X3_enter) (runV (As := [vi x1]) (rest := []) d_X11_mark_26.1 cv_11_303 rfl hA.2.1.2.2.2.2.2.2.2.2.1 rfl rfl ⟨rfl, rfl, by decide, by decide⟩ (Nat.le_of_ble_eq_true rfl) w_s0 rfl) d_X11_mark_26.2 (c_X3_enter κ ((a + 1) + 35) hA.2.1.2.2.2.2.2.2.2.2 x1 h_x1 s0) rfl (fun r3 s4 h_r3 w_s4 => ?_)
    exact q_ireti d_X11_mark_29 rfl h_r3 w_s4
abbrev R_X11_share : Room := { frames := 1, cells := 0, slots := 0, locals := 28 }
noncomputable def f_X11_share (a : Nat) (x1 : Int) (x2 : Int) (s0 : Mem) : Res :=
  bd (f_X11_within x1 0 9999 s0) fun r1 s2 => if r1 = 0 then (some ((-1), s2)) else (bd (f_X11_within x2 0 (wr ((s2 ((a + 1) + 35) 2) - 1)) s2) fun r4 s5 => if r4 = 0 then (some ((-1), s5)) else (bd (f_X3_part ((a + 1) + 35) x1 x2 s5) fun r7 s8 => some (r7, s8)))
set_option maxHeartbeats 4000000 in
set_option maxRecDepth 10000 in
theorem c_X11_share (κ : Kp) (a : Nat) (hA : At11 κ a) (x1 : Int) (h_x1 : InR x1) (x2 : Int) (h_x2 : InR x2) (s0 : Mem) : ∀ r σ', f_X11_share a x1 x2 s0 = some (r, σ') → Ct κ M_X11_share R_X11_share [vr κ a, vi x1, vi x2] s0 r σ' := by
  intro r σ' ho
  refine Ct.of (by decide) (Nat.le_of_ble_eq_true rfl) (cat_ok rfl) (fun w_s0 => ?_) ⟨rfl, rfl⟩
  refine q_ent (ls' := [some (vr κ a), some (vi x1), some (vi x2)]) (o := f_X11_share a x1 x2 s0) ⟨rfl, rfl, rfl, trivial⟩ ?_ ho
  unfold f_X11_share
  refine q_iload_n (x := x1) d_X11_share_0 rfl ?_
  refine q_iconst d_X11_share_1 ?_
  refine q_sipush d_X11_share_2 rfl ?_
  refine q_callZ (R' := R_X11_within) (runS (As := [vi x1, vi 0, vi 9999]) (rest := []) d_X11_share_5.1 cv_11_57 rfl ⟨rfl, rfl, by decide, by decide⟩ (Nat.le_of_ble_eq_true rfl) w_s0 rfl) d_X11_share_5.2 (c_X11_within κ x1 h_x1 0 (inr_b (Or.inl rfl)) 9999 (inr_d rfl) s0) rfl (fun r1 s2 h_r1 w_s2 => ?_)
  refine q_if_eq d_X11_share_8 (inr_b h_r1) (fun c3 => ?_) (fun c3 => ?_)
  · refine q_iconst d_X11_share_31 ?_
    exact q_ireti d_X11_share_32 rfl (inr_d rfl) w_s2
  · refine q_iload_n (x := x2) d_X11_share_11 rfl ?_
    refine q_iconst d_X11_share_12 ?_
    refine q_aload_n d_X11_share_13 rfl ?_
    refine q_getR (n := 1) d_X11_share_14 hA.1 fi_11_10 rfl (Nat.le_of_ble_eq_true rfl) ?_
    refine q_getR (n := 35) d_X11_share_17 hA.2.1.1 fi_11_285 rfl (Nat.le_of_ble_eq_true rfl) ?_
    refine q_getI (k := 2) (j := 2) d_X11_share_20 hA.2.1.2.2.2.2.2.2.2.2.1 fi_11_300 rfl rfl ?_
    refine q_iconst d_X11_share_23 ?_
    refine q_isub d_X11_share_24 ?_
    refine q_callZ (R' := R_X11_within) (runS (As := [vi x2, vi 0, vi (wr ((s2 ((a + 1) + 35) 2) - 1))]) (rest := []) d_X11_share_25.1 cv_11_57 rfl ⟨rfl, rfl, by decide, by decide⟩ (Nat.le_of_ble_eq_true rfl) w_s2 rfl) d_X11_share_25.2 (c_X11_within κ x2 h_x2 0 (inr_b (Or.inl rfl)) (wr ((s2 ((a + 1) + 35) 2) - 1)) (inr_wr _) s2) rfl (fun r4 s5 h_r4 w_s5 => ?_)
    refine q_if_ne d_X11_share_28 (inr_b h_r4) (fun c6 => ?_) (fun c6 => ?_)
    · refine q_iconst d_X11_share_31 ?_
      exact q_ireti d_X11_share_32 rfl (inr_d rfl) w_s5
    · refine q_aload_n d_X11_share_33 rfl ?_
      refine q_getR (n := 1) d_X11_share_34 hA.1 fi_11_10 rfl (Nat.le_of_ble_eq_true rfl) ?_
      refine q_getR (n := 35) d_X11_share_37 hA.2.1.1 fi_11_285 rfl (Nat.le_of_ble_eq_true rfl) ?_
      refine q_iload_n (x := x1) d_X11_share_40 rfl ?_
      refine q_iload_n (x := x2) d_X11_share_41 rfl ?_
      refine q_callI (R' := R_X3_part) (runV (As := [vi x1, vi x2]) (rest := []) d_X11_share_42.1 cv_11_306 rfl hA.2.1.2.2.2.2.2.2.2.2.1 rfl rfl ⟨rfl, rfl, by decide, by decide⟩ (Nat.le_of_ble_eq_true rfl) w_s5 rfl) d_X11_share_42.2 (c_X3_part κ ((a + 1) + 35) hA.2.1.2.2.2.2.2.2.2.2 x1 h_x1 x2 h_x2 s5) rfl (fun r7 s8 h_r7 w_s8 => ?_)
      exact q_ireti d_X11_share_45 rfl h_r7 w_s8
abbrev R_X11_game : Room := { frames := 3, cells := 0, slots := 0, locals := 70 }
noncomputable def f_X11_game (a : Nat) (x1 : Int) (s0 : Mem) : Res :=
  bd (f_X11_within x1 0 1 s0) fun r1 s2 => if r1 = 0 then (some ((-1), s2)) else (bd (f_X4_takesWell ((a + 1) + 1) x1 s2) fun r4 s5 => some (r4, s5))
set_option maxHeartbeats 4000000 in
set_option maxRecDepth 10000 in
theorem c_X11_game (κ : Kp) (a : Nat) (hA : At11 κ a) (x1 : Int) (h_x1 : InR x1) (s0 : Mem) : ∀ r σ', f_X11_game a x1 s0 = some (r, σ') → Ct κ M_X11_game R_X11_game [vr κ a, vi x1] s0 r σ' := by
  intro r σ' ho
  refine Ct.of (by decide) (Nat.le_of_ble_eq_true rfl) (cat_ok rfl) (fun w_s0 => ?_) ⟨rfl, rfl⟩
  refine q_ent (ls' := [some (vr κ a), some (vi x1)]) (o := f_X11_game a x1 s0) ⟨rfl, rfl, trivial⟩ ?_ ho
  unfold f_X11_game
  refine q_iload_n (x := x1) d_X11_game_0 rfl ?_
  refine q_iconst d_X11_game_1 ?_
  refine q_iconst d_X11_game_2 ?_
  refine q_callZ (R' := R_X11_within) (runS (As := [vi x1, vi 0, vi 1]) (rest := []) d_X11_game_3.1 cv_11_57 rfl ⟨rfl, rfl, by decide, by decide⟩ (Nat.le_of_ble_eq_true rfl) w_s0 rfl) d_X11_game_3.2 (c_X11_within κ x1 h_x1 0 (inr_b (Or.inl rfl)) 1 (inr_b (Or.inr rfl)) s0) rfl (fun r1 s2 h_r1 w_s2 => ?_)
  refine q_if_eq d_X11_game_6 (inr_b h_r1) (fun c3 => ?_) (fun c3 => ?_)
  · refine q_iconst d_X11_game_23 ?_
    exact q_ireti d_X11_game_24 rfl (inr_d rfl) w_s2
  · refine q_aload_n d_X11_game_9 rfl ?_
    refine q_getR (n := 1) d_X11_game_10 hA.1 fi_11_10 rfl (Nat.le_of_ble_eq_true rfl) ?_
    refine q_getR (n := 1) d_X11_game_13 hA.2.1.1 fi_11_44 rfl (Nat.le_of_ble_eq_true rfl) ?_
    refine q_iload_n (x := x1) d_X11_game_16 rfl ?_
    refine q_callI (R' := R_X4_takesWell) (runV (As := [vi x1]) (rest := []) d_X11_game_17.1 cv_11_309 rfl hA.2.1.2.1.1 rfl rfl ⟨rfl, rfl, by decide, by decide⟩ (Nat.le_of_ble_eq_true rfl) w_s2 rfl) d_X11_game_17.2 (c_X4_takesWell κ ((a + 1) + 1) hA.2.1.2.1 x1 h_x1 s2) rfl (fun r4 s5 h_r4 w_s5 => ?_)
    refine q_goto d_X11_game_20 ?_
    exact q_ireti d_X11_game_24 rfl h_r4 w_s5
abbrev R_X11_crowd : Room := { frames := 4, cells := 0, slots := 0, locals := 89 }
noncomputable def f_X11_crowd (a : Nat) (x1 : Int) (s0 : Mem) : Res :=
  if x1 = 0 then (bd (f_X4_fullestReach ((a + 1) + 1) s0) fun r2 s3 => some (r2, s3)) else (if x1 = 1 then (bd (f_X4_fullestReach ((a + 1) + 1) s0) fun r5 s6 => bd (f_X4_boatsAt ((a + 1) + 1) r5 s6) fun r7 s8 => some (r7, s8)) else (if x1 = 2 then (bd (f_X4_archersNear ((a + 1) + 1) s0) fun r10 s11 => some (r10, s11)) else (some ((-1), s0))))
set_option maxHeartbeats 4000000 in
set_option maxRecDepth 10000 in
theorem c_X11_crowd (κ : Kp) (a : Nat) (hA : At11 κ a) (x1 : Int) (h_x1 : InR x1) (s0 : Mem) : ∀ r σ', f_X11_crowd a x1 s0 = some (r, σ') → Ct κ M_X11_crowd R_X11_crowd [vr κ a, vi x1] s0 r σ' := by
  intro r σ' ho
  refine Ct.of (by decide) (Nat.le_of_ble_eq_true rfl) (cat_ok rfl) (fun w_s0 => ?_) ⟨rfl, rfl⟩
  refine q_ent (ls' := [some (vr κ a), some (vi x1)]) (o := f_X11_crowd a x1 s0) ⟨rfl, rfl, trivial⟩ ?_ ho
  unfold f_X11_crowd
  refine q_iload_n (x := x1) d_X11_crowd_0 rfl ?_
  refine q_ite (fun c1 => ?_) (fun c1 => ?_)
  · refine q_tswC (tgt := 28) d_X11_crowd_1 h_x1 c1 (by decide) (by decide) rfl (by decide) ?_
    refine q_aload_n d_X11_crowd_28 rfl ?_
    refine q_getR (n := 1) d_X11_crowd_29 hA.1 fi_11_10 rfl (Nat.le_of_ble_eq_true rfl) ?_
    refine q_getR (n := 1) d_X11_crowd_32 hA.2.1.1 fi_11_44 rfl (Nat.le_of_ble_eq_true rfl) ?_
    refine q_callI (R' := R_X4_fullestReach) (runV (As := []) (rest := []) d_X11_crowd_35.1 cv_11_312 rfl hA.2.1.2.1.1 rfl rfl ⟨rfl, rfl, by decide, by decide⟩ (Nat.le_of_ble_eq_true rfl) w_s0 rfl) d_X11_crowd_35.2 (c_X4_fullestReach κ ((a + 1) + 1) hA.2.1.2.1 s0) rfl (fun r2 s3 h_r2 w_s3 => ?_)
    exact q_ireti d_X11_crowd_38 rfl h_r2 w_s3
  refine q_ite (fun c4 => ?_) (fun c4 => ?_)
  · refine q_tswC (tgt := 39) d_X11_crowd_1 h_x1 c4 (by decide) (by decide) rfl (by decide) ?_
    refine q_aload_n d_X11_crowd_39 rfl ?_
    refine q_getR (n := 1) d_X11_crowd_40 hA.1 fi_11_10 rfl (Nat.le_of_ble_eq_true rfl) ?_
    refine q_getR (n := 1) d_X11_crowd_43 hA.2.1.1 fi_11_44 rfl (Nat.le_of_ble_eq_true rfl) ?_
    refine q_aload_n d_X11_crowd_46 rfl ?_
    refine q_getR (n := 1) d_X11_crowd_47 hA.1 fi_11_10 rfl (Nat.le_of_ble_eq_true rfl) ?_
    refine q_getR (n := 1) d_X11_crowd_50 hA.2.1.1 fi_11_44 rfl (Nat.le_of_ble_eq_true rfl) ?_
    refine q_callI (R' := R_X4_fullestReach) (runV (As := []) (rest := [vr κ ((a + 1) + 1)]) d_X11_crowd_53.1 cv_11_312 rfl hA.2.1.2.1.1 rfl rfl ⟨rfl, rfl, by decide, by decide⟩ (Nat.le_of_ble_eq_true rfl) w_s0 rfl) d_X11_crowd_53.2 (c_X4_fullestReach κ ((a + 1) + 1) hA.2.1.2.1 s0) rfl (fun r5 s6 h_r5 w_s6 => ?_)
    refine q_callI (R' := R_X4_boatsAt) (runV (As := [vi r5]) (rest := []) d_X11_crowd_56.1 cv_11_315 rfl hA.2.1.2.1.1 rfl rfl ⟨rfl, rfl, by decide, by decide⟩ (Nat.le_of_ble_eq_true rfl) w_s6 rfl) d_X11_crowd_56.2 (c_X4_boatsAt κ ((a + 1) + 1) hA.2.1.2.1 r5 h_r5 s6) rfl (fun r7 s8 h_r7 w_s8 => ?_)
    exact q_ireti d_X11_crowd_59 rfl h_r7 w_s8
  refine q_ite (fun c9 => ?_) (fun c9 => ?_)
  · refine q_tswC (tgt := 60) d_X11_crowd_1 h_x1 c9 (by decide) (by decide) rfl (by decide) ?_
    refine q_aload_n d_X11_crowd_60 rfl ?_
    refine q_getR (n := 1) d_X11_crowd_61 hA.1 fi_11_10 rfl (Nat.le_of_ble_eq_true rfl) ?_
    refine q_getR (n := 1) d_X11_crowd_64 hA.2.1.1 fi_11_44 rfl (Nat.le_of_ble_eq_true rfl) ?_
    refine q_callI (R' := R_X4_archersNear) (runV (As := []) (rest := []) d_X11_crowd_67.1 cv_11_318 rfl hA.2.1.2.1.1 rfl rfl ⟨rfl, rfl, by decide, by decide⟩ (Nat.le_of_ble_eq_true rfl) w_s0 rfl) d_X11_crowd_67.2 (c_X4_archersNear κ ((a + 1) + 1) hA.2.1.2.1 s0) rfl (fun r10 s11 h_r10 w_s11 => ?_)
    exact q_ireti d_X11_crowd_70 rfl h_r10 w_s11
  refine q_tswD (tgt := 71) d_X11_crowd_1 h_x1 (by omega) (by decide) ?_
  refine q_iconst d_X11_crowd_71 ?_
  exact q_ireti d_X11_crowd_72 rfl (inr_d rfl) w_s0
abbrev R_X11_heavy : Room := { frames := 5, cells := 0, slots := 0, locals := 123 }
noncomputable def f_X11_heavy (a : Nat) (x1 : Int) (s0 : Mem) : Res :=
  bd (f_X10_heaviest (a + 1) s0) fun r1 s2 => if r1 = (-1) then (some ((-1000), s2)) else (bd (f_X11_within x1 0 1 s2) fun r4 s5 => if r4 = 0 then (some ((-1000), s5)) else (if x1 = 0 then (some (r1, s5)) else (bd (f_X10_lacks (a + 1) r1 s5) fun r8 s9 => some (r8, s9))))
set_option maxHeartbeats 4000000 in
set_option maxRecDepth 10000 in
theorem c_X11_heavy (κ : Kp) (a : Nat) (hA : At11 κ a) (x1 : Int) (h_x1 : InR x1) (s0 : Mem) : ∀ r σ', f_X11_heavy a x1 s0 = some (r, σ') → Ct κ M_X11_heavy R_X11_heavy [vr κ a, vi x1] s0 r σ' := by
  intro r σ' ho
  refine Ct.of (by decide) (Nat.le_of_ble_eq_true rfl) (cat_ok rfl) (fun w_s0 => ?_) ⟨rfl, rfl⟩
  refine q_ent (ls' := [some (vr κ a), some (vi x1), none]) (o := f_X11_heavy a x1 s0) ⟨rfl, rfl, trivial⟩ ?_ ho
  unfold f_X11_heavy
  refine q_aload_n d_X11_heavy_0 rfl ?_
  refine q_getR (n := 1) d_X11_heavy_1 hA.1 fi_11_10 rfl (Nat.le_of_ble_eq_true rfl) ?_
  refine q_callI (R' := R_X10_heaviest) (runV (As := []) (rest := []) d_X11_heavy_4.1 cv_11_321 rfl hA.2.1.1 rfl rfl ⟨rfl, rfl, by decide, by decide⟩ (Nat.le_of_ble_eq_true rfl) w_s0 rfl) d_X11_heavy_4.2 (c_X10_heaviest κ (a + 1) hA.2.1 s0) rfl (fun r1 s2 h_r1 w_s2 => ?_)
  refine q_istore_n d_X11_heavy_7 rfl ?_
  refine q_iload_n (x := r1) d_X11_heavy_8 rfl ?_
  refine q_iconst d_X11_heavy_9 ?_
  refine q_icmp_eq d_X11_heavy_10 h_r1 (inr_d rfl) (fun c3 => ?_) (fun c3 => ?_)
  · refine q_sipush d_X11_heavy_22 rfl ?_
    exact q_ireti d_X11_heavy_25 rfl (inr_d rfl) w_s2
  · refine q_iload_n (x := x1) d_X11_heavy_13 rfl ?_
    refine q_iconst d_X11_heavy_14 ?_
    refine q_iconst d_X11_heavy_15 ?_
    refine q_callZ (R' := R_X11_within) (runS (As := [vi x1, vi 0, vi 1]) (rest := []) d_X11_heavy_16.1 cv_11_57 rfl ⟨rfl, rfl, by decide, by decide⟩ (Nat.le_of_ble_eq_true rfl) w_s2 rfl) d_X11_heavy_16.2 (c_X11_within κ x1 h_x1 0 (inr_b (Or.inl rfl)) 1 (inr_b (Or.inr rfl)) s2) rfl (fun r4 s5 h_r4 w_s5 => ?_)
    refine q_if_ne d_X11_heavy_19 (inr_b h_r4) (fun c6 => ?_) (fun c6 => ?_)
    · refine q_sipush d_X11_heavy_22 rfl ?_
      exact q_ireti d_X11_heavy_25 rfl (inr_d rfl) w_s5
    · refine q_iload_n (x := x1) d_X11_heavy_26 rfl ?_
      refine q_if_ne d_X11_heavy_27 h_x1 (fun c7 => ?_) (fun c7 => ?_)
      · refine q_iload_n (x := r1) d_X11_heavy_30 rfl ?_
        refine q_goto d_X11_heavy_31 ?_
        exact q_ireti d_X11_heavy_42 rfl h_r1 w_s5
      · refine q_aload_n d_X11_heavy_34 rfl ?_
        refine q_getR (n := 1) d_X11_heavy_35 hA.1 fi_11_10 rfl (Nat.le_of_ble_eq_true rfl) ?_
        refine q_iload_n (x := r1) d_X11_heavy_38 rfl ?_
        refine q_callI (R' := R_X10_lacks) (runV (As := [vi r1]) (rest := []) d_X11_heavy_39.1 cv_11_324 rfl hA.2.1.1 rfl rfl ⟨rfl, rfl, by decide, by decide⟩ (Nat.le_of_ble_eq_true rfl) w_s5 rfl) d_X11_heavy_39.2 (c_X10_lacks κ (a + 1) hA.2.1 r1 h_r1 s5) rfl (fun r8 s9 h_r8 w_s9 => ?_)
        exact q_ireti d_X11_heavy_42 rfl h_r8 w_s9
abbrev R_X11_undo : Room := { frames := 4, cells := 0, slots := 0, locals := 123 }
noncomputable def f_X11_undo (a : Nat) (s0 : Mem) : Res :=
  bd (f_X5_bringBack (a + 77) ((a + 1) + 1) s0) fun r1 s2 => some (r1, s2)
set_option maxHeartbeats 4000000 in
set_option maxRecDepth 10000 in
theorem c_X11_undo (κ : Kp) (a : Nat) (hA : At11 κ a) (s0 : Mem) : ∀ r σ', f_X11_undo a s0 = some (r, σ') → Ct κ M_X11_undo R_X11_undo [vr κ a] s0 r σ' := by
  intro r σ' ho
  refine Ct.of (by decide) (Nat.le_of_ble_eq_true rfl) (cat_ok rfl) (fun w_s0 => ?_) ⟨rfl, rfl⟩
  refine q_ent (ls' := [some (vr κ a)]) (o := f_X11_undo a s0) ⟨rfl, trivial⟩ ?_ ho
  unfold f_X11_undo
  refine q_aload_n d_X11_undo_0 rfl ?_
  refine q_getR (n := 77) d_X11_undo_1 hA.1 fi_11_22 rfl (Nat.le_of_ble_eq_true rfl) ?_
  refine q_aload_n d_X11_undo_4 rfl ?_
  refine q_getR (n := 1) d_X11_undo_5 hA.1 fi_11_10 rfl (Nat.le_of_ble_eq_true rfl) ?_
  refine q_getR (n := 1) d_X11_undo_8 hA.2.1.1 fi_11_44 rfl (Nat.le_of_ble_eq_true rfl) ?_
  refine q_callZ (R' := R_X5_bringBack) (runV (As := [vr κ ((a + 1) + 1)]) (rest := []) d_X11_undo_11.1 cv_11_327 rfl hA.2.2.2.1.1 rfl rfl ⟨rfl, rfl, by decide, by decide⟩ (Nat.le_of_ble_eq_true rfl) w_s0 rfl) d_X11_undo_11.2 (c_X5_bringBack κ (a + 77) hA.2.2.2.1 ((a + 1) + 1) hA.2.1.2.1 s0) rfl (fun r1 s2 h_r1 w_s2 => ?_)
  exact q_iretz d_X11_undo_14 rfl h_r1 w_s2
abbrev R_X11_image : Room := { frames := 4, cells := 0, slots := 0, locals := 123 }
noncomputable def f_X11_image (a : Nat) (x1 : Int) (s0 : Mem) : Res :=
  if x1 = 0 then (if s0 a 5 = 0 then (some (0, s0)) else (bd (f_X10_become (a + 1) (a + 39) s0) fun r3 s4 => bd (f_X5_forget (a + 77) s4) fun r5 s6 => some (1, s6))) else (bd (f_X10_become (a + 39) (a + 1) s0) fun r7 s8 => lm (mup s8 a 5 1) fun s9 => some (1, s9))
set_option maxHeartbeats 4000000 in
set_option maxRecDepth 10000 in
theorem c_X11_image (κ : Kp) (a : Nat) (hA : At11 κ a) (x1 : Int) (h_x1 : InR x1) (s0 : Mem) : ∀ r σ', f_X11_image a x1 s0 = some (r, σ') → Ct κ M_X11_image R_X11_image [vr κ a, vi x1] s0 r σ' := by
  intro r σ' ho
  refine Ct.of (by decide) (Nat.le_of_ble_eq_true rfl) (cat_ok rfl) (fun w_s0 => ?_) ⟨rfl, rfl⟩
  refine q_ent (ls' := [some (vr κ a), some (vi x1)]) (o := f_X11_image a x1 s0) ⟨rfl, rfl, trivial⟩ ?_ ho
  unfold f_X11_image
  refine q_iload_n (x := x1) d_X11_image_0 rfl ?_
  refine q_if_eq d_X11_image_1 h_x1 (fun c1 => ?_) (fun c1 => ?_)
  · refine q_aload_n d_X11_image_22 rfl ?_
    refine q_getI (k := 5) (j := 5) d_X11_image_23 hA.1 fi_11_40 rfl rfl ?_
    refine q_if_ne d_X11_image_26 (w_s0 _ _) (fun c2 => ?_) (fun c2 => ?_)
    · refine q_iconst d_X11_image_29 ?_
      exact q_iretz d_X11_image_30 rfl (Or.inl rfl) w_s0
    · refine q_aload_n d_X11_image_31 rfl ?_
      refine q_getR (n := 1) d_X11_image_32 hA.1 fi_11_10 rfl (Nat.le_of_ble_eq_true rfl) ?_
      refine q_aload_n d_X11_image_35 rfl ?_
      refine q_getR (n := 39) d_X11_image_36 hA.1 fi_11_16 rfl (Nat.le_of_ble_eq_true rfl) ?_
      refine q_callV (R' := R_X10_become) (runV (As := [vr κ (a + 39)]) (rest := []) d_X11_image_39.1 cv_11_331 rfl hA.2.1.1 rfl rfl ⟨rfl, rfl, by decide, by decide⟩ (Nat.le_of_ble_eq_true rfl) w_s0 rfl) d_X11_image_39.2 (c_X10_become κ (a + 1) hA.2.1 (a + 39) hA.2.2.1 s0) rfl (fun r3 s4 w_s4 => ?_)
      refine q_aload_n d_X11_image_42 rfl ?_
      refine q_getR (n := 77) d_X11_image_43 hA.1 fi_11_22 rfl (Nat.le_of_ble_eq_true rfl) ?_
      refine q_callV (R' := R_X5_forget) (runV (As := []) (rest := []) d_X11_image_46.1 cv_11_54 rfl hA.2.2.2.1.1 rfl rfl ⟨rfl, rfl, by decide, by decide⟩ (Nat.le_of_ble_eq_true rfl) w_s4 rfl) d_X11_image_46.2 (c_X5_forget κ (a + 77) hA.2.2.2.1 s4) rfl (fun r5 s6 w_s6 => ?_)
      refine q_iconst d_X11_image_49 ?_
      exact q_iretz d_X11_image_50 rfl (Or.inr rfl) w_s6
  · refine q_aload_n d_X11_image_4 rfl ?_
    refine q_getR (n := 39) d_X11_image_5 hA.1 fi_11_16 rfl (Nat.le_of_ble_eq_true rfl) ?_
    refine q_aload_n d_X11_image_8 rfl ?_
    refine q_getR (n := 1) d_X11_image_9 hA.1 fi_11_10 rfl (Nat.le_of_ble_eq_true rfl) ?_
    refine q_callV (R' := R_X10_become) (runV (As := [vr κ (a + 1)]) (rest := []) d_X11_image_12.1 cv_11_331 rfl hA.2.2.1.1 rfl rfl ⟨rfl, rfl, by decide, by decide⟩ (Nat.le_of_ble_eq_true rfl) w_s0 rfl) d_X11_image_12.2 (c_X10_become κ (a + 39) hA.2.2.1 (a + 1) hA.2.1 s0) rfl (fun r7 s8 w_s8 => ?_)
    refine q_aload_n d_X11_image_15 rfl ?_
    refine q_iconst d_X11_image_16 ?_
    refine q_putZ (k := 5) (j := 5) d_X11_image_17 hA.1 fp_11_40 rfl rfl (Or.inr rfl) w_s8 (fun s9 w_s9 => ?_)
    refine q_iconst d_X11_image_20 ?_
    exact q_iretz d_X11_image_21 rfl (Or.inr rfl) w_s9
abbrev R_X11_look : Room := { frames := 3, cells := 0, slots := 0, locals := 64 }
noncomputable def f_X11_look (a : Nat) (x1 : Int) (s0 : Mem) : Res :=
  if x1 = 0 then (some (s0 ((a + 1) + 1) 8, s0)) else (if x1 = 1 then (some (s0 ((a + 1) + 1) 14, s0)) else (if x1 = 2 then (some (s0 ((a + 1) + 1) 11, s0)) else (if x1 = 3 then (some (s0 ((a + 1) + 1) 12, s0)) else (if x1 = 4 then (some (s0 ((a + 1) + 1) 10, s0)) else (if x1 = 5 then (some (s0 ((a + 1) + 1) 13, s0)) else (if x1 = 6 then (some (s0 ((a + 1) + 1) 15, s0)) else (if x1 = 7 then (bd (f_X4_allLost ((a + 1) + 1) s0) fun r9 s10 => some (r9, s10)) else (if x1 = 8 then (some (s0 ((a + 1) + 1) 16, s0)) else (if x1 = 9 then (some (s0 ((a + 1) + 1) 9, s0)) else (if x1 = 10 then (some (s0 ((a + 1) + 11) 4, s0)) else (if x1 = 11 then (some (s0 ((a + 1) + 18) 2, s0)) else (if x1 = 12 then (some (s0 ((a + 1) + 21) 4, s0)) else (if x1 = 13 then (some (s0 ((a + 1) + 26) 3, s0)) else (if x1 = 14 then (some (s0 ((a + 1) + 30) 4, s0)) else (if x1 = 15 then (some (s0 ((a + 1) + 35) 2, s0)) else (if x1 = 16 then (some (s0 (a + 77) 2, s0)) else (some ((-1), s0))))))))))))))))))
set_option maxHeartbeats 4000000 in
set_option maxRecDepth 10000 in
theorem c_X11_look (κ : Kp) (a : Nat) (hA : At11 κ a) (x1 : Int) (h_x1 : InR x1) (s0 : Mem) : ∀ r σ', f_X11_look a x1 s0 = some (r, σ') → Ct κ M_X11_look R_X11_look [vr κ a, vi x1] s0 r σ' := by
  intro r σ' ho
  refine Ct.of (by decide) (Nat.le_of_ble_eq_true rfl) (cat_ok rfl) (fun w_s0 => ?_) ⟨rfl, rfl⟩
  refine q_ent (ls' := [some (vr κ a), some (vi x1), none]) (o := f_X11_look a x1 s0) ⟨rfl, rfl, trivial⟩ ?_ ho
  unfold f_X11_look
  refine q_aload_n d_X11_look_0 rfl ?_
  refine q_getR (n := 1) d_X11_look_1 hA.1 fi_11_10 rfl (Nat.le_of_ble_eq_true rfl) ?_
  refine q_getR (n := 1) d_X11_look_4 hA.2.1.1 fi_11_44 rfl (Nat.le_of_ble_eq_true rfl) ?_
  refine q_astore_n d_X11_look_7 rfl ?_
  refine q_iload_n (x := x1) d_X11_look_8 rfl ?_
  refine q_ite (fun c1 => ?_) (fun c1 => ?_)
  · refine q_tswC (tgt := 92) d_X11_look_9 h_x1 c1 (by decide) (by decide) rfl (by decide) ?_
    refine q_aload_n d_X11_look_92 rfl ?_
    refine q_getI (k := 8) (j := 8) d_X11_look_93 hA.2.1.2.1.1 fi_11_61 rfl rfl ?_
    exact q_ireti d_X11_look_96 rfl (w_s0 _ _) w_s0
  refine q_ite (fun c2 => ?_) (fun c2 => ?_)
  · refine q_tswC (tgt := 97) d_X11_look_9 h_x1 c2 (by decide) (by decide) rfl (by decide) ?_
    refine q_aload_n d_X11_look_97 rfl ?_
    refine q_getI (k := 14) (j := 14) d_X11_look_98 hA.2.1.2.1.1 fi_11_91 rfl rfl ?_
    exact q_ireti d_X11_look_101 rfl (w_s0 _ _) w_s0
  refine q_ite (fun c3 => ?_) (fun c3 => ?_)
  · refine q_tswC (tgt := 102) d_X11_look_9 h_x1 c3 (by decide) (by decide) rfl (by decide) ?_
    refine q_aload_n d_X11_look_102 rfl ?_
    refine q_getI (k := 11) (j := 11) d_X11_look_103 hA.2.1.2.1.1 fi_11_238 rfl rfl ?_
    exact q_ireti d_X11_look_106 rfl (w_s0 _ _) w_s0
  refine q_ite (fun c4 => ?_) (fun c4 => ?_)
  · refine q_tswC (tgt := 107) d_X11_look_9 h_x1 c4 (by decide) (by decide) rfl (by decide) ?_
    refine q_aload_n d_X11_look_107 rfl ?_
    refine q_getI (k := 12) (j := 12) d_X11_look_108 hA.2.1.2.1.1 fi_11_334 rfl rfl ?_
    exact q_ireti d_X11_look_111 rfl (w_s0 _ _) w_s0
  refine q_ite (fun c5 => ?_) (fun c5 => ?_)
  · refine q_tswC (tgt := 112) d_X11_look_9 h_x1 c5 (by decide) (by decide) rfl (by decide) ?_
    refine q_aload_n d_X11_look_112 rfl ?_
    refine q_getI (k := 10) (j := 10) d_X11_look_113 hA.2.1.2.1.1 fi_11_221 rfl rfl ?_
    exact q_ireti d_X11_look_116 rfl (w_s0 _ _) w_s0
  refine q_ite (fun c6 => ?_) (fun c6 => ?_)
  · refine q_tswC (tgt := 117) d_X11_look_9 h_x1 c6 (by decide) (by decide) rfl (by decide) ?_
    refine q_aload_n d_X11_look_117 rfl ?_
    refine q_getI (k := 13) (j := 13) d_X11_look_118 hA.2.1.2.1.1 fi_11_337 rfl rfl ?_
    exact q_ireti d_X11_look_121 rfl (w_s0 _ _) w_s0
  refine q_ite (fun c7 => ?_) (fun c7 => ?_)
  · refine q_tswC (tgt := 122) d_X11_look_9 h_x1 c7 (by decide) (by decide) rfl (by decide) ?_
    refine q_aload_n d_X11_look_122 rfl ?_
    refine q_getI (k := 15) (j := 15) d_X11_look_123 hA.2.1.2.1.1 fi_11_340 rfl rfl ?_
    exact q_ireti d_X11_look_126 rfl (w_s0 _ _) w_s0
  refine q_ite (fun c8 => ?_) (fun c8 => ?_)
  · refine q_tswC (tgt := 127) d_X11_look_9 h_x1 c8 (by decide) (by decide) rfl (by decide) ?_
    refine q_aload_n d_X11_look_127 rfl ?_
    refine q_callI (R' := R_X4_allLost) (runV (As := []) (rest := []) d_X11_look_128.1 cv_11_343 rfl hA.2.1.2.1.1 rfl rfl ⟨rfl, rfl, by decide, by decide⟩ (Nat.le_of_ble_eq_true rfl) w_s0 rfl) d_X11_look_128.2 (c_X4_allLost κ ((a + 1) + 1) hA.2.1.2.1 s0) rfl (fun r9 s10 h_r9 w_s10 => ?_)
    exact q_ireti d_X11_look_131 rfl h_r9 w_s10
  refine q_ite (fun c11 => ?_) (fun c11 => ?_)
  · refine q_tswC (tgt := 132) d_X11_look_9 h_x1 c11 (by decide) (by decide) rfl (by decide) ?_
    refine q_aload_n d_X11_look_132 rfl ?_
    refine q_getI (k := 16) (j := 16) d_X11_look_133 hA.2.1.2.1.1 fi_11_205 rfl rfl ?_
    exact q_ireti d_X11_look_136 rfl (w_s0 _ _) w_s0
  refine q_ite (fun c12 => ?_) (fun c12 => ?_)
  · refine q_tswC (tgt := 137) d_X11_look_9 h_x1 c12 (by decide) (by decide) rfl (by decide) ?_
    refine q_aload_n d_X11_look_137 rfl ?_
    refine q_getI (k := 9) (j := 9) d_X11_look_138 hA.2.1.2.1.1 fi_11_48 rfl rfl ?_
    exact q_ireti d_X11_look_141 rfl (w_s0 _ _) w_s0
  refine q_ite (fun c13 => ?_) (fun c13 => ?_)
  · refine q_tswC (tgt := 142) d_X11_look_9 h_x1 c13 (by decide) (by decide) rfl (by decide) ?_
    refine q_aload_n d_X11_look_142 rfl ?_
    refine q_getR (n := 1) d_X11_look_143 hA.1 fi_11_10 rfl (Nat.le_of_ble_eq_true rfl) ?_
    refine q_getR (n := 11) d_X11_look_146 hA.2.1.1 fi_11_109 rfl (Nat.le_of_ble_eq_true rfl) ?_
    refine q_getI (k := 4) (j := 4) d_X11_look_149 hA.2.1.2.2.2.1.1 fi_11_120 rfl rfl ?_
    exact q_ireti d_X11_look_152 rfl (w_s0 _ _) w_s0
  refine q_ite (fun c14 => ?_) (fun c14 => ?_)
  · refine q_tswC (tgt := 153) d_X11_look_9 h_x1 c14 (by decide) (by decide) rfl (by decide) ?_
    refine q_aload_n d_X11_look_153 rfl ?_
    refine q_getR (n := 1) d_X11_look_154 hA.1 fi_11_10 rfl (Nat.le_of_ble_eq_true rfl) ?_
    refine q_getR (n := 18) d_X11_look_157 hA.2.1.1 fi_11_123 rfl (Nat.le_of_ble_eq_true rfl) ?_
    refine q_getI (k := 2) (j := 2) d_X11_look_160 hA.2.1.2.2.2.2.1.1 fi_11_133 rfl rfl ?_
    exact q_ireti d_X11_look_163 rfl (w_s0 _ _) w_s0
  refine q_ite (fun c15 => ?_) (fun c15 => ?_)
  · refine q_tswC (tgt := 164) d_X11_look_9 h_x1 c15 (by decide) (by decide) rfl (by decide) ?_
    refine q_aload_n d_X11_look_164 rfl ?_
    refine q_getR (n := 1) d_X11_look_165 hA.1 fi_11_10 rfl (Nat.le_of_ble_eq_true rfl) ?_
    refine q_getR (n := 21) d_X11_look_168 hA.2.1.1 fi_11_134 rfl (Nat.le_of_ble_eq_true rfl) ?_
    refine q_getI (k := 4) (j := 4) d_X11_look_171 hA.2.1.2.2.2.2.2.1.1 fi_11_144 rfl rfl ?_
    exact q_ireti d_X11_look_174 rfl (w_s0 _ _) w_s0
  refine q_ite (fun c16 => ?_) (fun c16 => ?_)
  · refine q_tswC (tgt := 175) d_X11_look_9 h_x1 c16 (by decide) (by decide) rfl (by decide) ?_
    refine q_aload_n d_X11_look_175 rfl ?_
    refine q_getR (n := 1) d_X11_look_176 hA.1 fi_11_10 rfl (Nat.le_of_ble_eq_true rfl) ?_
    refine q_getR (n := 26) d_X11_look_179 hA.2.1.1 fi_11_145 rfl (Nat.le_of_ble_eq_true rfl) ?_
    refine q_getI (k := 3) (j := 3) d_X11_look_182 hA.2.1.2.2.2.2.2.2.1.1 fi_11_155 rfl rfl ?_
    exact q_ireti d_X11_look_185 rfl (w_s0 _ _) w_s0
  refine q_ite (fun c17 => ?_) (fun c17 => ?_)
  · refine q_tswC (tgt := 186) d_X11_look_9 h_x1 c17 (by decide) (by decide) rfl (by decide) ?_
    refine q_aload_n d_X11_look_186 rfl ?_
    refine q_getR (n := 1) d_X11_look_187 hA.1 fi_11_10 rfl (Nat.le_of_ble_eq_true rfl) ?_
    refine q_getR (n := 30) d_X11_look_190 hA.2.1.1 fi_11_262 rfl (Nat.le_of_ble_eq_true rfl) ?_
    refine q_getI (k := 4) (j := 4) d_X11_look_193 hA.2.1.2.2.2.2.2.2.2.1.1 fi_11_266 rfl rfl ?_
    exact q_ireti d_X11_look_196 rfl (w_s0 _ _) w_s0
  refine q_ite (fun c18 => ?_) (fun c18 => ?_)
  · refine q_tswC (tgt := 197) d_X11_look_9 h_x1 c18 (by decide) (by decide) rfl (by decide) ?_
    refine q_aload_n d_X11_look_197 rfl ?_
    refine q_getR (n := 1) d_X11_look_198 hA.1 fi_11_10 rfl (Nat.le_of_ble_eq_true rfl) ?_
    refine q_getR (n := 35) d_X11_look_201 hA.2.1.1 fi_11_285 rfl (Nat.le_of_ble_eq_true rfl) ?_
    refine q_getI (k := 2) (j := 2) d_X11_look_204 hA.2.1.2.2.2.2.2.2.2.2.1 fi_11_300 rfl rfl ?_
    exact q_ireti d_X11_look_207 rfl (w_s0 _ _) w_s0
  refine q_ite (fun c19 => ?_) (fun c19 => ?_)
  · refine q_tswC (tgt := 208) d_X11_look_9 h_x1 c19 (by decide) (by decide) rfl (by decide) ?_
    refine q_aload_n d_X11_look_208 rfl ?_
    refine q_getR (n := 77) d_X11_look_209 hA.1 fi_11_22 rfl (Nat.le_of_ble_eq_true rfl) ?_
    refine q_getI (k := 2) (j := 2) d_X11_look_212 hA.2.2.2.1.1 fi_11_346 rfl rfl ?_
    exact q_ireti d_X11_look_215 rfl (w_s0 _ _) w_s0
  refine q_tswD (tgt := 216) d_X11_look_9 h_x1 (by omega) (by decide) ?_
  refine q_iconst d_X11_look_216 ?_
  exact q_ireti d_X11_look_217 rfl (inr_d rfl) w_s0

abbrev R_X12_aVillage : Room := { frames := 11, cells := 0, slots := 0, locals := 237 }
noncomputable def f_X12_aVillage_115 (a : Nat) (p1 : Int) (k150 : Mem → Res) : Nat → Int → Mem → Res
  | 0, _, _ => none
  | n + 1, x2, s0 =>
    if x2 = 0 then (k150 s0) else (bd (f_X12_next0 a s0) fun r15 s16 => bd (f_X12_another a p1 s16) fun r17 s18 => if r17 = 0 then (some (0, s18)) else (jn (fun (y20 : Int) => f_X12_aVillage_115 a p1 k150 n y20 s18) fun j146 => if s18 a 18 = 5 then (j146 1) else (j146 0)))
noncomputable def f_X12_aVillage_20 (a : Nat) (k63 : Unit → Res) (k51 : Unit → Res) (s0 : Mem) : Nat → Int → Res
  | 0, _ => none
  | n + 1, x2 =>
    if x2 < s0 a 15 then (jn (fun (_ : Unit) => f_X12_aVillage_20 a k63 k51 s0 n (wr (x2 + 1))) fun j57 => if s0 a 18 = 2 then (gd ((0 : Int) ≤ wr (3 * x2) ∧ wr (3 * x2) < 64) (if s0 (a + 7) (wr (3 * x2)) = s0 a 20 then (k51 ()) else (j57 ()))) else (j57 ())) else (k63 ())
noncomputable def f_X12_aVillage (a : Nat) (s0 : Mem) : Res :=
  bd (f_X12_need a 16 s0) fun r1 s2 => if r1 = 0 then (some (0, s2)) else (jn (fun (_ : Unit) => bd (f_X12_number a (wr (3 * (s0 a 15))) 0 11 s2) fun r4 s5 => if r4 = 0 then (some (0, s5)) else (bd (f_X12_told a (wr ((wr (3 * (s0 a 15))) + 1)) 17 1 99 s5) fun r7 s8 => if r7 = 0 then (some (0, s8)) else (gd ((0 : Int) ≤ wr ((wr (3 * (s0 a 15))) + 2) ∧ wr ((wr (3 * (s0 a 15))) + 2) < 64) (lm (mup s8 (a + 7) (wr ((wr (3 * (s0 a 15))) + 2)) 0) fun s11 => jn (fun (y12 : Int) => jn (fun (s13 : Mem) => some (1, s13)) fun j150 => f_X12_aVillage_115 a (wr (3 * (s0 a 15))) j150 FU y12 s11) fun j114 => if s11 a 18 = 18 then (j114 1) else (j114 0))))) fun j63 => jn (fun (_ : Unit) => bd (f_X12_bad a 2 s2) fun r23 s24 => some (r23, s24)) fun j51 => f_X12_aVillage_20 a j63 j51 s2 FU 0)
set_option maxHeartbeats 4000000 in
set_option maxRecDepth 10000 in
theorem l_X12_aVillage_115 (κ : Kp) (a : Nat) (hA : At12 κ a) (p1 : Int) (h_p1 : InR p1) (k150 : Mem → Res) (hk150 : ∀ (sz : Mem) (w_sz : WF sz), EO κ M_X12_aVillage R_X12_aVillage 150 [none, none, none] [] sz (k150 sz)) : ∀ (n : Nat) (x2 : Int) (h_x2 : x2 = 0 ∨ x2 = 1) (s0 : Mem) (w_s0 : WF s0), EO κ M_X12_aVillage R_X12_aVillage 115 [some (vr κ a), some (vi p1), some (vi x2)] [] s0 (f_X12_aVillage_115 a p1 k150 n x2 s0) := by
  intro n
  induction n with
  | zero => exact fun _ _ _ _ => q_none
  | succ n ih =>
    intro x2 h_x2 s0 w_s0
    rw [f_X12_aVillage_115]
    refine q_iload_n (x := x2) d_X12_aVillage_115 rfl ?_
    refine q_if_eq d_X12_aVillage_116 (inr_b h_x2) (fun c14 => ?_) (fun c14 => ?_)
    · refine q_sub (ls' := [none, none, none]) trivial ?_
      exact hk150 s0 w_s0
    · refine q_aload_n d_X12_aVillage_119 rfl ?_
      refine q_callV (R' := R_X12_next0) (runV (As := []) (rest := []) d_X12_aVillage_120.1 cv_12_204 rfl hA.1 rfl rfl ⟨rfl, rfl, by decide, by decide⟩ (Nat.le_of_ble_eq_true rfl) w_s0 rfl) d_X12_aVillage_120.2 (c_X12_next0 κ a hA s0) rfl (fun r15 s16 w_s16 => ?_)
      refine q_aload_n d_X12_aVillage_123 rfl ?_
      refine q_iload_n (x := p1) d_X12_aVillage_124 rfl ?_
      refine q_callZ (R' := R_X12_another) (runV (As := [vi p1]) (rest := []) d_X12_aVillage_125.1 cv_12_258 rfl hA.1 rfl rfl ⟨rfl, rfl, by decide, by decide⟩ (Nat.le_of_ble_eq_true rfl) w_s16 rfl) d_X12_aVillage_125.2 (c_X12_another κ a hA p1 h_p1 s16) rfl (fun r17 s18 h_r17 w_s18 => ?_)
      refine q_if_ne d_X12_aVillage_128 (inr_b h_r17) (fun c19 => ?_) (fun c19 => ?_)
      · refine q_iconst d_X12_aVillage_131 ?_
        exact q_iretz d_X12_aVillage_132 rfl (Or.inl rfl) w_s18
      · refine q_aload_n d_X12_aVillage_133 rfl ?_
        refine q_getI (k := 18) (j := 18) d_X12_aVillage_134 hA.1 fi_12_180 rfl rfl ?_
        refine q_iconst d_X12_aVillage_137 ?_
        refine q_jn (α := Int → Res) (fun j146 => ∀ (y20 : Int) (h_y20 : y20 = 0 ∨ y20 = 1), EO κ M_X12_aVillage R_X12_aVillage 146 [some (vr κ a), some (vi p1), none] [vi y20] s18 (j146 y20)) ?_ (fun j146 hj146 => ?_)
        · intro y20 h_y20
          refine q_istore_n d_X12_aVillage_146 rfl ?_
          refine q_goto d_X12_aVillage_147 ?_
          refine q_sub (ls' := [some (vr κ a), some (vi p1), some (vi y20)]) ⟨rfl, rfl, rfl, trivial⟩ ?_
          exact ih y20 h_y20 s18 w_s18
        refine q_icmp_ne d_X12_aVillage_138 (w_s18 _ _) (inr_d rfl) (fun c21 => ?_) (fun c21 => ?_)
        · refine q_iconst d_X12_aVillage_141 ?_
          refine q_goto d_X12_aVillage_142 ?_
          refine q_sub (ls' := [some (vr κ a), some (vi p1), none]) ⟨rfl, rfl, trivial⟩ ?_
          exact hj146 1 (Or.inr rfl)
        · refine q_iconst d_X12_aVillage_145 ?_
          refine q_sub (ls' := [some (vr κ a), some (vi p1), none]) ⟨rfl, rfl, trivial⟩ ?_
          exact hj146 0 (Or.inl rfl)
set_option maxHeartbeats 4000000 in
set_option maxRecDepth 10000 in
theorem l_X12_aVillage_20 (κ : Kp) (a : Nat) (hA : At12 κ a) (p1 : Int) (h_p1 : InR p1) (k63 : Unit → Res) (k51 : Unit → Res) (s0 : Mem) (w_s0 : WF s0) (hk63 : EO κ M_X12_aVillage R_X12_aVillage 63 [some (vr κ a), some (vi p1), none] [] s0 (k63 ())) (hk51 : EO κ M_X12_aVillage R_X12_aVillage 51 [some (vr κ a), none, none] [] s0 (k51 ())) : ∀ (n : Nat) (x2 : Int) (h_x2 : InR x2), EO κ M_X12_aVillage R_X12_aVillage 20 [some (vr κ a), some (vi p1), some (vi x2)] [] s0 (f_X12_aVillage_20 a k63 k51 s0 n x2) := by
  intro n
  induction n with
  | zero => exact fun _ _ => q_none
  | succ n ih =>
    intro x2 h_x2
    rw [f_X12_aVillage_20]
    refine q_iload_n (x := x2) d_X12_aVillage_20 rfl ?_
    refine q_aload_n d_X12_aVillage_21 rfl ?_
    refine q_getI (k := 15) (j := 15) d_X12_aVillage_22 hA.1 fi_12_251 rfl rfl ?_
    refine q_icmp_ge d_X12_aVillage_25 h_x2 (w_s0 _ _) (fun c25 => ?_) (fun c25 => ?_)
    · refine q_aload_n d_X12_aVillage_28 rfl ?_
      refine q_getI (k := 18) (j := 18) d_X12_aVillage_29 hA.1 fi_12_180 rfl rfl ?_
      refine q_iconst d_X12_aVillage_32 ?_
      refine q_jn (α := Unit → Res) (fun j57 => EO κ M_X12_aVillage R_X12_aVillage 57 [some (vr κ a), some (vi p1), some (vi x2)] [] s0 (j57 ())) ?_ (fun j57 hj57 => ?_)
      · refine q_iinc (x := x2) d_X12_aVillage_57 rfl rfl ?_
        refine q_goto d_X12_aVillage_60 ?_
        refine q_sub (ls' := [some (vr κ a), some (vi p1), some (vi (wr (x2 + 1)))]) ⟨rfl, rfl, rfl, trivial⟩ ?_
        exact ih (wr (x2 + 1)) (inr_wr _)
      refine q_icmp_ne d_X12_aVillage_33 (w_s0 _ _) (inr_d rfl) (fun c26 => ?_) (fun c26 => ?_)
      · refine q_aload_n d_X12_aVillage_36 rfl ?_
        refine q_getR (n := 7) d_X12_aVillage_37 hA.1 fi_12_28 rfl (Nat.le_of_ble_eq_true rfl) ?_
        refine q_iconst d_X12_aVillage_40 ?_
        refine q_iload_n (x := x2) d_X12_aVillage_41 rfl ?_
        refine q_imul d_X12_aVillage_42 ?_
        refine q_iaload (m := 64) d_X12_aVillage_43 hA.2.2.2.2.2.2.2.1 (by decide) rfl (fun g27 => ?_)
        refine q_aload_n d_X12_aVillage_44 rfl ?_
        refine q_getI (k := 20) (j := 20) d_X12_aVillage_45 hA.1 fi_12_192 rfl rfl ?_
        refine q_icmp_ne d_X12_aVillage_48 (w_s0 _ _) (w_s0 _ _) (fun c28 => ?_) (fun c28 => ?_)
        · refine q_sub (ls' := [some (vr κ a), none, none]) ⟨rfl, trivial⟩ ?_
          exact hk51 
        · refine q_sub (ls' := [some (vr κ a), some (vi p1), some (vi x2)]) ⟨rfl, rfl, rfl, trivial⟩ ?_
          exact hj57 
      · refine q_sub (ls' := [some (vr κ a), some (vi p1), some (vi x2)]) ⟨rfl, rfl, rfl, trivial⟩ ?_
        exact hj57 
    · refine q_sub (ls' := [some (vr κ a), some (vi p1), none]) ⟨rfl, rfl, trivial⟩ ?_
      exact hk63 
set_option maxHeartbeats 4000000 in
set_option maxRecDepth 10000 in
theorem c_X12_aVillage (κ : Kp) (a : Nat) (hA : At12 κ a) (s0 : Mem) : ∀ r σ', f_X12_aVillage a s0 = some (r, σ') → Ct κ M_X12_aVillage R_X12_aVillage [vr κ a] s0 r σ' := by
  intro r σ' ho
  refine Ct.of (by decide) (Nat.le_of_ble_eq_true rfl) (cat_ok rfl) (fun w_s0 => ?_) ⟨rfl, rfl⟩
  refine q_ent (ls' := [some (vr κ a), none, none]) (o := f_X12_aVillage a s0) ⟨rfl, trivial⟩ ?_ ho
  unfold f_X12_aVillage
  refine q_iconst d_X12_aVillage_0 ?_
  refine q_aload_n d_X12_aVillage_1 rfl ?_
  refine q_getI (k := 15) (j := 15) d_X12_aVillage_2 hA.1 fi_12_251 rfl rfl ?_
  refine q_imul d_X12_aVillage_5 ?_
  refine q_istore_n d_X12_aVillage_6 rfl ?_
  refine q_aload_n d_X12_aVillage_7 rfl ?_
  refine q_bipush d_X12_aVillage_8 rfl ?_
  refine q_callZ (R' := R_X12_need) (runV (As := [vi 16]) (rest := []) d_X12_aVillage_10.1 cv_12_236 rfl hA.1 rfl rfl ⟨rfl, rfl, by decide, by decide⟩ (Nat.le_of_ble_eq_true rfl) w_s0 rfl) d_X12_aVillage_10.2 (c_X12_need κ a hA 16 (inr_d rfl) s0) rfl (fun r1 s2 h_r1 w_s2 => ?_)
  refine q_if_ne d_X12_aVillage_13 (inr_b h_r1) (fun c3 => ?_) (fun c3 => ?_)
  · refine q_iconst d_X12_aVillage_16 ?_
    exact q_iretz d_X12_aVillage_17 rfl (Or.inl rfl) w_s2
  · refine q_iconst d_X12_aVillage_18 ?_
    refine q_istore_n d_X12_aVillage_19 rfl ?_
    refine q_jn (α := Unit → Res) (fun j63 => EO κ M_X12_aVillage R_X12_aVillage 63 [some (vr κ a), some (vi (wr (3 * (s0 a 15)))), none] [] s2 (j63 ())) ?_ (fun j63 hj63 => ?_)
    · refine q_aload_n d_X12_aVillage_63 rfl ?_
      refine q_iload_n (x := wr (3 * (s0 a 15))) d_X12_aVillage_64 rfl ?_
      refine q_iconst d_X12_aVillage_65 ?_
      refine q_bipush d_X12_aVillage_66 rfl ?_
      refine q_callZ (R' := R_X12_number) (runV (As := [vi (wr (3 * (s0 a 15))), vi 0, vi 11]) (rest := []) d_X12_aVillage_68.1 cv_12_248 rfl hA.1 rfl rfl ⟨rfl, rfl, by decide, by decide⟩ (Nat.le_of_ble_eq_true rfl) w_s2 rfl) d_X12_aVillage_68.2 (c_X12_number κ a hA (wr (3 * (s0 a 15))) (inr_wr _) 0 (inr_b (Or.inl rfl)) 11 (inr_d rfl) s2) rfl (fun r4 s5 h_r4 w_s5 => ?_)
      refine q_if_eq d_X12_aVillage_71 (inr_b h_r4) (fun c6 => ?_) (fun c6 => ?_)
      · refine q_iconst d_X12_aVillage_89 ?_
        exact q_iretz d_X12_aVillage_90 rfl (Or.inl rfl) w_s5
      · refine q_aload_n d_X12_aVillage_74 rfl ?_
        refine q_iload_n (x := wr (3 * (s0 a 15))) d_X12_aVillage_75 rfl ?_
        refine q_iconst d_X12_aVillage_76 ?_
        refine q_iadd d_X12_aVillage_77 ?_
        refine q_bipush d_X12_aVillage_78 rfl ?_
        refine q_iconst d_X12_aVillage_80 ?_
        refine q_bipush d_X12_aVillage_81 rfl ?_
        refine q_callZ (R' := R_X12_told) (runV (As := [vi (wr ((wr (3 * (s0 a 15))) + 1)), vi 17, vi 1, vi 99]) (rest := []) d_X12_aVillage_83.1 cv_12_254 rfl hA.1 rfl rfl ⟨rfl, rfl, by decide, by decide⟩ (Nat.le_of_ble_eq_true rfl) w_s5 rfl) d_X12_aVillage_83.2 (c_X12_told κ a hA (wr ((wr (3 * (s0 a 15))) + 1)) (inr_wr _) 17 (inr_d rfl) 1 (inr_b (Or.inr rfl)) 99 (inr_d rfl) s5) rfl (fun r7 s8 h_r7 w_s8 => ?_)
        refine q_if_ne d_X12_aVillage_86 (inr_b h_r7) (fun c9 => ?_) (fun c9 => ?_)
        · refine q_iconst d_X12_aVillage_89 ?_
          exact q_iretz d_X12_aVillage_90 rfl (Or.inl rfl) w_s8
        · refine q_aload_n d_X12_aVillage_91 rfl ?_
          refine q_getR (n := 7) d_X12_aVillage_92 hA.1 fi_12_28 rfl (Nat.le_of_ble_eq_true rfl) ?_
          refine q_iload_n (x := wr (3 * (s0 a 15))) d_X12_aVillage_95 rfl ?_
          refine q_iconst d_X12_aVillage_96 ?_
          refine q_iadd d_X12_aVillage_97 ?_
          refine q_iconst d_X12_aVillage_98 ?_
          refine q_iastore (m := 64) d_X12_aVillage_99 hA.2.2.2.2.2.2.2.1 (by decide) rfl (inr_b (Or.inl rfl)) w_s8 (fun g10 s11 w_s11 => ?_)
          refine q_aload_n d_X12_aVillage_100 rfl ?_
          refine q_getI (k := 18) (j := 18) d_X12_aVillage_101 hA.1 fi_12_180 rfl rfl ?_
          refine q_bipush d_X12_aVillage_104 rfl ?_
          refine q_jn (α := Int → Res) (fun j114 => ∀ (y12 : Int) (h_y12 : y12 = 0 ∨ y12 = 1), EO κ M_X12_aVillage R_X12_aVillage 114 [some (vr κ a), some (vi (wr (3 * (s0 a 15)))), none] [vi y12] s11 (j114 y12)) ?_ (fun j114 hj114 => ?_)
          · intro y12 h_y12
            refine q_istore_n d_X12_aVillage_114 rfl ?_
            refine q_jn (α := Mem → Res) (fun j150 => ∀ (s13 : Mem) (w_s13 : WF s13), EO κ M_X12_aVillage R_X12_aVillage 150 [none, none, none] [] s13 (j150 s13)) ?_ (fun j150 hj150 => ?_)
            · intro s13 w_s13
              refine q_iconst d_X12_aVillage_150 ?_
              exact q_iretz d_X12_aVillage_151 rfl (Or.inr rfl) w_s13
            refine q_sub (ls' := [some (vr κ a), some (vi (wr (3 * (s0 a 15)))), some (vi y12)]) ⟨rfl, rfl, rfl, trivial⟩ ?_
            exact l_X12_aVillage_115 κ a hA (wr (3 * (s0 a 15))) (inr_wr _) j150 hj150 FU y12 h_y12 s11 w_s11
          refine q_icmp_ne d_X12_aVillage_106 (w_s11 _ _) (inr_d rfl) (fun c22 => ?_) (fun c22 => ?_)
          · refine q_iconst d_X12_aVillage_109 ?_
            refine q_goto d_X12_aVillage_110 ?_
            refine q_sub (ls' := [some (vr κ a), some (vi (wr (3 * (s0 a 15)))), none]) ⟨rfl, rfl, trivial⟩ ?_
            exact hj114 1 (Or.inr rfl)
          · refine q_iconst d_X12_aVillage_113 ?_
            refine q_sub (ls' := [some (vr κ a), some (vi (wr (3 * (s0 a 15)))), none]) ⟨rfl, rfl, trivial⟩ ?_
            exact hj114 0 (Or.inl rfl)
    refine q_jn (α := Unit → Res) (fun j51 => EO κ M_X12_aVillage R_X12_aVillage 51 [some (vr κ a), none, none] [] s2 (j51 ())) ?_ (fun j51 hj51 => ?_)
    · refine q_aload_n d_X12_aVillage_51 rfl ?_
      refine q_iconst d_X12_aVillage_52 ?_
      refine q_callZ (R' := R_X12_bad) (runV (As := [vi 2]) (rest := []) d_X12_aVillage_53.1 cv_12_201 rfl hA.1 rfl rfl ⟨rfl, rfl, by decide, by decide⟩ (Nat.le_of_ble_eq_true rfl) w_s2 rfl) d_X12_aVillage_53.2 (c_X12_bad κ a hA 2 (inr_d rfl) s2) rfl (fun r23 s24 h_r23 w_s24 => ?_)
      exact q_iretz d_X12_aVillage_56 rfl h_r23 w_s24
    refine q_sub (ls' := [some (vr κ a), some (vi (wr (3 * (s0 a 15)))), some (vi 0)]) ⟨rfl, rfl, rfl, trivial⟩ ?_
    exact l_X12_aVillage_20 κ a hA (wr (3 * (s0 a 15))) (inr_wr _) j63 j51 s2 w_s2 hj63 hj51 FU 0 (inr_b (Or.inl rfl))
abbrev R_X12_aRow : Room := { frames := 12, cells := 0, slots := 0, locals := 259 }
noncomputable def f_X12_aRow (a : Nat) (s0 : Mem) : Res :=
  jn (fun (s1 : Mem) => bd (f_X12_need a 159 s1) fun r2 s3 => if r2 = 0 then (some (0, s3)) else (some (1, s3))) fun j43 => if s0 a 12 = 1 then (bd (f_X12_aCurrent a s0) fun r6 s7 => if r6 = 0 then (some (0, s7)) else (j43 s7)) else (if s0 a 12 = 2 then (bd (f_X12_aPlan a s0) fun r10 s11 => if r10 = 0 then (some (0, s11)) else (j43 s11)) else (bd (f_X12_aVillage a s0) fun r13 s14 => if r13 = 0 then (some (0, s14)) else (j43 s14)))
set_option maxHeartbeats 4000000 in
set_option maxRecDepth 10000 in
theorem c_X12_aRow (κ : Kp) (a : Nat) (hA : At12 κ a) (s0 : Mem) : ∀ r σ', f_X12_aRow a s0 = some (r, σ') → Ct κ M_X12_aRow R_X12_aRow [vr κ a] s0 r σ' := by
  intro r σ' ho
  refine Ct.of (by decide) (Nat.le_of_ble_eq_true rfl) (cat_ok rfl) (fun w_s0 => ?_) ⟨rfl, rfl⟩
  refine q_ent (ls' := [some (vr κ a)]) (o := f_X12_aRow a s0) ⟨rfl, trivial⟩ ?_ ho
  unfold f_X12_aRow
  refine q_aload_n d_X12_aRow_0 rfl ?_
  refine q_getI (k := 12) (j := 12) d_X12_aRow_1 hA.1 fi_12_160 rfl rfl ?_
  refine q_iconst d_X12_aRow_4 ?_
  refine q_jn (α := Mem → Res) (fun j43 => ∀ (s1 : Mem) (w_s1 : WF s1), EO κ M_X12_aRow R_X12_aRow 43 [some (vr κ a)] [] s1 (j43 s1)) ?_ (fun j43 hj43 => ?_)
  · intro s1 w_s1
    refine q_aload_n d_X12_aRow_43 rfl ?_
    refine q_sipush d_X12_aRow_44 rfl ?_
    refine q_callZ (R' := R_X12_need) (runV (As := [vi 159]) (rest := []) d_X12_aRow_47.1 cv_12_236 rfl hA.1 rfl rfl ⟨rfl, rfl, by decide, by decide⟩ (Nat.le_of_ble_eq_true rfl) w_s1 rfl) d_X12_aRow_47.2 (c_X12_need κ a hA 159 (inr_d rfl) s1) rfl (fun r2 s3 h_r2 w_s3 => ?_)
    refine q_if_eq d_X12_aRow_50 (inr_b h_r2) (fun c4 => ?_) (fun c4 => ?_)
    · refine q_iconst d_X12_aRow_57 ?_
      exact q_iretz d_X12_aRow_58 rfl (Or.inl rfl) w_s3
    · refine q_iconst d_X12_aRow_53 ?_
      refine q_goto d_X12_aRow_54 ?_
      exact q_iretz d_X12_aRow_58 rfl (Or.inr rfl) w_s3
  refine q_icmp_ne d_X12_aRow_5 (w_s0 _ _) (inr_b (Or.inr rfl)) (fun c5 => ?_) (fun c5 => ?_)
  · refine q_aload_n d_X12_aRow_8 rfl ?_
    refine q_callZ (R' := R_X12_aCurrent) (runV (As := []) (rest := []) d_X12_aRow_9.1 cv_12_261 rfl hA.1 rfl rfl ⟨rfl, rfl, by decide, by decide⟩ (Nat.le_of_ble_eq_true rfl) w_s0 rfl) d_X12_aRow_9.2 (c_X12_aCurrent κ a hA s0) rfl (fun r6 s7 h_r6 w_s7 => ?_)
    refine q_if_eq d_X12_aRow_12 (inr_b h_r6) (fun c8 => ?_) (fun c8 => ?_)
    · refine q_iconst d_X12_aRow_57 ?_
      exact q_iretz d_X12_aRow_58 rfl (Or.inl rfl) w_s7
    · refine q_goto d_X12_aRow_15 ?_
      refine q_sub (ls' := [some (vr κ a)]) ⟨rfl, trivial⟩ ?_
      exact hj43 s7 w_s7
  · refine q_aload_n d_X12_aRow_18 rfl ?_
    refine q_getI (k := 12) (j := 12) d_X12_aRow_19 hA.1 fi_12_160 rfl rfl ?_
    refine q_iconst d_X12_aRow_22 ?_
    refine q_icmp_ne d_X12_aRow_23 (w_s0 _ _) (inr_d rfl) (fun c9 => ?_) (fun c9 => ?_)
    · refine q_aload_n d_X12_aRow_26 rfl ?_
      refine q_callZ (R' := R_X12_aPlan) (runV (As := []) (rest := []) d_X12_aRow_27.1 cv_12_264 rfl hA.1 rfl rfl ⟨rfl, rfl, by decide, by decide⟩ (Nat.le_of_ble_eq_true rfl) w_s0 rfl) d_X12_aRow_27.2 (c_X12_aPlan κ a hA s0) rfl (fun r10 s11 h_r10 w_s11 => ?_)
      refine q_if_eq d_X12_aRow_30 (inr_b h_r10) (fun c12 => ?_) (fun c12 => ?_)
      · refine q_iconst d_X12_aRow_57 ?_
        exact q_iretz d_X12_aRow_58 rfl (Or.inl rfl) w_s11
      · refine q_goto d_X12_aRow_33 ?_
        refine q_sub (ls' := [some (vr κ a)]) ⟨rfl, trivial⟩ ?_
        exact hj43 s11 w_s11
    · refine q_aload_n d_X12_aRow_36 rfl ?_
      refine q_callZ (R' := R_X12_aVillage) (runV (As := []) (rest := []) d_X12_aRow_37.1 cv_12_267 rfl hA.1 rfl rfl ⟨rfl, rfl, by decide, by decide⟩ (Nat.le_of_ble_eq_true rfl) w_s0 rfl) d_X12_aRow_37.2 (c_X12_aVillage κ a hA s0) rfl (fun r13 s14 h_r13 w_s14 => ?_)
      refine q_if_eq d_X12_aRow_40 (inr_b h_r13) (fun c15 => ?_) (fun c15 => ?_)
      · refine q_iconst d_X12_aRow_57 ?_
        exact q_iretz d_X12_aRow_58 rfl (Or.inl rfl) w_s14
      · refine q_sub (ls' := [some (vr κ a)]) ⟨rfl, trivial⟩ ?_
        exact hj43 s14 w_s14
abbrev R_X12_readsRows : Room := { frames := 13, cells := 0, slots := 0, locals := 279 }
noncomputable def f_X12_readsRows_36 (a : Nat) (p1 : Int) (k55 : Mem → Res) (k70 : Mem → Res) : Nat → Int → Mem → Res
  | 0, _, _ => none
  | n + 1, x2, s0 =>
    if x2 = 0 then (some (x2, s0)) else (if s0 a 18 = 0 then (some (x2, s0)) else (if s0 a 18 = p1 then (if s0 a 15 = 16 then (k70 s0) else (bd (f_X12_aRow a s0) fun r13 s14 => jn (fun (y15 : Int) => lm (mup s14 a 15 (wr ((s14 a 15) + y15))) fun s16 => f_X12_readsRows_36 a p1 k55 k70 n r13 s16) fun j95 => if r13 = 0 then (j95 0) else (j95 1))) else (k55 s0)))
noncomputable def f_X12_readsRows (a : Nat) (s0 : Mem) : Res :=
  lm (mup s0 a 15 0) fun s1 => jn (fun (y2 : Int) => jn (fun (s3 : Mem) => bd (f_X12_bad a 3 s3) fun r4 s5 => some (r4, s5)) fun j70 => jn (fun (s6 : Mem) => bd (f_X12_bad a 1 s6) fun r7 s8 => some (r7, s8)) fun j55 => f_X12_readsRows_36 a y2 j55 j70 FU 1 s1) fun j33 => if s1 a 12 = 1 then (j33 7) else (if s1 a 12 = 2 then (j33 10) else (j33 16))
set_option maxHeartbeats 4000000 in
set_option maxRecDepth 10000 in
theorem l_X12_readsRows_36 (κ : Kp) (a : Nat) (hA : At12 κ a) (p1 : Int) (h_p1 : InR p1) (k55 : Mem → Res) (k70 : Mem → Res) (hk55 : ∀ (sz : Mem) (w_sz : WF sz), EO κ M_X12_readsRows R_X12_readsRows 55 [some (vr κ a), none, none] [] sz (k55 sz)) (hk70 : ∀ (sz : Mem) (w_sz : WF sz), EO κ M_X12_readsRows R_X12_readsRows 70 [some (vr κ a), none, none] [] sz (k70 sz)) : ∀ (n : Nat) (x2 : Int) (h_x2 : x2 = 0 ∨ x2 = 1) (s0 : Mem) (w_s0 : WF s0), EO κ M_X12_readsRows R_X12_readsRows 36 [some (vr κ a), some (vi p1), some (vi x2)] [] s0 (f_X12_readsRows_36 a p1 k55 k70 n x2 s0) := by
  intro n
  induction n with
  | zero => exact fun _ _ _ _ => q_none
  | succ n ih =>
    intro x2 h_x2 s0 w_s0
    rw [f_X12_readsRows_36]
    refine q_iload_n (x := x2) d_X12_readsRows_36 rfl ?_
    refine q_if_eq d_X12_readsRows_37 (inr_b h_x2) (fun c9 => ?_) (fun c9 => ?_)
    · refine q_iload_n (x := x2) d_X12_readsRows_102 rfl ?_
      exact q_iretz d_X12_readsRows_103 rfl h_x2 w_s0
    · refine q_aload_n d_X12_readsRows_40 rfl ?_
      refine q_getI (k := 18) (j := 18) d_X12_readsRows_41 hA.1 fi_12_180 rfl rfl ?_
      refine q_if_eq d_X12_readsRows_44 (w_s0 _ _) (fun c10 => ?_) (fun c10 => ?_)
      · refine q_iload_n (x := x2) d_X12_readsRows_102 rfl ?_
        exact q_iretz d_X12_readsRows_103 rfl h_x2 w_s0
      · refine q_aload_n d_X12_readsRows_47 rfl ?_
        refine q_getI (k := 18) (j := 18) d_X12_readsRows_48 hA.1 fi_12_180 rfl rfl ?_
        refine q_iload_n (x := p1) d_X12_readsRows_51 rfl ?_
        refine q_icmp_eq d_X12_readsRows_52 (w_s0 _ _) h_p1 (fun c11 => ?_) (fun c11 => ?_)
        · refine q_aload_n d_X12_readsRows_61 rfl ?_
          refine q_getI (k := 15) (j := 15) d_X12_readsRows_62 hA.1 fi_12_251 rfl rfl ?_
          refine q_bipush d_X12_readsRows_65 rfl ?_
          refine q_icmp_ne d_X12_readsRows_67 (w_s0 _ _) (inr_d rfl) (fun c12 => ?_) (fun c12 => ?_)
          · refine q_sub (ls' := [some (vr κ a), none, none]) ⟨rfl, trivial⟩ ?_
            exact hk70 s0 w_s0
          · refine q_aload_n d_X12_readsRows_76 rfl ?_
            refine q_callZ (R' := R_X12_aRow) (runV (As := []) (rest := []) d_X12_readsRows_77.1 cv_12_270 rfl hA.1 rfl rfl ⟨rfl, rfl, by decide, by decide⟩ (Nat.le_of_ble_eq_true rfl) w_s0 rfl) d_X12_readsRows_77.2 (c_X12_aRow κ a hA s0) rfl (fun r13 s14 h_r13 w_s14 => ?_)
            refine q_istore_n d_X12_readsRows_80 rfl ?_
            refine q_aload_n d_X12_readsRows_81 rfl ?_
            refine q_dup d_X12_readsRows_82 rfl ?_
            refine q_getI (k := 15) (j := 15) d_X12_readsRows_83 hA.1 fi_12_251 rfl rfl ?_
            refine q_iload_n (x := r13) d_X12_readsRows_86 rfl ?_
            refine q_jn (α := Int → Res) (fun j95 => ∀ (y15 : Int) (h_y15 : y15 = 0 ∨ y15 = 1), EO κ M_X12_readsRows R_X12_readsRows 95 [some (vr κ a), some (vi p1), some (vi r13)] [vi y15, vi (s14 a 15), vr κ a] s14 (j95 y15)) ?_ (fun j95 hj95 => ?_)
            · intro y15 h_y15
              refine q_iadd d_X12_readsRows_95 ?_
              refine q_putI (k := 15) (j := 15) d_X12_readsRows_96 hA.1 fp_12_251 rfl rfl (inr_wr _) w_s14 (fun s16 w_s16 => ?_)
              refine q_goto d_X12_readsRows_99 ?_
              refine q_sub (ls' := [some (vr κ a), some (vi p1), some (vi r13)]) ⟨rfl, rfl, rfl, trivial⟩ ?_
              exact ih r13 h_r13 s16 w_s16
            refine q_if_eq d_X12_readsRows_87 (inr_b h_r13) (fun c17 => ?_) (fun c17 => ?_)
            · refine q_iconst d_X12_readsRows_94 ?_
              refine q_sub (ls' := [some (vr κ a), some (vi p1), some (vi r13)]) ⟨rfl, rfl, rfl, trivial⟩ ?_
              exact hj95 0 (Or.inl rfl)
            · refine q_iconst d_X12_readsRows_90 ?_
              refine q_goto d_X12_readsRows_91 ?_
              refine q_sub (ls' := [some (vr κ a), some (vi p1), some (vi r13)]) ⟨rfl, rfl, rfl, trivial⟩ ?_
              exact hj95 1 (Or.inr rfl)
        · refine q_sub (ls' := [some (vr κ a), none, none]) ⟨rfl, trivial⟩ ?_
          exact hk55 s0 w_s0
set_option maxHeartbeats 4000000 in
set_option maxRecDepth 10000 in
theorem c_X12_readsRows (κ : Kp) (a : Nat) (hA : At12 κ a) (s0 : Mem) : ∀ r σ', f_X12_readsRows a s0 = some (r, σ') → Ct κ M_X12_readsRows R_X12_readsRows [vr κ a] s0 r σ' := by
  intro r σ' ho
  refine Ct.of (by decide) (Nat.le_of_ble_eq_true rfl) (cat_ok rfl) (fun w_s0 => ?_) ⟨rfl, rfl⟩
  refine q_ent (ls' := [some (vr κ a), none, none]) (o := f_X12_readsRows a s0) ⟨rfl, trivial⟩ ?_ ho
  unfold f_X12_readsRows
  refine q_aload_n d_X12_readsRows_0 rfl ?_
  refine q_iconst d_X12_readsRows_1 ?_
  refine q_putI (k := 15) (j := 15) d_X12_readsRows_2 hA.1 fp_12_251 rfl rfl (inr_b (Or.inl rfl)) w_s0 (fun s1 w_s1 => ?_)
  refine q_aload_n d_X12_readsRows_5 rfl ?_
  refine q_getI (k := 12) (j := 12) d_X12_readsRows_6 hA.1 fi_12_160 rfl rfl ?_
  refine q_iconst d_X12_readsRows_9 ?_
  refine q_jn (α := Int → Res) (fun j33 => ∀ (y2 : Int) (h_y2 : InR y2), EO κ M_X12_readsRows R_X12_readsRows 33 [some (vr κ a), none, none] [vi y2] s1 (j33 y2)) ?_ (fun j33 hj33 => ?_)
  · intro y2 h_y2
    refine q_istore_n d_X12_readsRows_33 rfl ?_
    refine q_iconst d_X12_readsRows_34 ?_
    refine q_istore_n d_X12_readsRows_35 rfl ?_
    refine q_jn (α := Mem → Res) (fun j70 => ∀ (s3 : Mem) (w_s3 : WF s3), EO κ M_X12_readsRows R_X12_readsRows 70 [some (vr κ a), none, none] [] s3 (j70 s3)) ?_ (fun j70 hj70 => ?_)
    · intro s3 w_s3
      refine q_aload_n d_X12_readsRows_70 rfl ?_
      refine q_iconst d_X12_readsRows_71 ?_
      refine q_callZ (R' := R_X12_bad) (runV (As := [vi 3]) (rest := []) d_X12_readsRows_72.1 cv_12_201 rfl hA.1 rfl rfl ⟨rfl, rfl, by decide, by decide⟩ (Nat.le_of_ble_eq_true rfl) w_s3 rfl) d_X12_readsRows_72.2 (c_X12_bad κ a hA 3 (inr_d rfl) s3) rfl (fun r4 s5 h_r4 w_s5 => ?_)
      exact q_iretz d_X12_readsRows_75 rfl h_r4 w_s5
    refine q_jn (α := Mem → Res) (fun j55 => ∀ (s6 : Mem) (w_s6 : WF s6), EO κ M_X12_readsRows R_X12_readsRows 55 [some (vr κ a), none, none] [] s6 (j55 s6)) ?_ (fun j55 hj55 => ?_)
    · intro s6 w_s6
      refine q_aload_n d_X12_readsRows_55 rfl ?_
      refine q_iconst d_X12_readsRows_56 ?_
      refine q_callZ (R' := R_X12_bad) (runV (As := [vi 1]) (rest := []) d_X12_readsRows_57.1 cv_12_201 rfl hA.1 rfl rfl ⟨rfl, rfl, by decide, by decide⟩ (Nat.le_of_ble_eq_true rfl) w_s6 rfl) d_X12_readsRows_57.2 (c_X12_bad κ a hA 1 (inr_b (Or.inr rfl)) s6) rfl (fun r7 s8 h_r7 w_s8 => ?_)
      exact q_iretz d_X12_readsRows_60 rfl h_r7 w_s8
    refine q_sub (ls' := [some (vr κ a), some (vi y2), some (vi 1)]) ⟨rfl, rfl, rfl, trivial⟩ ?_
    exact l_X12_readsRows_36 κ a hA y2 h_y2 j55 j70 hj55 hj70 FU 1 (Or.inr rfl) s1 w_s1
  refine q_icmp_ne d_X12_readsRows_10 (w_s1 _ _) (inr_b (Or.inr rfl)) (fun c18 => ?_) (fun c18 => ?_)
  · refine q_bipush d_X12_readsRows_13 rfl ?_
    refine q_goto d_X12_readsRows_15 ?_
    refine q_sub (ls' := [some (vr κ a), none, none]) ⟨rfl, trivial⟩ ?_
    exact hj33 7 (inr_d rfl)
  · refine q_aload_n d_X12_readsRows_18 rfl ?_
    refine q_getI (k := 12) (j := 12) d_X12_readsRows_19 hA.1 fi_12_160 rfl rfl ?_
    refine q_iconst d_X12_readsRows_22 ?_
    refine q_icmp_ne d_X12_readsRows_23 (w_s1 _ _) (inr_d rfl) (fun c19 => ?_) (fun c19 => ?_)
    · refine q_bipush d_X12_readsRows_26 rfl ?_
      refine q_goto d_X12_readsRows_28 ?_
      refine q_sub (ls' := [some (vr κ a), none, none]) ⟨rfl, trivial⟩ ?_
      exact hj33 10 (inr_d rfl)
    · refine q_bipush d_X12_readsRows_31 rfl ?_
      refine q_sub (ls' := [some (vr κ a), none, none]) ⟨rfl, trivial⟩ ?_
      exact hj33 16 (inr_d rfl)
abbrev R_X12_putsLaw : Room := { frames := 0, cells := 0, slots := 0, locals := 0 }
noncomputable def f_X12_putsLaw_107 (a : Nat) (k139 : Mem → Res) : Nat → Int → Mem → Res
  | 0, _, _ => none
  | n + 1, x1, s0 =>
    if x1 < wr (2 * (s0 a 14)) then (gd ((0 : Int) ≤ x1 ∧ x1 < 820) (gd ((0 : Int) ≤ wr (912 + x1) ∧ wr (912 + x1) < 1732) (lm (mup s0 (a + 1) (wr (912 + x1)) (s0 (a + 6) x1)) fun s8 => f_X12_putsLaw_107 a k139 n (wr (x1 + 1)) s8))) else (k139 s0)
noncomputable def f_X12_putsLaw_13 (a : Nat) (k105 : Mem → Res) : Nat → Int → Mem → Res
  | 0, _, _ => none
  | n + 1, x1, s0 =>
    if x1 < s0 a 13 then (gd ((0 : Int) ≤ wr (4 * x1) ∧ wr (4 * x1) < 64) (gd ((0 : Int) ≤ wr (848 + x1) ∧ wr (848 + x1) < 1732) (lm (mup s0 (a + 1) (wr (848 + x1)) (s0 (a + 5) (wr (4 * x1)))) fun s12 => gd ((0 : Int) ≤ wr ((wr (4 * x1)) + 1) ∧ wr ((wr (4 * x1)) + 1) < 64) (gd ((0 : Int) ≤ wr (864 + x1) ∧ wr (864 + x1) < 1732) (lm (mup s12 (a + 1) (wr (864 + x1)) (s12 (a + 5) (wr ((wr (4 * x1)) + 1)))) fun s15 => gd ((0 : Int) ≤ wr ((wr (4 * x1)) + 2) ∧ wr ((wr (4 * x1)) + 2) < 64) (gd ((0 : Int) ≤ wr (880 + x1) ∧ wr (880 + x1) < 1732) (lm (mup s15 (a + 1) (wr (880 + x1)) (s15 (a + 5) (wr ((wr (4 * x1)) + 2)))) fun s18 => gd ((0 : Int) ≤ wr ((wr (4 * x1)) + 3) ∧ wr ((wr (4 * x1)) + 3) < 64) (gd ((0 : Int) ≤ wr (896 + x1) ∧ wr (896 + x1) < 1732) (lm (mup s18 (a + 1) (wr (896 + x1)) (s18 (a + 5) (wr ((wr (4 * x1)) + 3)))) fun s21 => f_X12_putsLaw_13 a k105 n (wr (x1 + 1)) s21))))))))) else (k105 s0)
noncomputable def f_X12_putsLaw (a : Nat) (s0 : Mem) : Res :=
  gd ((0 : Int) ≤ 59 ∧ (59 : Int) < 1732) (lm (mup s0 (a + 1) 59 (s0 a 13)) fun s2 => jn (fun (s3 : Mem) => jn (fun (s4 : Mem) => some (s4 a 13, s4)) fun j139 => f_X12_putsLaw_107 a j139 FU 0 s3) fun j105 => f_X12_putsLaw_13 a j105 FU 0 s2)
set_option maxHeartbeats 4000000 in
set_option maxRecDepth 10000 in
theorem l_X12_putsLaw_107 (κ : Kp) (a : Nat) (hA : At12 κ a) (k139 : Mem → Res) (hk139 : ∀ (sz : Mem) (w_sz : WF sz), EO κ M_X12_putsLaw R_X12_putsLaw 139 [some (vr κ a), none] [] sz (k139 sz)) : ∀ (n : Nat) (x1 : Int) (h_x1 : InR x1) (s0 : Mem) (w_s0 : WF s0), EO κ M_X12_putsLaw R_X12_putsLaw 107 [some (vr κ a), some (vi x1)] [] s0 (f_X12_putsLaw_107 a k139 n x1 s0) := by
  intro n
  induction n with
  | zero => exact fun _ _ _ _ => q_none
  | succ n ih =>
    intro x1 h_x1 s0 w_s0
    rw [f_X12_putsLaw_107]
    refine q_iload_n (x := x1) d_X12_putsLaw_107 rfl ?_
    refine q_iconst d_X12_putsLaw_108 ?_
    refine q_aload_n d_X12_putsLaw_109 rfl ?_
    refine q_getI (k := 14) (j := 14) d_X12_putsLaw_110 hA.1 fi_12_207 rfl rfl ?_
    refine q_imul d_X12_putsLaw_113 ?_
    refine q_icmp_ge d_X12_putsLaw_114 h_x1 (inr_wr _) (fun c5 => ?_) (fun c5 => ?_)
    · refine q_aload_n d_X12_putsLaw_117 rfl ?_
      refine q_getR (n := 1) d_X12_putsLaw_118 hA.1 fi_12_7 rfl (Nat.le_of_ble_eq_true rfl) ?_
      refine q_sipush d_X12_putsLaw_121 rfl ?_
      refine q_iload_n (x := x1) d_X12_putsLaw_124 rfl ?_
      refine q_iadd d_X12_putsLaw_125 ?_
      refine q_aload_n d_X12_putsLaw_126 rfl ?_
      refine q_getR (n := 6) d_X12_putsLaw_127 hA.1 fi_12_25 rfl (Nat.le_of_ble_eq_true rfl) ?_
      refine q_iload_n (x := x1) d_X12_putsLaw_130 rfl ?_
      refine q_iaload (m := 820) d_X12_putsLaw_131 hA.2.2.2.2.2.2.1 (by decide) rfl (fun g6 => ?_)
      refine q_iastore (m := 1732) d_X12_putsLaw_132 hA.2.1 (by decide) rfl (w_s0 _ _) w_s0 (fun g7 s8 w_s8 => ?_)
      refine q_iinc (x := x1) d_X12_putsLaw_133 rfl rfl ?_
      refine q_goto d_X12_putsLaw_136 ?_
      refine q_sub (ls' := [some (vr κ a), some (vi (wr (x1 + 1)))]) ⟨rfl, rfl, trivial⟩ ?_
      exact ih (wr (x1 + 1)) (inr_wr _) s8 w_s8
    · refine q_sub (ls' := [some (vr κ a), none]) ⟨rfl, trivial⟩ ?_
      exact hk139 s0 w_s0
set_option maxHeartbeats 4000000 in
set_option maxRecDepth 10000 in
theorem l_X12_putsLaw_13 (κ : Kp) (a : Nat) (hA : At12 κ a) (k105 : Mem → Res) (hk105 : ∀ (sz : Mem) (w_sz : WF sz), EO κ M_X12_putsLaw R_X12_putsLaw 105 [some (vr κ a), none] [] sz (k105 sz)) : ∀ (n : Nat) (x1 : Int) (h_x1 : InR x1) (s0 : Mem) (w_s0 : WF s0), EO κ M_X12_putsLaw R_X12_putsLaw 13 [some (vr κ a), some (vi x1)] [] s0 (f_X12_putsLaw_13 a k105 n x1 s0) := by
  intro n
  induction n with
  | zero => exact fun _ _ _ _ => q_none
  | succ n ih =>
    intro x1 h_x1 s0 w_s0
    rw [f_X12_putsLaw_13]
    refine q_iload_n (x := x1) d_X12_putsLaw_13 rfl ?_
    refine q_aload_n d_X12_putsLaw_14 rfl ?_
    refine q_getI (k := 13) (j := 13) d_X12_putsLaw_15 hA.1 fi_12_242 rfl rfl ?_
    refine q_icmp_ge d_X12_putsLaw_18 h_x1 (w_s0 _ _) (fun c9 => ?_) (fun c9 => ?_)
    · refine q_aload_n d_X12_putsLaw_21 rfl ?_
      refine q_getR (n := 1) d_X12_putsLaw_22 hA.1 fi_12_7 rfl (Nat.le_of_ble_eq_true rfl) ?_
      refine q_sipush d_X12_putsLaw_25 rfl ?_
      refine q_iload_n (x := x1) d_X12_putsLaw_28 rfl ?_
      refine q_iadd d_X12_putsLaw_29 ?_
      refine q_aload_n d_X12_putsLaw_30 rfl ?_
      refine q_getR (n := 5) d_X12_putsLaw_31 hA.1 fi_12_22 rfl (Nat.le_of_ble_eq_true rfl) ?_
      refine q_iconst d_X12_putsLaw_34 ?_
      refine q_iload_n (x := x1) d_X12_putsLaw_35 rfl ?_
      refine q_imul d_X12_putsLaw_36 ?_
      refine q_iaload (m := 64) d_X12_putsLaw_37 hA.2.2.2.2.2.1 (by decide) rfl (fun g10 => ?_)
      refine q_iastore (m := 1732) d_X12_putsLaw_38 hA.2.1 (by decide) rfl (w_s0 _ _) w_s0 (fun g11 s12 w_s12 => ?_)
      refine q_aload_n d_X12_putsLaw_39 rfl ?_
      refine q_getR (n := 1) d_X12_putsLaw_40 hA.1 fi_12_7 rfl (Nat.le_of_ble_eq_true rfl) ?_
      refine q_sipush d_X12_putsLaw_43 rfl ?_
      refine q_iload_n (x := x1) d_X12_putsLaw_46 rfl ?_
      refine q_iadd d_X12_putsLaw_47 ?_
      refine q_aload_n d_X12_putsLaw_48 rfl ?_
      refine q_getR (n := 5) d_X12_putsLaw_49 hA.1 fi_12_22 rfl (Nat.le_of_ble_eq_true rfl) ?_
      refine q_iconst d_X12_putsLaw_52 ?_
      refine q_iload_n (x := x1) d_X12_putsLaw_53 rfl ?_
      refine q_imul d_X12_putsLaw_54 ?_
      refine q_iconst d_X12_putsLaw_55 ?_
      refine q_iadd d_X12_putsLaw_56 ?_
      refine q_iaload (m := 64) d_X12_putsLaw_57 hA.2.2.2.2.2.1 (by decide) rfl (fun g13 => ?_)
      refine q_iastore (m := 1732) d_X12_putsLaw_58 hA.2.1 (by decide) rfl (w_s12 _ _) w_s12 (fun g14 s15 w_s15 => ?_)
      refine q_aload_n d_X12_putsLaw_59 rfl ?_
      refine q_getR (n := 1) d_X12_putsLaw_60 hA.1 fi_12_7 rfl (Nat.le_of_ble_eq_true rfl) ?_
      refine q_sipush d_X12_putsLaw_63 rfl ?_
      refine q_iload_n (x := x1) d_X12_putsLaw_66 rfl ?_
      refine q_iadd d_X12_putsLaw_67 ?_
      refine q_aload_n d_X12_putsLaw_68 rfl ?_
      refine q_getR (n := 5) d_X12_putsLaw_69 hA.1 fi_12_22 rfl (Nat.le_of_ble_eq_true rfl) ?_
      refine q_iconst d_X12_putsLaw_72 ?_
      refine q_iload_n (x := x1) d_X12_putsLaw_73 rfl ?_
      refine q_imul d_X12_putsLaw_74 ?_
      refine q_iconst d_X12_putsLaw_75 ?_
      refine q_iadd d_X12_putsLaw_76 ?_
      refine q_iaload (m := 64) d_X12_putsLaw_77 hA.2.2.2.2.2.1 (by decide) rfl (fun g16 => ?_)
      refine q_iastore (m := 1732) d_X12_putsLaw_78 hA.2.1 (by decide) rfl (w_s15 _ _) w_s15 (fun g17 s18 w_s18 => ?_)
      refine q_aload_n d_X12_putsLaw_79 rfl ?_
      refine q_getR (n := 1) d_X12_putsLaw_80 hA.1 fi_12_7 rfl (Nat.le_of_ble_eq_true rfl) ?_
      refine q_sipush d_X12_putsLaw_83 rfl ?_
      refine q_iload_n (x := x1) d_X12_putsLaw_86 rfl ?_
      refine q_iadd d_X12_putsLaw_87 ?_
      refine q_aload_n d_X12_putsLaw_88 rfl ?_
      refine q_getR (n := 5) d_X12_putsLaw_89 hA.1 fi_12_22 rfl (Nat.le_of_ble_eq_true rfl) ?_
      refine q_iconst d_X12_putsLaw_92 ?_
      refine q_iload_n (x := x1) d_X12_putsLaw_93 rfl ?_
      refine q_imul d_X12_putsLaw_94 ?_
      refine q_iconst d_X12_putsLaw_95 ?_
      refine q_iadd d_X12_putsLaw_96 ?_
      refine q_iaload (m := 64) d_X12_putsLaw_97 hA.2.2.2.2.2.1 (by decide) rfl (fun g19 => ?_)
      refine q_iastore (m := 1732) d_X12_putsLaw_98 hA.2.1 (by decide) rfl (w_s18 _ _) w_s18 (fun g20 s21 w_s21 => ?_)
      refine q_iinc (x := x1) d_X12_putsLaw_99 rfl rfl ?_
      refine q_goto d_X12_putsLaw_102 ?_
      refine q_sub (ls' := [some (vr κ a), some (vi (wr (x1 + 1)))]) ⟨rfl, rfl, trivial⟩ ?_
      exact ih (wr (x1 + 1)) (inr_wr _) s21 w_s21
    · refine q_sub (ls' := [some (vr κ a), none]) ⟨rfl, trivial⟩ ?_
      exact hk105 s0 w_s0
set_option maxHeartbeats 4000000 in
set_option maxRecDepth 10000 in
theorem c_X12_putsLaw (κ : Kp) (a : Nat) (hA : At12 κ a) (s0 : Mem) : ∀ r σ', f_X12_putsLaw a s0 = some (r, σ') → Ct κ M_X12_putsLaw R_X12_putsLaw [vr κ a] s0 r σ' := by
  intro r σ' ho
  refine Ct.of (by decide) (Nat.le_of_ble_eq_true rfl) (cat_ok rfl) (fun w_s0 => ?_) ⟨rfl, rfl⟩
  refine q_ent (ls' := [some (vr κ a), none]) (o := f_X12_putsLaw a s0) ⟨rfl, trivial⟩ ?_ ho
  unfold f_X12_putsLaw
  refine q_aload_n d_X12_putsLaw_0 rfl ?_
  refine q_getR (n := 1) d_X12_putsLaw_1 hA.1 fi_12_7 rfl (Nat.le_of_ble_eq_true rfl) ?_
  refine q_bipush d_X12_putsLaw_4 rfl ?_
  refine q_aload_n d_X12_putsLaw_6 rfl ?_
  refine q_getI (k := 13) (j := 13) d_X12_putsLaw_7 hA.1 fi_12_242 rfl rfl ?_
  refine q_iastore (m := 1732) d_X12_putsLaw_10 hA.2.1 (by decide) rfl (w_s0 _ _) w_s0 (fun g1 s2 w_s2 => ?_)
  refine q_iconst d_X12_putsLaw_11 ?_
  refine q_istore_n d_X12_putsLaw_12 rfl ?_
  refine q_jn (α := Mem → Res) (fun j105 => ∀ (s3 : Mem) (w_s3 : WF s3), EO κ M_X12_putsLaw R_X12_putsLaw 105 [some (vr κ a), none] [] s3 (j105 s3)) ?_ (fun j105 hj105 => ?_)
  · intro s3 w_s3
    refine q_iconst d_X12_putsLaw_105 ?_
    refine q_istore_n d_X12_putsLaw_106 rfl ?_
    refine q_jn (α := Mem → Res) (fun j139 => ∀ (s4 : Mem) (w_s4 : WF s4), EO κ M_X12_putsLaw R_X12_putsLaw 139 [some (vr κ a), none] [] s4 (j139 s4)) ?_ (fun j139 hj139 => ?_)
    · intro s4 w_s4
      refine q_aload_n d_X12_putsLaw_139 rfl ?_
      refine q_getI (k := 13) (j := 13) d_X12_putsLaw_140 hA.1 fi_12_242 rfl rfl ?_
      exact q_ireti d_X12_putsLaw_143 rfl (w_s4 _ _) w_s4
    refine q_sub (ls' := [some (vr κ a), some (vi 0)]) ⟨rfl, rfl, trivial⟩ ?_
    exact l_X12_putsLaw_107 κ a hA j139 hj139 FU 0 (inr_b (Or.inl rfl)) s3 w_s3
  refine q_sub (ls' := [some (vr κ a), some (vi 0)]) ⟨rfl, rfl, trivial⟩ ?_
  exact l_X12_putsLaw_13 κ a hA j105 hj105 FU 0 (inr_b (Or.inl rfl)) s2 w_s2
abbrev R_X12_puts : Room := { frames := 0, cells := 0, slots := 0, locals := 0 }
noncomputable def f_X12_puts_13 (a : Nat) (p2 : Int) (p3 : Int) (k46 : Mem → Res) : Nat → Int → Mem → Res
  | 0, _, _ => none
  | n + 1, x4, s0 =>
    if x4 < wr (p3 * (s0 a 15)) then (gd ((0 : Int) ≤ x4 ∧ x4 < 64) (gd ((0 : Int) ≤ wr (p2 + x4) ∧ wr (p2 + x4) < 1732) (lm (mup s0 (a + 1) (wr (p2 + x4)) (s0 (a + 7) x4)) fun s7 => f_X12_puts_13 a p2 p3 k46 n (wr (x4 + 1)) s7))) else (k46 s0)
noncomputable def f_X12_puts (a : Nat) (x1 : Int) (x2 : Int) (x3 : Int) (s0 : Mem) : Res :=
  gd ((0 : Int) ≤ x1 ∧ x1 < 1732) (lm (mup s0 (a + 1) x1 (s0 a 15)) fun s2 => jn (fun (s3 : Mem) => some (s3 a 15, s3)) fun j46 => f_X12_puts_13 a x2 x3 j46 FU 0 s2)
set_option maxHeartbeats 4000000 in
set_option maxRecDepth 10000 in
theorem l_X12_puts_13 (κ : Kp) (a : Nat) (hA : At12 κ a) (p2 : Int) (h_p2 : InR p2) (p3 : Int) (h_p3 : InR p3) (k46 : Mem → Res) (hk46 : ∀ (sz : Mem) (w_sz : WF sz), EO κ M_X12_puts R_X12_puts 46 [some (vr κ a), none, none, none, none] [] sz (k46 sz)) : ∀ (n : Nat) (x4 : Int) (h_x4 : InR x4) (s0 : Mem) (w_s0 : WF s0), EO κ M_X12_puts R_X12_puts 13 [some (vr κ a), none, some (vi p2), some (vi p3), some (vi x4)] [] s0 (f_X12_puts_13 a p2 p3 k46 n x4 s0) := by
  intro n
  induction n with
  | zero => exact fun _ _ _ _ => q_none
  | succ n ih =>
    intro x4 h_x4 s0 w_s0
    rw [f_X12_puts_13]
    refine q_iload (x := x4) d_X12_puts_13 rfl ?_
    refine q_iload_n (x := p3) d_X12_puts_15 rfl ?_
    refine q_aload_n d_X12_puts_16 rfl ?_
    refine q_getI (k := 15) (j := 15) d_X12_puts_17 hA.1 fi_12_251 rfl rfl ?_
    refine q_imul d_X12_puts_20 ?_
    refine q_icmp_ge d_X12_puts_21 h_x4 (inr_wr _) (fun c4 => ?_) (fun c4 => ?_)
    · refine q_aload_n d_X12_puts_24 rfl ?_
      refine q_getR (n := 1) d_X12_puts_25 hA.1 fi_12_7 rfl (Nat.le_of_ble_eq_true rfl) ?_
      refine q_iload_n (x := p2) d_X12_puts_28 rfl ?_
      refine q_iload (x := x4) d_X12_puts_29 rfl ?_
      refine q_iadd d_X12_puts_31 ?_
      refine q_aload_n d_X12_puts_32 rfl ?_
      refine q_getR (n := 7) d_X12_puts_33 hA.1 fi_12_28 rfl (Nat.le_of_ble_eq_true rfl) ?_
      refine q_iload (x := x4) d_X12_puts_36 rfl ?_
      refine q_iaload (m := 64) d_X12_puts_38 hA.2.2.2.2.2.2.2.1 (by decide) rfl (fun g5 => ?_)
      refine q_iastore (m := 1732) d_X12_puts_39 hA.2.1 (by decide) rfl (w_s0 _ _) w_s0 (fun g6 s7 w_s7 => ?_)
      refine q_iinc (x := x4) d_X12_puts_40 rfl rfl ?_
      refine q_goto d_X12_puts_43 ?_
      refine q_sub (ls' := [some (vr κ a), none, some (vi p2), some (vi p3), some (vi (wr (x4 + 1)))]) ⟨rfl, rfl, rfl, rfl, trivial⟩ ?_
      exact ih (wr (x4 + 1)) (inr_wr _) s7 w_s7
    · refine q_sub (ls' := [some (vr κ a), none, none, none, none]) ⟨rfl, trivial⟩ ?_
      exact hk46 s0 w_s0
set_option maxHeartbeats 4000000 in
set_option maxRecDepth 10000 in
theorem c_X12_puts (κ : Kp) (a : Nat) (hA : At12 κ a) (x1 : Int) (h_x1 : InR x1) (x2 : Int) (h_x2 : InR x2) (x3 : Int) (h_x3 : InR x3) (s0 : Mem) : ∀ r σ', f_X12_puts a x1 x2 x3 s0 = some (r, σ') → Ct κ M_X12_puts R_X12_puts [vr κ a, vi x1, vi x2, vi x3] s0 r σ' := by
  intro r σ' ho
  refine Ct.of (by decide) (Nat.le_of_ble_eq_true rfl) (cat_ok rfl) (fun w_s0 => ?_) ⟨rfl, rfl⟩
  refine q_ent (ls' := [some (vr κ a), some (vi x1), some (vi x2), some (vi x3), none]) (o := f_X12_puts a x1 x2 x3 s0) ⟨rfl, rfl, rfl, rfl, trivial⟩ ?_ ho
  unfold f_X12_puts
  refine q_aload_n d_X12_puts_0 rfl ?_
  refine q_getR (n := 1) d_X12_puts_1 hA.1 fi_12_7 rfl (Nat.le_of_ble_eq_true rfl) ?_
  refine q_iload_n (x := x1) d_X12_puts_4 rfl ?_
  refine q_aload_n d_X12_puts_5 rfl ?_
  refine q_getI (k := 15) (j := 15) d_X12_puts_6 hA.1 fi_12_251 rfl rfl ?_
  refine q_iastore (m := 1732) d_X12_puts_9 hA.2.1 (by decide) rfl (w_s0 _ _) w_s0 (fun g1 s2 w_s2 => ?_)
  refine q_iconst d_X12_puts_10 ?_
  refine q_istore d_X12_puts_11 rfl ?_
  refine q_jn (α := Mem → Res) (fun j46 => ∀ (s3 : Mem) (w_s3 : WF s3), EO κ M_X12_puts R_X12_puts 46 [some (vr κ a), none, none, none, none] [] s3 (j46 s3)) ?_ (fun j46 hj46 => ?_)
  · intro s3 w_s3
    refine q_aload_n d_X12_puts_46 rfl ?_
    refine q_getI (k := 15) (j := 15) d_X12_puts_47 hA.1 fi_12_251 rfl rfl ?_
    exact q_ireti d_X12_puts_50 rfl (w_s3 _ _) w_s3
  refine q_sub (ls' := [some (vr κ a), none, some (vi x2), some (vi x3), some (vi 0)]) ⟨rfl, rfl, rfl, rfl, trivial⟩ ?_
  exact l_X12_puts_13 κ a hA x2 h_x2 x3 h_x3 j46 hj46 FU 0 (inr_b (Or.inl rfl)) s2 w_s2
abbrev R_X12_isTold : Room := { frames := 1, cells := 0, slots := 0, locals := 22 }
noncomputable def f_X12_isTold (a : Nat) (x1 : Int) (s0 : Mem) : Res :=
  bd (f_X12_isIn x1 0 11 s0) fun r1 s2 => if r1 = 0 then (some (0, s2)) else (gd ((0 : Int) ≤ 197 ∧ (197 : Int) < 1732) (if iand (ishr (s2 (a + 1) 197) x1) 1 = 1 then (some (1, s2)) else (some (0, s2))))
set_option maxHeartbeats 4000000 in
set_option maxRecDepth 10000 in
theorem c_X12_isTold (κ : Kp) (a : Nat) (hA : At12 κ a) (x1 : Int) (h_x1 : InR x1) (s0 : Mem) : ∀ r σ', f_X12_isTold a x1 s0 = some (r, σ') → Ct κ M_X12_isTold R_X12_isTold [vr κ a, vi x1] s0 r σ' := by
  intro r σ' ho
  refine Ct.of (by decide) (Nat.le_of_ble_eq_true rfl) (cat_ok rfl) (fun w_s0 => ?_) ⟨rfl, rfl⟩
  refine q_ent (ls' := [some (vr κ a), some (vi x1)]) (o := f_X12_isTold a x1 s0) ⟨rfl, rfl, trivial⟩ ?_ ho
  unfold f_X12_isTold
  refine q_iload_n (x := x1) d_X12_isTold_0 rfl ?_
  refine q_iconst d_X12_isTold_1 ?_
  refine q_bipush d_X12_isTold_2 rfl ?_
  refine q_callZ (R' := R_X12_isIn) (runS (As := [vi x1, vi 0, vi 11]) (rest := []) d_X12_isTold_4.1 cv_12_60 rfl ⟨rfl, rfl, by decide, by decide⟩ (Nat.le_of_ble_eq_true rfl) w_s0 rfl) d_X12_isTold_4.2 (c_X12_isIn κ x1 h_x1 0 (inr_b (Or.inl rfl)) 11 (inr_d rfl) s0) rfl (fun r1 s2 h_r1 w_s2 => ?_)
  refine q_if_eq d_X12_isTold_7 (inr_b h_r1) (fun c3 => ?_) (fun c3 => ?_)
  · refine q_iconst d_X12_isTold_30 ?_
    exact q_iretz d_X12_isTold_31 rfl (Or.inl rfl) w_s2
  · refine q_aload_n d_X12_isTold_10 rfl ?_
    refine q_getR (n := 1) d_X12_isTold_11 hA.1 fi_12_7 rfl (Nat.le_of_ble_eq_true rfl) ?_
    refine q_sipush d_X12_isTold_14 rfl ?_
    refine q_iaload (m := 1732) d_X12_isTold_17 hA.2.1 (by decide) rfl (fun g4 => ?_)
    refine q_iload_n (x := x1) d_X12_isTold_18 rfl ?_
    refine q_ishr d_X12_isTold_19 ?_
    refine q_iconst d_X12_isTold_20 ?_
    refine q_iand d_X12_isTold_21 ?_
    refine q_iconst d_X12_isTold_22 ?_
    refine q_icmp_ne d_X12_isTold_23 (inr_i32 _) (inr_b (Or.inr rfl)) (fun c5 => ?_) (fun c5 => ?_)
    · refine q_iconst d_X12_isTold_26 ?_
      refine q_goto d_X12_isTold_27 ?_
      exact q_iretz d_X12_isTold_31 rfl (Or.inr rfl) w_s2
    · refine q_iconst d_X12_isTold_30 ?_
      exact q_iretz d_X12_isTold_31 rfl (Or.inl rfl) w_s2
abbrev R_X12_putsVillages : Room := { frames := 2, cells := 0, slots := 0, locals := 43 }
noncomputable def f_X12_putsVillages_183 (a : Nat) (k235 : Mem → Res) : Nat → Int → Mem → Res
  | 0, _, _ => none
  | n + 1, x1, s0 =>
    if x1 < 12 then (bd (f_X12_isTold a x1 s0) fun r9 s10 => jn (fun (s11 : Mem) => gd ((0 : Int) ≤ wr (210 + x1) ∧ wr (210 + x1) < 1732) (gd ((0 : Int) ≤ 197 ∧ (197 : Int) < 1732) (gd ((0 : Int) ≤ wr (210 + x1) ∧ wr (210 + x1) < 1732) (lm (mup s11 (a + 1) (wr (210 + x1)) (iand (s11 (a + 1) (wr (210 + x1))) (s11 (a + 1) 197))) fun s15 => f_X12_putsVillages_183 a k235 n (wr (x1 + 1)) s15)))) fun j208 => if r9 = 0 then (gd ((0 : Int) ≤ wr (210 + x1) ∧ wr (210 + x1) < 1732) (lm (mup s10 (a + 1) (wr (210 + x1)) 0) fun s18 => j208 s18)) else (j208 s10)) else (k235 s0)
noncomputable def f_X12_putsVillages_134 (a : Nat) (p1 : Int) (p2 : Int) (k175 : Mem → Res) : Nat → Int → Mem → Res
  | 0, _, _ => none
  | n + 1, x3, s0 =>
    if x3 < 12 then (gd ((0 : Int) ≤ wr (210 + x3) ∧ wr (210 + x3) < 1732) (gd ((0 : Int) ≤ wr ((wr (3 * p1)) + 2) ∧ wr ((wr (3 * p1)) + 2) < 64) (gd ((0 : Int) ≤ wr (210 + x3) ∧ wr (210 + x3) < 1732) (lm (mup s0 (a + 1) (wr (210 + x3)) (ior (s0 (a + 1) (wr (210 + x3))) (ishl (iand (ishr (s0 (a + 7) (wr ((wr (3 * p1)) + 2))) x3) 1) p2))) fun s36 => f_X12_putsVillages_134 a p1 p2 k175 n (wr (x3 + 1)) s36)))) else (k175 s0)
noncomputable def f_X12_putsVillages_58 (a : Nat) (k181 : Mem → Res) : Nat → Int → Mem → Res
  | 0, _, _ => none
  | n + 1, x1, s0 =>
    if x1 < s0 a 15 then (gd ((0 : Int) ≤ wr (3 * x1) ∧ wr (3 * x1) < 64) (gd ((0 : Int) ≤ 197 ∧ (197 : Int) < 1732) (gd ((0 : Int) ≤ 197 ∧ (197 : Int) < 1732) (lm (mup s0 (a + 1) 197 (ior (s0 (a + 1) 197) (ishl 1 (s0 (a + 7) (wr (3 * x1)))))) fun s23 => gd ((0 : Int) ≤ wr ((wr (3 * x1)) + 1) ∧ wr ((wr (3 * x1)) + 1) < 64) (gd ((0 : Int) ≤ wr (198 + (s0 (a + 7) (wr (3 * x1)))) ∧ wr (198 + (s0 (a + 7) (wr (3 * x1)))) < 1732) (lm (mup s23 (a + 1) (wr (198 + (s0 (a + 7) (wr (3 * x1))))) (s23 (a + 7) (wr ((wr (3 * x1)) + 1)))) fun s26 => gd ((0 : Int) ≤ wr (210 + (s0 (a + 7) (wr (3 * x1)))) ∧ wr (210 + (s0 (a + 7) (wr (3 * x1)))) < 1732) (gd ((0 : Int) ≤ wr ((wr (3 * x1)) + 2) ∧ wr ((wr (3 * x1)) + 2) < 64) (gd ((0 : Int) ≤ wr (210 + (s0 (a + 7) (wr (3 * x1)))) ∧ wr (210 + (s0 (a + 7) (wr (3 * x1)))) < 1732) (lm (mup s26 (a + 1) (wr (210 + (s0 (a + 7) (wr (3 * x1))))) (ior (s26 (a + 1) (wr (210 + (s0 (a + 7) (wr (3 * x1)))))) (s26 (a + 7) (wr ((wr (3 * x1)) + 2))))) fun s30 => jn (fun (s31 : Mem) => f_X12_putsVillages_58 a k181 n (wr (x1 + 1)) s31) fun j175 => f_X12_putsVillages_134 a x1 (s0 (a + 7) (wr (3 * x1))) j175 FU 0 s30))))))))) else (k181 s0)
noncomputable def f_X12_putsVillages_22 (a : Nat) (k56 : Mem → Res) : Nat → Int → Mem → Res
  | 0, _, _ => none
  | n + 1, x1, s0 =>
    if x1 < 12 then (gd ((0 : Int) ≤ wr (198 + x1) ∧ wr (198 + x1) < 1732) (lm (mup s0 (a + 1) (wr (198 + x1)) 0) fun s39 => gd ((0 : Int) ≤ wr (210 + x1) ∧ wr (210 + x1) < 1732) (lm (mup s39 (a + 1) (wr (210 + x1)) 0) fun s41 => f_X12_putsVillages_22 a k56 n (wr (x1 + 1)) s41))) else (k56 s0)
noncomputable def f_X12_putsVillages (a : Nat) (s0 : Mem) : Res :=
  gd ((0 : Int) ≤ 62 ∧ (62 : Int) < 1732) (lm (mup s0 (a + 1) 62 (s0 a 15)) fun s2 => gd ((0 : Int) ≤ 197 ∧ (197 : Int) < 1732) (lm (mup s2 (a + 1) 197 0) fun s4 => jn (fun (s5 : Mem) => jn (fun (s6 : Mem) => jn (fun (s7 : Mem) => some (s7 a 15, s7)) fun j235 => f_X12_putsVillages_183 a j235 FU 0 s6) fun j181 => f_X12_putsVillages_58 a j181 FU 0 s5) fun j56 => f_X12_putsVillages_22 a j56 FU 0 s4))
set_option maxHeartbeats 4000000 in
set_option maxRecDepth 10000 in
theorem l_X12_putsVillages_183 (κ : Kp) (a : Nat) (hA : At12 κ a) (k235 : Mem → Res) (hk235 : ∀ (sz : Mem) (w_sz : WF sz), EO κ M_X12_putsVillages R_X12_putsVillages 235 [some (vr κ a), none, none, none] [] sz (k235 sz)) : ∀ (n : Nat) (x1 : Int) (h_x1 : InR x1) (s0 : Mem) (w_s0 : WF s0), EO κ M_X12_putsVillages R_X12_putsVillages 183 [some (vr κ a), some (vi x1), none, none] [] s0 (f_X12_putsVillages_183 a k235 n x1 s0) := by
  intro n
  induction n with
  | zero => exact fun _ _ _ _ => q_none
  | succ n ih =>
    intro x1 h_x1 s0 w_s0
    rw [f_X12_putsVillages_183]
    refine q_iload_n (x := x1) d_X12_putsVillages_183 rfl ?_
    refine q_bipush d_X12_putsVillages_184 rfl ?_
    refine q_icmp_ge d_X12_putsVillages_186 h_x1 (inr_d rfl) (fun c8 => ?_) (fun c8 => ?_)
    · refine q_aload_n d_X12_putsVillages_189 rfl ?_
      refine q_iload_n (x := x1) d_X12_putsVillages_190 rfl ?_
      refine q_callZ (R' := R_X12_isTold) (runV (As := [vi x1]) (rest := []) d_X12_putsVillages_191.1 cv_12_273 rfl hA.1 rfl rfl ⟨rfl, rfl, by decide, by decide⟩ (Nat.le_of_ble_eq_true rfl) w_s0 rfl) d_X12_putsVillages_191.2 (c_X12_isTold κ a hA x1 h_x1 s0) rfl (fun r9 s10 h_r9 w_s10 => ?_)
      refine q_jn (α := Mem → Res) (fun j208 => ∀ (s11 : Mem) (w_s11 : WF s11), EO κ M_X12_putsVillages R_X12_putsVillages 208 [some (vr κ a), some (vi x1), none, none] [] s11 (j208 s11)) ?_ (fun j208 hj208 => ?_)
      · intro s11 w_s11
        refine q_aload_n d_X12_putsVillages_208 rfl ?_
        refine q_getR (n := 1) d_X12_putsVillages_209 hA.1 fi_12_7 rfl (Nat.le_of_ble_eq_true rfl) ?_
        refine q_sipush d_X12_putsVillages_212 rfl ?_
        refine q_iload_n (x := x1) d_X12_putsVillages_215 rfl ?_
        refine q_iadd d_X12_putsVillages_216 ?_
        refine q_dup2 d_X12_putsVillages_217 rfl rfl ?_
        refine q_iaload (m := 1732) d_X12_putsVillages_218 hA.2.1 (by decide) rfl (fun g12 => ?_)
        refine q_aload_n d_X12_putsVillages_219 rfl ?_
        refine q_getR (n := 1) d_X12_putsVillages_220 hA.1 fi_12_7 rfl (Nat.le_of_ble_eq_true rfl) ?_
        refine q_sipush d_X12_putsVillages_223 rfl ?_
        refine q_iaload (m := 1732) d_X12_putsVillages_226 hA.2.1 (by decide) rfl (fun g13 => ?_)
        refine q_iand d_X12_putsVillages_227 ?_
        refine q_iastore (m := 1732) d_X12_putsVillages_228 hA.2.1 (by decide) rfl (inr_i32 _) w_s11 (fun g14 s15 w_s15 => ?_)
        refine q_iinc (x := x1) d_X12_putsVillages_229 rfl rfl ?_
        refine q_goto d_X12_putsVillages_232 ?_
        refine q_sub (ls' := [some (vr κ a), some (vi (wr (x1 + 1))), none, none]) ⟨rfl, rfl, trivial⟩ ?_
        exact ih (wr (x1 + 1)) (inr_wr _) s15 w_s15
      refine q_if_ne d_X12_putsVillages_194 (inr_b h_r9) (fun c16 => ?_) (fun c16 => ?_)
      · refine q_aload_n d_X12_putsVillages_197 rfl ?_
        refine q_getR (n := 1) d_X12_putsVillages_198 hA.1 fi_12_7 rfl (Nat.le_of_ble_eq_true rfl) ?_
        refine q_sipush d_X12_putsVillages_201 rfl ?_
        refine q_iload_n (x := x1) d_X12_putsVillages_204 rfl ?_
        refine q_iadd d_X12_putsVillages_205 ?_
        refine q_iconst d_X12_putsVillages_206 ?_
        refine q_iastore (m := 1732) d_X12_putsVillages_207 hA.2.1 (by decide) rfl (inr_b (Or.inl rfl)) w_s10 (fun g17 s18 w_s18 => ?_)
        refine q_sub (ls' := [some (vr κ a), some (vi x1), none, none]) ⟨rfl, rfl, trivial⟩ ?_
        exact hj208 s18 w_s18
      · refine q_sub (ls' := [some (vr κ a), some (vi x1), none, none]) ⟨rfl, rfl, trivial⟩ ?_
        exact hj208 s10 w_s10
    · refine q_sub (ls' := [some (vr κ a), none, none, none]) ⟨rfl, trivial⟩ ?_
      exact hk235 s0 w_s0
set_option maxHeartbeats 4000000 in
set_option maxRecDepth 10000 in
theorem l_X12_putsVillages_134 (κ : Kp) (a : Nat) (hA : At12 κ a) (p1 : Int) (h_p1 : InR p1) (p2 : Int) (h_p2 : InR p2) (k175 : Mem → Res) (hk175 : ∀ (sz : Mem) (w_sz : WF sz), EO κ M_X12_putsVillages R_X12_putsVillages 175 [some (vr κ a), some (vi p1), none, none] [] sz (k175 sz)) : ∀ (n : Nat) (x3 : Int) (h_x3 : InR x3) (s0 : Mem) (w_s0 : WF s0), EO κ M_X12_putsVillages R_X12_putsVillages 134 [some (vr κ a), some (vi p1), some (vi p2), some (vi x3)] [] s0 (f_X12_putsVillages_134 a p1 p2 k175 n x3 s0) := by
  intro n
  induction n with
  | zero => exact fun _ _ _ _ => q_none
  | succ n ih =>
    intro x3 h_x3 s0 w_s0
    rw [f_X12_putsVillages_134]
    refine q_iload_n (x := x3) d_X12_putsVillages_134 rfl ?_
    refine q_bipush d_X12_putsVillages_135 rfl ?_
    refine q_icmp_ge d_X12_putsVillages_137 h_x3 (inr_d rfl) (fun c32 => ?_) (fun c32 => ?_)
    · refine q_aload_n d_X12_putsVillages_140 rfl ?_
      refine q_getR (n := 1) d_X12_putsVillages_141 hA.1 fi_12_7 rfl (Nat.le_of_ble_eq_true rfl) ?_
      refine q_sipush d_X12_putsVillages_144 rfl ?_
      refine q_iload_n (x := x3) d_X12_putsVillages_147 rfl ?_
      refine q_iadd d_X12_putsVillages_148 ?_
      refine q_dup2 d_X12_putsVillages_149 rfl rfl ?_
      refine q_iaload (m := 1732) d_X12_putsVillages_150 hA.2.1 (by decide) rfl (fun g33 => ?_)
      refine q_aload_n d_X12_putsVillages_151 rfl ?_
      refine q_getR (n := 7) d_X12_putsVillages_152 hA.1 fi_12_28 rfl (Nat.le_of_ble_eq_true rfl) ?_
      refine q_iconst d_X12_putsVillages_155 ?_
      refine q_iload_n (x := p1) d_X12_putsVillages_156 rfl ?_
      refine q_imul d_X12_putsVillages_157 ?_
      refine q_iconst d_X12_putsVillages_158 ?_
      refine q_iadd d_X12_putsVillages_159 ?_
      refine q_iaload (m := 64) d_X12_putsVillages_160 hA.2.2.2.2.2.2.2.1 (by decide) rfl (fun g34 => ?_)
      refine q_iload_n (x := x3) d_X12_putsVillages_161 rfl ?_
      refine q_ishr d_X12_putsVillages_162 ?_
      refine q_iconst d_X12_putsVillages_163 ?_
      refine q_iand d_X12_putsVillages_164 ?_
      refine q_iload_n (x := p2) d_X12_putsVillages_165 rfl ?_
      refine q_ishl d_X12_putsVillages_166 ?_
      refine q_ior d_X12_putsVillages_167 ?_
      refine q_iastore (m := 1732) d_X12_putsVillages_168 hA.2.1 (by decide) rfl (inr_i32 _) w_s0 (fun g35 s36 w_s36 => ?_)
      refine q_iinc (x := x3) d_X12_putsVillages_169 rfl rfl ?_
      refine q_goto d_X12_putsVillages_172 ?_
      refine q_sub (ls' := [some (vr κ a), some (vi p1), some (vi p2), some (vi (wr (x3 + 1)))]) ⟨rfl, rfl, rfl, rfl, trivial⟩ ?_
      exact ih (wr (x3 + 1)) (inr_wr _) s36 w_s36
    · refine q_sub (ls' := [some (vr κ a), some (vi p1), none, none]) ⟨rfl, rfl, trivial⟩ ?_
      exact hk175 s0 w_s0
set_option maxHeartbeats 4000000 in
set_option maxRecDepth 10000 in
theorem l_X12_putsVillages_58 (κ : Kp) (a : Nat) (hA : At12 κ a) (k181 : Mem → Res) (hk181 : ∀ (sz : Mem) (w_sz : WF sz), EO κ M_X12_putsVillages R_X12_putsVillages 181 [some (vr κ a), none, none, none] [] sz (k181 sz)) : ∀ (n : Nat) (x1 : Int) (h_x1 : InR x1) (s0 : Mem) (w_s0 : WF s0), EO κ M_X12_putsVillages R_X12_putsVillages 58 [some (vr κ a), some (vi x1), none, none] [] s0 (f_X12_putsVillages_58 a k181 n x1 s0) := by
  intro n
  induction n with
  | zero => exact fun _ _ _ _ => q_none
  | succ n ih =>
    intro x1 h_x1 s0 w_s0
    rw [f_X12_putsVillages_58]
    refine q_iload_n (x := x1) d_X12_putsVillages_58 rfl ?_
    refine q_aload_n d_X12_putsVillages_59 rfl ?_
    refine q_getI (k := 15) (j := 15) d_X12_putsVillages_60 hA.1 fi_12_251 rfl rfl ?_
    refine q_icmp_ge d_X12_putsVillages_63 h_x1 (w_s0 _ _) (fun c19 => ?_) (fun c19 => ?_)
    · refine q_aload_n d_X12_putsVillages_66 rfl ?_
      refine q_getR (n := 7) d_X12_putsVillages_67 hA.1 fi_12_28 rfl (Nat.le_of_ble_eq_true rfl) ?_
      refine q_iconst d_X12_putsVillages_70 ?_
      refine q_iload_n (x := x1) d_X12_putsVillages_71 rfl ?_
      refine q_imul d_X12_putsVillages_72 ?_
      refine q_iaload (m := 64) d_X12_putsVillages_73 hA.2.2.2.2.2.2.2.1 (by decide) rfl (fun g20 => ?_)
      refine q_istore_n d_X12_putsVillages_74 rfl ?_
      refine q_aload_n d_X12_putsVillages_75 rfl ?_
      refine q_getR (n := 1) d_X12_putsVillages_76 hA.1 fi_12_7 rfl (Nat.le_of_ble_eq_true rfl) ?_
      refine q_sipush d_X12_putsVillages_79 rfl ?_
      refine q_dup2 d_X12_putsVillages_82 rfl rfl ?_
      refine q_iaload (m := 1732) d_X12_putsVillages_83 hA.2.1 (by decide) rfl (fun g21 => ?_)
      refine q_iconst d_X12_putsVillages_84 ?_
      refine q_iload_n (x := s0 (a + 7) (wr (3 * x1))) d_X12_putsVillages_85 rfl ?_
      refine q_ishl d_X12_putsVillages_86 ?_
      refine q_ior d_X12_putsVillages_87 ?_
      refine q_iastore (m := 1732) d_X12_putsVillages_88 hA.2.1 (by decide) rfl (inr_i32 _) w_s0 (fun g22 s23 w_s23 => ?_)
      refine q_aload_n d_X12_putsVillages_89 rfl ?_
      refine q_getR (n := 1) d_X12_putsVillages_90 hA.1 fi_12_7 rfl (Nat.le_of_ble_eq_true rfl) ?_
      refine q_sipush d_X12_putsVillages_93 rfl ?_
      refine q_iload_n (x := s0 (a + 7) (wr (3 * x1))) d_X12_putsVillages_96 rfl ?_
      refine q_iadd d_X12_putsVillages_97 ?_
      refine q_aload_n d_X12_putsVillages_98 rfl ?_
      refine q_getR (n := 7) d_X12_putsVillages_99 hA.1 fi_12_28 rfl (Nat.le_of_ble_eq_true rfl) ?_
      refine q_iconst d_X12_putsVillages_102 ?_
      refine q_iload_n (x := x1) d_X12_putsVillages_103 rfl ?_
      refine q_imul d_X12_putsVillages_104 ?_
      refine q_iconst d_X12_putsVillages_105 ?_
      refine q_iadd d_X12_putsVillages_106 ?_
      refine q_iaload (m := 64) d_X12_putsVillages_107 hA.2.2.2.2.2.2.2.1 (by decide) rfl (fun g24 => ?_)
      refine q_iastore (m := 1732) d_X12_putsVillages_108 hA.2.1 (by decide) rfl (w_s23 _ _) w_s23 (fun g25 s26 w_s26 => ?_)
      refine q_aload_n d_X12_putsVillages_109 rfl ?_
      refine q_getR (n := 1) d_X12_putsVillages_110 hA.1 fi_12_7 rfl (Nat.le_of_ble_eq_true rfl) ?_
      refine q_sipush d_X12_putsVillages_113 rfl ?_
      refine q_iload_n (x := s0 (a + 7) (wr (3 * x1))) d_X12_putsVillages_116 rfl ?_
      refine q_iadd d_X12_putsVillages_117 ?_
      refine q_dup2 d_X12_putsVillages_118 rfl rfl ?_
      refine q_iaload (m := 1732) d_X12_putsVillages_119 hA.2.1 (by decide) rfl (fun g27 => ?_)
      refine q_aload_n d_X12_putsVillages_120 rfl ?_
      refine q_getR (n := 7) d_X12_putsVillages_121 hA.1 fi_12_28 rfl (Nat.le_of_ble_eq_true rfl) ?_
      refine q_iconst d_X12_putsVillages_124 ?_
      refine q_iload_n (x := x1) d_X12_putsVillages_125 rfl ?_
      refine q_imul d_X12_putsVillages_126 ?_
      refine q_iconst d_X12_putsVillages_127 ?_
      refine q_iadd d_X12_putsVillages_128 ?_
      refine q_iaload (m := 64) d_X12_putsVillages_129 hA.2.2.2.2.2.2.2.1 (by decide) rfl (fun g28 => ?_)
      refine q_ior d_X12_putsVillages_130 ?_
      refine q_iastore (m := 1732) d_X12_putsVillages_131 hA.2.1 (by decide) rfl (inr_i32 _) w_s26 (fun g29 s30 w_s30 => ?_)
      refine q_iconst d_X12_putsVillages_132 ?_
      refine q_istore_n d_X12_putsVillages_133 rfl ?_
      refine q_jn (α := Mem → Res) (fun j175 => ∀ (s31 : Mem) (w_s31 : WF s31), EO κ M_X12_putsVillages R_X12_putsVillages 175 [some (vr κ a), some (vi x1), none, none] [] s31 (j175 s31)) ?_ (fun j175 hj175 => ?_)
      · intro s31 w_s31
        refine q_iinc (x := x1) d_X12_putsVillages_175 rfl rfl ?_
        refine q_goto d_X12_putsVillages_178 ?_
        refine q_sub (ls' := [some (vr κ a), some (vi (wr (x1 + 1))), none, none]) ⟨rfl, rfl, trivial⟩ ?_
        exact ih (wr (x1 + 1)) (inr_wr _) s31 w_s31
      refine q_sub (ls' := [some (vr κ a), some (vi x1), some (vi (s0 (a + 7) (wr (3 * x1)))), some (vi 0)]) ⟨rfl, rfl, rfl, rfl, trivial⟩ ?_
      exact l_X12_putsVillages_134 κ a hA x1 h_x1 (s0 (a + 7) (wr (3 * x1))) (w_s0 _ _) j175 hj175 FU 0 (inr_b (Or.inl rfl)) s30 w_s30
    · refine q_sub (ls' := [some (vr κ a), none, none, none]) ⟨rfl, trivial⟩ ?_
      exact hk181 s0 w_s0
set_option maxHeartbeats 4000000 in
set_option maxRecDepth 10000 in
theorem l_X12_putsVillages_22 (κ : Kp) (a : Nat) (hA : At12 κ a) (k56 : Mem → Res) (hk56 : ∀ (sz : Mem) (w_sz : WF sz), EO κ M_X12_putsVillages R_X12_putsVillages 56 [some (vr κ a), none, none, none] [] sz (k56 sz)) : ∀ (n : Nat) (x1 : Int) (h_x1 : InR x1) (s0 : Mem) (w_s0 : WF s0), EO κ M_X12_putsVillages R_X12_putsVillages 22 [some (vr κ a), some (vi x1), none, none] [] s0 (f_X12_putsVillages_22 a k56 n x1 s0) := by
  intro n
  induction n with
  | zero => exact fun _ _ _ _ => q_none
  | succ n ih =>
    intro x1 h_x1 s0 w_s0
    rw [f_X12_putsVillages_22]
    refine q_iload_n (x := x1) d_X12_putsVillages_22 rfl ?_
    refine q_bipush d_X12_putsVillages_23 rfl ?_
    refine q_icmp_ge d_X12_putsVillages_25 h_x1 (inr_d rfl) (fun c37 => ?_) (fun c37 => ?_)
    · refine q_aload_n d_X12_putsVillages_28 rfl ?_
      refine q_getR (n := 1) d_X12_putsVillages_29 hA.1 fi_12_7 rfl (Nat.le_of_ble_eq_true rfl) ?_
      refine q_sipush d_X12_putsVillages_32 rfl ?_
      refine q_iload_n (x := x1) d_X12_putsVillages_35 rfl ?_
      refine q_iadd d_X12_putsVillages_36 ?_
      refine q_iconst d_X12_putsVillages_37 ?_
      refine q_iastore (m := 1732) d_X12_putsVillages_38 hA.2.1 (by decide) rfl (inr_b (Or.inl rfl)) w_s0 (fun g38 s39 w_s39 => ?_)
      refine q_aload_n d_X12_putsVillages_39 rfl ?_
      refine q_getR (n := 1) d_X12_putsVillages_40 hA.1 fi_12_7 rfl (Nat.le_of_ble_eq_true rfl) ?_
      refine q_sipush d_X12_putsVillages_43 rfl ?_
      refine q_iload_n (x := x1) d_X12_putsVillages_46 rfl ?_
      refine q_iadd d_X12_putsVillages_47 ?_
      refine q_iconst d_X12_putsVillages_48 ?_
      refine q_iastore (m := 1732) d_X12_putsVillages_49 hA.2.1 (by decide) rfl (inr_b (Or.inl rfl)) w_s39 (fun g40 s41 w_s41 => ?_)
      refine q_iinc (x := x1) d_X12_putsVillages_50 rfl rfl ?_
      refine q_goto d_X12_putsVillages_53 ?_
      refine q_sub (ls' := [some (vr κ a), some (vi (wr (x1 + 1))), none, none]) ⟨rfl, rfl, trivial⟩ ?_
      exact ih (wr (x1 + 1)) (inr_wr _) s41 w_s41
    · refine q_sub (ls' := [some (vr κ a), none, none, none]) ⟨rfl, trivial⟩ ?_
      exact hk56 s0 w_s0
set_option maxHeartbeats 4000000 in
set_option maxRecDepth 10000 in
theorem c_X12_putsVillages (κ : Kp) (a : Nat) (hA : At12 κ a) (s0 : Mem) : ∀ r σ', f_X12_putsVillages a s0 = some (r, σ') → Ct κ M_X12_putsVillages R_X12_putsVillages [vr κ a] s0 r σ' := by
  intro r σ' ho
  refine Ct.of (by decide) (Nat.le_of_ble_eq_true rfl) (cat_ok rfl) (fun w_s0 => ?_) ⟨rfl, rfl⟩
  refine q_ent (ls' := [some (vr κ a), none, none, none]) (o := f_X12_putsVillages a s0) ⟨rfl, trivial⟩ ?_ ho
  unfold f_X12_putsVillages
  refine q_aload_n d_X12_putsVillages_0 rfl ?_
  refine q_getR (n := 1) d_X12_putsVillages_1 hA.1 fi_12_7 rfl (Nat.le_of_ble_eq_true rfl) ?_
  refine q_bipush d_X12_putsVillages_4 rfl ?_
  refine q_aload_n d_X12_putsVillages_6 rfl ?_
  refine q_getI (k := 15) (j := 15) d_X12_putsVillages_7 hA.1 fi_12_251 rfl rfl ?_
  refine q_iastore (m := 1732) d_X12_putsVillages_10 hA.2.1 (by decide) rfl (w_s0 _ _) w_s0 (fun g1 s2 w_s2 => ?_)
  refine q_aload_n d_X12_putsVillages_11 rfl ?_
  refine q_getR (n := 1) d_X12_putsVillages_12 hA.1 fi_12_7 rfl (Nat.le_of_ble_eq_true rfl) ?_
  refine q_sipush d_X12_putsVillages_15 rfl ?_
  refine q_iconst d_X12_putsVillages_18 ?_
  refine q_iastore (m := 1732) d_X12_putsVillages_19 hA.2.1 (by decide) rfl (inr_b (Or.inl rfl)) w_s2 (fun g3 s4 w_s4 => ?_)
  refine q_iconst d_X12_putsVillages_20 ?_
  refine q_istore_n d_X12_putsVillages_21 rfl ?_
  refine q_jn (α := Mem → Res) (fun j56 => ∀ (s5 : Mem) (w_s5 : WF s5), EO κ M_X12_putsVillages R_X12_putsVillages 56 [some (vr κ a), none, none, none] [] s5 (j56 s5)) ?_ (fun j56 hj56 => ?_)
  · intro s5 w_s5
    refine q_iconst d_X12_putsVillages_56 ?_
    refine q_istore_n d_X12_putsVillages_57 rfl ?_
    refine q_jn (α := Mem → Res) (fun j181 => ∀ (s6 : Mem) (w_s6 : WF s6), EO κ M_X12_putsVillages R_X12_putsVillages 181 [some (vr κ a), none, none, none] [] s6 (j181 s6)) ?_ (fun j181 hj181 => ?_)
    · intro s6 w_s6
      refine q_iconst d_X12_putsVillages_181 ?_
      refine q_istore_n d_X12_putsVillages_182 rfl ?_
      refine q_jn (α := Mem → Res) (fun j235 => ∀ (s7 : Mem) (w_s7 : WF s7), EO κ M_X12_putsVillages R_X12_putsVillages 235 [some (vr κ a), none, none, none] [] s7 (j235 s7)) ?_ (fun j235 hj235 => ?_)
      · intro s7 w_s7
        refine q_aload_n d_X12_putsVillages_235 rfl ?_
        refine q_getI (k := 15) (j := 15) d_X12_putsVillages_236 hA.1 fi_12_251 rfl rfl ?_
        exact q_ireti d_X12_putsVillages_239 rfl (w_s7 _ _) w_s7
      refine q_sub (ls' := [some (vr κ a), some (vi 0), none, none]) ⟨rfl, rfl, trivial⟩ ?_
      exact l_X12_putsVillages_183 κ a hA j235 hj235 FU 0 (inr_b (Or.inl rfl)) s6 w_s6
    refine q_sub (ls' := [some (vr κ a), some (vi 0), none, none]) ⟨rfl, rfl, trivial⟩ ?_
    exact l_X12_putsVillages_58 κ a hA j181 hj181 FU 0 (inr_b (Or.inl rfl)) s5 w_s5
  refine q_sub (ls' := [some (vr κ a), some (vi 0), none, none]) ⟨rfl, rfl, trivial⟩ ?_
  exact l_X12_putsVillages_22 κ a hA j56 hj56 FU 0 (inr_b (Or.inl rfl)) s4 w_s4
abbrev R_X12_putsText : Room := { frames := 3, cells := 0, slots := 0, locals := 66 }
noncomputable def f_X12_putsText (a : Nat) (x1 : Int) (s0 : Mem) : Res :=
  if x1 = 0 then (bd (f_X12_putsLaw a s0) fun r2 s3 => some (r2, s3)) else (if x1 = 3 then (bd (f_X12_putsVillages a s0) fun r5 s6 => some (r5, s6)) else (bd (f_X12_forgets a s0) fun r7 s8 => if x1 = 1 then (bd (f_X12_puts a 60 101 2 s8) fun r10 s11 => some (r10, s11)) else (bd (f_X12_puts a 61 133 4 s8) fun r12 s13 => some (r12, s13))))
set_option maxHeartbeats 4000000 in
set_option maxRecDepth 10000 in
theorem c_X12_putsText (κ : Kp) (a : Nat) (hA : At12 κ a) (x1 : Int) (h_x1 : InR x1) (s0 : Mem) : ∀ r σ', f_X12_putsText a x1 s0 = some (r, σ') → Ct κ M_X12_putsText R_X12_putsText [vr κ a, vi x1] s0 r σ' := by
  intro r σ' ho
  refine Ct.of (by decide) (Nat.le_of_ble_eq_true rfl) (cat_ok rfl) (fun w_s0 => ?_) ⟨rfl, rfl⟩
  refine q_ent (ls' := [some (vr κ a), some (vi x1)]) (o := f_X12_putsText a x1 s0) ⟨rfl, rfl, trivial⟩ ?_ ho
  unfold f_X12_putsText
  refine q_iload_n (x := x1) d_X12_putsText_0 rfl ?_
  refine q_if_ne d_X12_putsText_1 h_x1 (fun c1 => ?_) (fun c1 => ?_)
  · refine q_aload_n d_X12_putsText_4 rfl ?_
    refine q_callI (R' := R_X12_putsLaw) (runV (As := []) (rest := []) d_X12_putsText_5.1 cv_12_276 rfl hA.1 rfl rfl ⟨rfl, rfl, by decide, by decide⟩ (Nat.le_of_ble_eq_true rfl) w_s0 rfl) d_X12_putsText_5.2 (c_X12_putsLaw κ a hA s0) rfl (fun r2 s3 h_r2 w_s3 => ?_)
    exact q_ireti d_X12_putsText_8 rfl h_r2 w_s3
  · refine q_iload_n (x := x1) d_X12_putsText_9 rfl ?_
    refine q_iconst d_X12_putsText_10 ?_
    refine q_icmp_ne d_X12_putsText_11 h_x1 (inr_d rfl) (fun c4 => ?_) (fun c4 => ?_)
    · refine q_aload_n d_X12_putsText_14 rfl ?_
      refine q_callI (R' := R_X12_putsVillages) (runV (As := []) (rest := []) d_X12_putsText_15.1 cv_12_279 rfl hA.1 rfl rfl ⟨rfl, rfl, by decide, by decide⟩ (Nat.le_of_ble_eq_true rfl) w_s0 rfl) d_X12_putsText_15.2 (c_X12_putsVillages κ a hA s0) rfl (fun r5 s6 h_r5 w_s6 => ?_)
      exact q_ireti d_X12_putsText_18 rfl h_r5 w_s6
    · refine q_aload_n d_X12_putsText_19 rfl ?_
      refine q_callV (R' := R_X12_forgets) (runV (As := []) (rest := []) d_X12_putsText_20.1 cv_12_71 rfl hA.1 rfl rfl ⟨rfl, rfl, by decide, by decide⟩ (Nat.le_of_ble_eq_true rfl) w_s0 rfl) d_X12_putsText_20.2 (c_X12_forgets κ a hA s0) rfl (fun r7 s8 w_s8 => ?_)
      refine q_iload_n (x := x1) d_X12_putsText_23 rfl ?_
      refine q_iconst d_X12_putsText_24 ?_
      refine q_icmp_ne d_X12_putsText_25 h_x1 (inr_b (Or.inr rfl)) (fun c9 => ?_) (fun c9 => ?_)
      · refine q_aload_n d_X12_putsText_28 rfl ?_
        refine q_bipush d_X12_putsText_29 rfl ?_
        refine q_bipush d_X12_putsText_31 rfl ?_
        refine q_iconst d_X12_putsText_33 ?_
        refine q_callI (R' := R_X12_puts) (runV (As := [vi 60, vi 101, vi 2]) (rest := []) d_X12_putsText_34.1 cv_12_282 rfl hA.1 rfl rfl ⟨rfl, rfl, by decide, by decide⟩ (Nat.le_of_ble_eq_true rfl) w_s8 rfl) d_X12_putsText_34.2 (c_X12_puts κ a hA 60 (inr_d rfl) 101 (inr_d rfl) 2 (inr_d rfl) s8) rfl (fun r10 s11 h_r10 w_s11 => ?_)
        refine q_goto d_X12_putsText_37 ?_
        exact q_ireti d_X12_putsText_50 rfl h_r10 w_s11
      · refine q_aload_n d_X12_putsText_40 rfl ?_
        refine q_bipush d_X12_putsText_41 rfl ?_
        refine q_sipush d_X12_putsText_43 rfl ?_
        refine q_iconst d_X12_putsText_46 ?_
        refine q_callI (R' := R_X12_puts) (runV (As := [vi 61, vi 133, vi 4]) (rest := []) d_X12_putsText_47.1 cv_12_282 rfl hA.1 rfl rfl ⟨rfl, rfl, by decide, by decide⟩ (Nat.le_of_ble_eq_true rfl) w_s8 rfl) d_X12_putsText_47.2 (c_X12_puts κ a hA 61 (inr_d rfl) 133 (inr_d rfl) 4 (inr_d rfl) s8) rfl (fun r12 s13 h_r12 w_s13 => ?_)
        exact q_ireti d_X12_putsText_50 rfl h_r12 w_s13
abbrev R_X12_text : Room := { frames := 53, cells := 0, slots := 0, locals := 1835 }
noncomputable def f_X12_text (a : Nat) (x1 : Int) (s0 : Mem) : Res :=
  lm (mup s0 a 23 0) fun s1 => lm (mup s1 a 25 (-1)) fun s2 => bd (f_X12_isIn x1 0 3 s2) fun r3 s4 => if r3 = 0 then (lm (mup s4 a 16 0) fun s6 => some ((-1), s6)) else (lm (mup s4 a 21 0) fun s7 => lm (mup s7 a 17 0) fun s8 => lm (mup s8 a 12 x1) fun s9 => bd (f_X12_next0 a s9) fun r10 s11 => jn (fun (y12 : Int) (s13 : Mem) => lm (mup s13 a 16 0) fun s14 => if y12 = 0 then (lm (mup s14 a 23 (s14 a 21)) fun s16 => lm (mup s16 a 25 (s16 a 22)) fun s17 => some ((-1), s17)) else (bd (f_X12_putsText a x1 s14) fun r18 s19 => some (r18, s19))) fun j60 => if x1 = 0 then (bd (f_X12_readsLaw a s11) fun r21 s22 => j60 r21 s22) else (bd (f_X12_readsRows a s11) fun r23 s24 => j60 r23 s24))
set_option maxHeartbeats 4000000 in
set_option maxRecDepth 10000 in
theorem c_X12_text (κ : Kp) (a : Nat) (hA : At12 κ a) (x1 : Int) (h_x1 : InR x1) (s0 : Mem) : ∀ r σ', f_X12_text a x1 s0 = some (r, σ') → Ct κ M_X12_text R_X12_text [vr κ a, vi x1] s0 r σ' := by
  intro r σ' ho
  refine Ct.of (by decide) (Nat.le_of_ble_eq_true rfl) (cat_ok rfl) (fun w_s0 => ?_) ⟨rfl, rfl⟩
  refine q_ent (ls' := [some (vr κ a), some (vi x1), none]) (o := f_X12_text a x1 s0) ⟨rfl, rfl, trivial⟩ ?_ ho
  unfold f_X12_text
  refine q_aload_n d_X12_text_0 rfl ?_
  refine q_iconst d_X12_text_1 ?_
  refine q_putI (k := 23) (j := 23) d_X12_text_2 hA.1 fp_12_286 rfl rfl (inr_b (Or.inl rfl)) w_s0 (fun s1 w_s1 => ?_)
  refine q_aload_n d_X12_text_5 rfl ?_
  refine q_iconst d_X12_text_6 ?_
  refine q_putI (k := 25) (j := 25) d_X12_text_7 hA.1 fp_12_40 rfl rfl (inr_d rfl) w_s1 (fun s2 w_s2 => ?_)
  refine q_iload_n (x := x1) d_X12_text_10 rfl ?_
  refine q_iconst d_X12_text_11 ?_
  refine q_iconst d_X12_text_12 ?_
  refine q_callZ (R' := R_X12_isIn) (runS (As := [vi x1, vi 0, vi 3]) (rest := []) d_X12_text_13.1 cv_12_60 rfl ⟨rfl, rfl, by decide, by decide⟩ (Nat.le_of_ble_eq_true rfl) w_s2 rfl) d_X12_text_13.2 (c_X12_isIn κ x1 h_x1 0 (inr_b (Or.inl rfl)) 3 (inr_d rfl) s2) rfl (fun r3 s4 h_r3 w_s4 => ?_)
  refine q_if_ne d_X12_text_16 (inr_b h_r3) (fun c5 => ?_) (fun c5 => ?_)
  · refine q_aload_n d_X12_text_19 rfl ?_
    refine q_iconst d_X12_text_20 ?_
    refine q_putI (k := 16) (j := 16) d_X12_text_21 hA.1 fp_12_85 rfl rfl (inr_b (Or.inl rfl)) w_s4 (fun s6 w_s6 => ?_)
    refine q_iconst d_X12_text_24 ?_
    exact q_ireti d_X12_text_25 rfl (inr_d rfl) w_s6
  · refine q_aload_n d_X12_text_26 rfl ?_
    refine q_iconst d_X12_text_27 ?_
    refine q_putI (k := 21) (j := 21) d_X12_text_28 hA.1 fp_12_195 rfl rfl (inr_b (Or.inl rfl)) w_s4 (fun s7 w_s7 => ?_)
    refine q_aload_n d_X12_text_31 rfl ?_
    refine q_iconst d_X12_text_32 ?_
    refine q_putI (k := 17) (j := 17) d_X12_text_33 hA.1 fp_12_88 rfl rfl (inr_b (Or.inl rfl)) w_s7 (fun s8 w_s8 => ?_)
    refine q_aload_n d_X12_text_36 rfl ?_
    refine q_iload_n (x := x1) d_X12_text_37 rfl ?_
    refine q_putI (k := 12) (j := 12) d_X12_text_38 hA.1 fp_12_160 rfl rfl h_x1 w_s8 (fun s9 w_s9 => ?_)
    refine q_aload_n d_X12_text_41 rfl ?_
    refine q_callV (R' := R_X12_next0) (runV (As := []) (rest := []) d_X12_text_42.1 cv_12_204 rfl hA.1 rfl rfl ⟨rfl, rfl, by decide, by decide⟩ (Nat.le_of_ble_eq_true rfl) w_s9 rfl) d_X12_text_42.2 (c_X12_next0 κ a hA s9) rfl (fun r10 s11 w_s11 => ?_)
    refine q_iload_n (x := x1) d_X12_text_45 rfl ?_
    refine q_jn (α := Int → Mem → Res) (fun j60 => ∀ (y12 : Int) (h_y12 : y12 = 0 ∨ y12 = 1) (s13 : Mem) (w_s13 : WF s13), EO κ M_X12_text R_X12_text 60 [some (vr κ a), some (vi x1), none] [vi y12] s13 (j60 y12 s13)) ?_ (fun j60 hj60 => ?_)
    · intro y12 h_y12 s13 w_s13
      refine q_istore_n d_X12_text_60 rfl ?_
      refine q_aload_n d_X12_text_61 rfl ?_
      refine q_iconst d_X12_text_62 ?_
      refine q_putI (k := 16) (j := 16) d_X12_text_63 hA.1 fp_12_85 rfl rfl (inr_b (Or.inl rfl)) w_s13 (fun s14 w_s14 => ?_)
      refine q_iload_n (x := y12) d_X12_text_66 rfl ?_
      refine q_if_eq d_X12_text_67 (inr_b h_y12) (fun c15 => ?_) (fun c15 => ?_)
      · refine q_aload_n d_X12_text_76 rfl ?_
        refine q_aload_n d_X12_text_77 rfl ?_
        refine q_getI (k := 21) (j := 21) d_X12_text_78 hA.1 fi_12_195 rfl rfl ?_
        refine q_putI (k := 23) (j := 23) d_X12_text_81 hA.1 fp_12_286 rfl rfl (w_s14 _ _) w_s14 (fun s16 w_s16 => ?_)
        refine q_aload_n d_X12_text_84 rfl ?_
        refine q_aload_n d_X12_text_85 rfl ?_
        refine q_getI (k := 22) (j := 22) d_X12_text_86 hA.1 fi_12_198 rfl rfl ?_
        refine q_putI (k := 25) (j := 25) d_X12_text_89 hA.1 fp_12_40 rfl rfl (w_s16 _ _) w_s16 (fun s17 w_s17 => ?_)
        refine q_iconst d_X12_text_92 ?_
        exact q_ireti d_X12_text_93 rfl (inr_d rfl) w_s17
      · refine q_aload_n d_X12_text_70 rfl ?_
        refine q_iload_n (x := x1) d_X12_text_71 rfl ?_
        refine q_callI (R' := R_X12_putsText) (runV (As := [vi x1]) (rest := []) d_X12_text_72.1 cv_12_295 rfl hA.1 rfl rfl ⟨rfl, rfl, by decide, by decide⟩ (Nat.le_of_ble_eq_true rfl) w_s14 rfl) d_X12_text_72.2 (c_X12_putsText κ a hA x1 h_x1 s14) rfl (fun r18 s19 h_r18 w_s19 => ?_)
        exact q_ireti d_X12_text_75 rfl h_r18 w_s19
    refine q_if_ne d_X12_text_46 h_x1 (fun c20 => ?_) (fun c20 => ?_)
    · refine q_aload_n d_X12_text_49 rfl ?_
      refine q_callZ (R' := R_X12_readsLaw) (runV (As := []) (rest := []) d_X12_text_50.1 cv_12_289 rfl hA.1 rfl rfl ⟨rfl, rfl, by decide, by decide⟩ (Nat.le_of_ble_eq_true rfl) w_s11 rfl) d_X12_text_50.2 (c_X12_readsLaw κ a hA s11) rfl (fun r21 s22 h_r21 w_s22 => ?_)
      refine q_goto d_X12_text_53 ?_
      refine q_sub (ls' := [some (vr κ a), some (vi x1), none]) ⟨rfl, rfl, trivial⟩ ?_
      exact hj60 r21 h_r21 s22 w_s22
    · refine q_aload_n d_X12_text_56 rfl ?_
      refine q_callZ (R' := R_X12_readsRows) (runV (As := []) (rest := []) d_X12_text_57.1 cv_12_292 rfl hA.1 rfl rfl ⟨rfl, rfl, by decide, by decide⟩ (Nat.le_of_ble_eq_true rfl) w_s11 rfl) d_X12_text_57.2 (c_X12_readsRows κ a hA s11) rfl (fun r23 s24 h_r23 w_s24 => ?_)
      refine q_sub (ls' := [some (vr κ a), some (vi x1), none]) ⟨rfl, rfl, trivial⟩ ?_
      exact hj60 r23 h_r23 s24 w_s24
abbrev R_X12_fault : Room := { frames := 0, cells := 0, slots := 0, locals := 0 }
noncomputable def f_X12_fault (a : Nat) (x1 : Int) (s0 : Mem) : Res :=
  if x1 = 0 then (some (s0 a 23, s0)) else (if x1 = 1 then (some (s0 a 25, s0)) else (some ((-1), s0)))
set_option maxHeartbeats 4000000 in
set_option maxRecDepth 10000 in
theorem c_X12_fault (κ : Kp) (a : Nat) (hA : At12 κ a) (x1 : Int) (h_x1 : InR x1) (s0 : Mem) : ∀ r σ', f_X12_fault a x1 s0 = some (r, σ') → Ct κ M_X12_fault R_X12_fault [vr κ a, vi x1] s0 r σ' := by
  intro r σ' ho
  refine Ct.of (by decide) (Nat.le_of_ble_eq_true rfl) (cat_ok rfl) (fun w_s0 => ?_) ⟨rfl, rfl⟩
  refine q_ent (ls' := [some (vr κ a), some (vi x1)]) (o := f_X12_fault a x1 s0) ⟨rfl, rfl, trivial⟩ ?_ ho
  unfold f_X12_fault
  refine q_iload_n (x := x1) d_X12_fault_0 rfl ?_
  refine q_if_ne d_X12_fault_1 h_x1 (fun c1 => ?_) (fun c1 => ?_)
  · refine q_aload_n d_X12_fault_4 rfl ?_
    refine q_getI (k := 23) (j := 23) d_X12_fault_5 hA.1 fi_12_286 rfl rfl ?_
    refine q_goto d_X12_fault_8 ?_
    exact q_ireti d_X12_fault_24 rfl (w_s0 _ _) w_s0
  · refine q_iload_n (x := x1) d_X12_fault_11 rfl ?_
    refine q_iconst d_X12_fault_12 ?_
    refine q_icmp_ne d_X12_fault_13 h_x1 (inr_b (Or.inr rfl)) (fun c2 => ?_) (fun c2 => ?_)
    · refine q_aload_n d_X12_fault_16 rfl ?_
      refine q_getI (k := 25) (j := 25) d_X12_fault_17 hA.1 fi_12_40 rfl rfl ?_
      refine q_goto d_X12_fault_20 ?_
      exact q_ireti d_X12_fault_24 rfl (w_s0 _ _) w_s0
    · refine q_iconst d_X12_fault_23 ?_
      exact q_ireti d_X12_fault_24 rfl (inr_d rfl) w_s0
abbrev R_X12_both : Room := { frames := 0, cells := 0, slots := 0, locals := 0 }
noncomputable def f_X12_both (x0 : Int) (x1 : Int) (x2 : Int) (s0 : Mem) : Res :=
  if x0 = 23 then (some (wr (x1 + x2), s0)) else (if x0 = 24 then (some (wr (x1 - x2), s0)) else (if x0 = 25 then (some (wr (x1 * x2), s0)) else (if x0 = 26 then (some (ior x1 x2, s0)) else (if x0 = 27 then (if x1 < x2 then (some (1, s0)) else (some (0, s0))) else (if x0 = 28 then (if x1 = x2 then (some (1, s0)) else (some (0, s0))) else (if x0 = 29 then (if x2 < x1 then (some (1, s0)) else (some (0, s0))) else (if x0 = 30 then (some (ior x1 x2, s0)) else (if x0 = 31 then (some (iand x1 x2, s0)) else (some (ior x1 x2, s0))))))))))
set_option maxHeartbeats 4000000 in
set_option maxRecDepth 10000 in
theorem c_X12_both (κ : Kp) (x0 : Int) (h_x0 : InR x0) (x1 : Int) (h_x1 : InR x1) (x2 : Int) (h_x2 : InR x2) (s0 : Mem) : ∀ r σ', f_X12_both x0 x1 x2 s0 = some (r, σ') → Ct κ M_X12_both R_X12_both [vi x0, vi x1, vi x2] s0 r σ' := by
  intro r σ' ho
  refine Ct.of (by decide) (Nat.le_of_ble_eq_true rfl) (cat_ok rfl) (fun w_s0 => ?_) ⟨rfl, rfl⟩
  refine q_ent (ls' := [some (vi x0), some (vi x1), some (vi x2)]) (o := f_X12_both x0 x1 x2 s0) ⟨rfl, rfl, rfl, trivial⟩ ?_ ho
  unfold f_X12_both
  refine q_iload_n (x := x0) d_X12_both_0 rfl ?_
  refine q_ite (fun c1 => ?_) (fun c1 => ?_)
  · refine q_tswC (tgt := 52) d_X12_both_1 h_x0 c1 (by decide) (by decide) rfl (by decide) ?_
    refine q_iload_n (x := x1) d_X12_both_52 rfl ?_
    refine q_iload_n (x := x2) d_X12_both_53 rfl ?_
    refine q_iadd d_X12_both_54 ?_
    exact q_ireti d_X12_both_55 rfl (inr_wr _) w_s0
  refine q_ite (fun c2 => ?_) (fun c2 => ?_)
  · refine q_tswC (tgt := 56) d_X12_both_1 h_x0 c2 (by decide) (by decide) rfl (by decide) ?_
    refine q_iload_n (x := x1) d_X12_both_56 rfl ?_
    refine q_iload_n (x := x2) d_X12_both_57 rfl ?_
    refine q_isub d_X12_both_58 ?_
    exact q_ireti d_X12_both_59 rfl (inr_wr _) w_s0
  refine q_ite (fun c3 => ?_) (fun c3 => ?_)
  · refine q_tswC (tgt := 60) d_X12_both_1 h_x0 c3 (by decide) (by decide) rfl (by decide) ?_
    refine q_iload_n (x := x1) d_X12_both_60 rfl ?_
    refine q_iload_n (x := x2) d_X12_both_61 rfl ?_
    refine q_imul d_X12_both_62 ?_
    exact q_ireti d_X12_both_63 rfl (inr_wr _) w_s0
  refine q_ite (fun c4 => ?_) (fun c4 => ?_)
  · refine q_tswC (tgt := 101) d_X12_both_1 h_x0 c4 (by decide) (by decide) rfl (by decide) ?_
    refine q_iload_n (x := x1) d_X12_both_101 rfl ?_
    refine q_iload_n (x := x2) d_X12_both_102 rfl ?_
    refine q_ior d_X12_both_103 ?_
    exact q_ireti d_X12_both_104 rfl (inr_i32 _) w_s0
  refine q_ite (fun c5 => ?_) (fun c5 => ?_)
  · refine q_tswC (tgt := 64) d_X12_both_1 h_x0 c5 (by decide) (by decide) rfl (by decide) ?_
    refine q_iload_n (x := x1) d_X12_both_64 rfl ?_
    refine q_iload_n (x := x2) d_X12_both_65 rfl ?_
    refine q_icmp_ge d_X12_both_66 h_x1 h_x2 (fun c6 => ?_) (fun c6 => ?_)
    · refine q_iconst d_X12_both_69 ?_
      refine q_goto d_X12_both_70 ?_
      exact q_ireti d_X12_both_74 rfl (inr_b (Or.inr rfl)) w_s0
    · refine q_iconst d_X12_both_73 ?_
      exact q_ireti d_X12_both_74 rfl (inr_b (Or.inl rfl)) w_s0
  refine q_ite (fun c7 => ?_) (fun c7 => ?_)
  · refine q_tswC (tgt := 75) d_X12_both_1 h_x0 c7 (by decide) (by decide) rfl (by decide) ?_
    refine q_iload_n (x := x1) d_X12_both_75 rfl ?_
    refine q_iload_n (x := x2) d_X12_both_76 rfl ?_
    refine q_icmp_ne d_X12_both_77 h_x1 h_x2 (fun c8 => ?_) (fun c8 => ?_)
    · refine q_iconst d_X12_both_80 ?_
      refine q_goto d_X12_both_81 ?_
      exact q_ireti d_X12_both_85 rfl (inr_b (Or.inr rfl)) w_s0
    · refine q_iconst d_X12_both_84 ?_
      exact q_ireti d_X12_both_85 rfl (inr_b (Or.inl rfl)) w_s0
  refine q_ite (fun c9 => ?_) (fun c9 => ?_)
  · refine q_tswC (tgt := 86) d_X12_both_1 h_x0 c9 (by decide) (by decide) rfl (by decide) ?_
    refine q_iload_n (x := x1) d_X12_both_86 rfl ?_
    refine q_iload_n (x := x2) d_X12_both_87 rfl ?_
    refine q_icmp_le d_X12_both_88 h_x1 h_x2 (fun c10 => ?_) (fun c10 => ?_)
    · refine q_iconst d_X12_both_91 ?_
      refine q_goto d_X12_both_92 ?_
      exact q_ireti d_X12_both_96 rfl (inr_b (Or.inr rfl)) w_s0
    · refine q_iconst d_X12_both_95 ?_
      exact q_ireti d_X12_both_96 rfl (inr_b (Or.inl rfl)) w_s0
  refine q_ite (fun c11 => ?_) (fun c11 => ?_)
  · refine q_tswC (tgt := 101) d_X12_both_1 h_x0 c11 (by decide) (by decide) rfl (by decide) ?_
    refine q_iload_n (x := x1) d_X12_both_101 rfl ?_
    refine q_iload_n (x := x2) d_X12_both_102 rfl ?_
    refine q_ior d_X12_both_103 ?_
    exact q_ireti d_X12_both_104 rfl (inr_i32 _) w_s0
  refine q_ite (fun c12 => ?_) (fun c12 => ?_)
  · refine q_tswC (tgt := 97) d_X12_both_1 h_x0 c12 (by decide) (by decide) rfl (by decide) ?_
    refine q_iload_n (x := x1) d_X12_both_97 rfl ?_
    refine q_iload_n (x := x2) d_X12_both_98 rfl ?_
    refine q_iand d_X12_both_99 ?_
    exact q_ireti d_X12_both_100 rfl (inr_i32 _) w_s0
  refine q_tswD (tgt := 101) d_X12_both_1 h_x0 (by omega) (by decide) ?_
  refine q_iload_n (x := x1) d_X12_both_101 rfl ?_
  refine q_iload_n (x := x2) d_X12_both_102 rfl ?_
  refine q_ior d_X12_both_103 ?_
  exact q_ireti d_X12_both_104 rfl (inr_i32 _) w_s0
abbrev R_X12_comesTo : Room := { frames := 1, cells := 0, slots := 0, locals := 22 }
noncomputable def f_X12_comesTo_6 (a : Nat) (p1 : Int) (p3 : Int) (k186 : Mem → Res) : Nat → Int → Int → Mem → Res
  | 0, _, _, _ => none
  | n + 1, x4, x5, s0 =>
    if x5 < p3 then (gd ((0 : Int) ≤ wr ((wr (912 + (wr (820 * p1)))) + (wr (2 * x5))) ∧ wr ((wr (912 + (wr (820 * p1)))) + (wr (2 * x5))) < 1732) (gd ((0 : Int) ≤ wr ((wr ((wr (912 + (wr (820 * p1)))) + (wr (2 * x5)))) + 1) ∧ wr ((wr ((wr (912 + (wr (820 * p1)))) + (wr (2 * x5)))) + 1) < 1732) (lt (s0 (a + 1) (wr ((wr ((wr (912 + (wr (820 * p1)))) + (wr (2 * x5)))) + 1))) fun v6 => jn (fun (v7 : Int) (s8 : Mem) => f_X12_comesTo_6 a p1 p3 k186 n v7 (wr (x5 + 1)) s8) fun j180 => if s0 (a + 1) (wr ((wr (912 + (wr (820 * p1)))) + (wr (2 * x5)))) < 23 then (jn (fun (y10 : Int) => gd ((0 : Int) ≤ x4 ∧ x4 < 420) (lm (mup s0 (a + 9) x4 y10) fun s12 => j180 (wr (x4 + 1)) s12)) fun j86 => if s0 (a + 1) (wr ((wr (912 + (wr (820 * p1)))) + (wr (2 * x5)))) = 0 then (j86 v6) else (gd ((0 : Int) ≤ s0 (a + 1) (wr ((wr (912 + (wr (820 * p1)))) + (wr (2 * x5)))) ∧ s0 (a + 1) (wr ((wr (912 + (wr (820 * p1)))) + (wr (2 * x5)))) < 11) (j86 (s0 (a + 10) (s0 (a + 1) (wr ((wr (912 + (wr (820 * p1)))) + (wr (2 * x5))))))))) else (if s0 (a + 1) (wr ((wr (912 + (wr (820 * p1)))) + (wr (2 * x5)))) = 26 then (gd ((0 : Int) ≤ wr (x4 - 1) ∧ wr (x4 - 1) < 420) (gd (v6 ≠ 0) (gd ((0 : Int) ≤ wr (x4 - 1) ∧ wr (x4 - 1) < 420) (lm (mup s0 (a + 9) (wr (x4 - 1)) (wr (Int.tdiv (s0 (a + 9) (wr (x4 - 1))) v6))) fun s19 => j180 x4 s19)))) else (if s0 (a + 1) (wr ((wr (912 + (wr (820 * p1)))) + (wr (2 * x5)))) = 30 then (gd ((0 : Int) ≤ wr (x4 - 1) ∧ wr (x4 - 1) < 420) (gd ((0 : Int) ≤ wr (x4 - 1) ∧ wr (x4 - 1) < 420) (lm (mup s0 (a + 9) (wr (x4 - 1)) (wr (1 - (s0 (a + 9) (wr (x4 - 1)))))) fun s23 => j180 x4 s23))) else (gd ((0 : Int) ≤ wr ((wr (x4 + (-1))) - 1) ∧ wr ((wr (x4 + (-1))) - 1) < 420) (gd ((0 : Int) ≤ wr (x4 + (-1)) ∧ wr (x4 + (-1)) < 420) (bd (f_X12_both (s0 (a + 1) (wr ((wr (912 + (wr (820 * p1)))) + (wr (2 * x5))))) (s0 (a + 9) (wr ((wr (x4 + (-1))) - 1))) (s0 (a + 9) (wr (x4 + (-1)))) s0) fun r26 s27 => gd ((0 : Int) ≤ wr ((wr (x4 + (-1))) - 1) ∧ wr ((wr (x4 + (-1))) - 1) < 420) (lm (mup s27 (a + 9) (wr ((wr (x4 + (-1))) - 1)) r26) fun s29 => j180 (wr (x4 + (-1))) s29))))))))) else (k186 s0)
noncomputable def f_X12_comesTo (a : Nat) (x1 : Int) (x2 : Int) (x3 : Int) (s0 : Mem) : Res :=
  jn (fun (s1 : Mem) => gd ((0 : Int) ≤ 0 ∧ (0 : Int) < 420) (some (s1 (a + 9) 0, s1))) fun j186 => f_X12_comesTo_6 a x1 x3 j186 FU 0 x2 s0
set_option maxHeartbeats 4000000 in
set_option maxRecDepth 10000 in
theorem l_X12_comesTo_6 (κ : Kp) (a : Nat) (hA : At12 κ a) (p1 : Int) (h_p1 : InR p1) (p3 : Int) (h_p3 : InR p3) (k186 : Mem → Res) (hk186 : ∀ (sz : Mem) (w_sz : WF sz), EO κ M_X12_comesTo R_X12_comesTo 186 [some (vr κ a), none, none, none, none, none, none, none] [] sz (k186 sz)) : ∀ (n : Nat) (x4 : Int) (h_x4 : InR x4) (x5 : Int) (h_x5 : InR x5) (s0 : Mem) (w_s0 : WF s0), EO κ M_X12_comesTo R_X12_comesTo 6 [some (vr κ a), some (vi p1), none, some (vi p3), some (vi x4), some (vi x5), none, none] [] s0 (f_X12_comesTo_6 a p1 p3 k186 n x4 x5 s0) := by
  intro n
  induction n with
  | zero => exact fun _ _ _ _ _ _ => q_none
  | succ n ih =>
    intro x4 h_x4 x5 h_x5 s0 w_s0
    rw [f_X12_comesTo_6]
    refine q_iload (x := x5) d_X12_comesTo_6 rfl ?_
    refine q_iload_n (x := p3) d_X12_comesTo_8 rfl ?_
    refine q_icmp_ge d_X12_comesTo_9 h_x5 h_p3 (fun c3 => ?_) (fun c3 => ?_)
    · refine q_aload_n d_X12_comesTo_12 rfl ?_
      refine q_getR (n := 1) d_X12_comesTo_13 hA.1 fi_12_7 rfl (Nat.le_of_ble_eq_true rfl) ?_
      refine q_sipush d_X12_comesTo_16 rfl ?_
      refine q_sipush d_X12_comesTo_19 rfl ?_
      refine q_iload_n (x := p1) d_X12_comesTo_22 rfl ?_
      refine q_imul d_X12_comesTo_23 ?_
      refine q_iadd d_X12_comesTo_24 ?_
      refine q_iconst d_X12_comesTo_25 ?_
      refine q_iload (x := x5) d_X12_comesTo_26 rfl ?_
      refine q_imul d_X12_comesTo_28 ?_
      refine q_iadd d_X12_comesTo_29 ?_
      refine q_iaload (m := 1732) d_X12_comesTo_30 hA.2.1 (by decide) rfl (fun g4 => ?_)
      refine q_istore d_X12_comesTo_31 rfl ?_
      refine q_aload_n d_X12_comesTo_33 rfl ?_
      refine q_getR (n := 1) d_X12_comesTo_34 hA.1 fi_12_7 rfl (Nat.le_of_ble_eq_true rfl) ?_
      refine q_sipush d_X12_comesTo_37 rfl ?_
      refine q_sipush d_X12_comesTo_40 rfl ?_
      refine q_iload_n (x := p1) d_X12_comesTo_43 rfl ?_
      refine q_imul d_X12_comesTo_44 ?_
      refine q_iadd d_X12_comesTo_45 ?_
      refine q_iconst d_X12_comesTo_46 ?_
      refine q_iload (x := x5) d_X12_comesTo_47 rfl ?_
      refine q_imul d_X12_comesTo_49 ?_
      refine q_iadd d_X12_comesTo_50 ?_
      refine q_iconst d_X12_comesTo_51 ?_
      refine q_iadd d_X12_comesTo_52 ?_
      refine q_iaload (m := 1732) d_X12_comesTo_53 hA.2.1 (by decide) rfl (fun g5 => ?_)
      refine q_lt (w_s0 _ _) (fun v6 h_v6 => ?_)
      refine q_istore d_X12_comesTo_54 rfl ?_
      refine q_iload (x := s0 (a + 1) (wr ((wr (912 + (wr (820 * p1)))) + (wr (2 * x5))))) d_X12_comesTo_56 rfl ?_
      refine q_bipush d_X12_comesTo_58 rfl ?_
      refine q_jn (α := Int → Mem → Res) (fun j180 => ∀ (v7 : Int) (h_v7 : InR v7) (s8 : Mem) (w_s8 : WF s8), EO κ M_X12_comesTo R_X12_comesTo 180 [some (vr κ a), some (vi p1), none, some (vi p3), some (vi v7), some (vi x5), none, none] [] s8 (j180 v7 s8)) ?_ (fun j180 hj180 => ?_)
      · intro v7 h_v7 s8 w_s8
        refine q_iinc (x := x5) d_X12_comesTo_180 rfl rfl ?_
        refine q_goto d_X12_comesTo_183 ?_
        refine q_sub (ls' := [some (vr κ a), some (vi p1), none, some (vi p3), some (vi v7), some (vi (wr (x5 + 1))), none, none]) ⟨rfl, rfl, rfl, rfl, rfl, trivial⟩ ?_
        exact ih v7 h_v7 (wr (x5 + 1)) (inr_wr _) s8 w_s8
      refine q_icmp_ge d_X12_comesTo_60 (w_s0 _ _) (inr_d rfl) (fun c9 => ?_) (fun c9 => ?_)
      · refine q_aload_n d_X12_comesTo_63 rfl ?_
        refine q_getR (n := 9) d_X12_comesTo_64 hA.1 fi_12_34 rfl (Nat.le_of_ble_eq_true rfl) ?_
        refine q_iload (x := x4) d_X12_comesTo_67 rfl ?_
        refine q_iload (x := s0 (a + 1) (wr ((wr (912 + (wr (820 * p1)))) + (wr (2 * x5))))) d_X12_comesTo_69 rfl ?_
        refine q_jn (α := Int → Res) (fun j86 => ∀ (y10 : Int) (h_y10 : InR y10), EO κ M_X12_comesTo R_X12_comesTo 86 [some (vr κ a), some (vi p1), none, some (vi p3), some (vi x4), some (vi x5), none, none] [vi y10, vi x4, vr κ (a + 9)] s0 (j86 y10)) ?_ (fun j86 hj86 => ?_)
        · intro y10 h_y10
          refine q_iastore (m := 420) d_X12_comesTo_86 hA.2.2.2.2.2.2.2.2.2.1 (by decide) rfl h_y10 w_s0 (fun g11 s12 w_s12 => ?_)
          refine q_iinc (x := x4) d_X12_comesTo_87 rfl rfl ?_
          refine q_goto d_X12_comesTo_90 ?_
          refine q_sub (ls' := [some (vr κ a), some (vi p1), none, some (vi p3), some (vi (wr (x4 + 1))), some (vi x5), none, none]) ⟨rfl, rfl, rfl, rfl, rfl, trivial⟩ ?_
          exact hj180 (wr (x4 + 1)) (inr_wr _) s12 w_s12
        refine q_if_ne d_X12_comesTo_71 (w_s0 _ _) (fun c13 => ?_) (fun c13 => ?_)
        · refine q_iload (x := v6) d_X12_comesTo_74 rfl ?_
          refine q_goto d_X12_comesTo_76 ?_
          refine q_sub (ls' := [some (vr κ a), some (vi p1), none, some (vi p3), some (vi x4), some (vi x5), none, none]) ⟨rfl, rfl, rfl, rfl, rfl, trivial⟩ ?_
          exact hj86 v6 h_v6
        · refine q_aload_n d_X12_comesTo_79 rfl ?_
          refine q_getR (n := 10) d_X12_comesTo_80 hA.1 fi_12_37 rfl (Nat.le_of_ble_eq_true rfl) ?_
          refine q_iload (x := s0 (a + 1) (wr ((wr (912 + (wr (820 * p1)))) + (wr (2 * x5))))) d_X12_comesTo_83 rfl ?_
          refine q_iaload (m := 11) d_X12_comesTo_85 hA.2.2.2.2.2.2.2.2.2.2.1 (by decide) rfl (fun g14 => ?_)
          refine q_sub (ls' := [some (vr κ a), some (vi p1), none, some (vi p3), some (vi x4), some (vi x5), none, none]) ⟨rfl, rfl, rfl, rfl, rfl, trivial⟩ ?_
          exact hj86 (s0 (a + 10) (s0 (a + 1) (wr ((wr (912 + (wr (820 * p1)))) + (wr (2 * x5)))))) (w_s0 _ _)
      · refine q_iload (x := s0 (a + 1) (wr ((wr (912 + (wr (820 * p1)))) + (wr (2 * x5))))) d_X12_comesTo_93 rfl ?_
        refine q_bipush d_X12_comesTo_95 rfl ?_
        refine q_icmp_ne d_X12_comesTo_97 (w_s0 _ _) (inr_d rfl) (fun c15 => ?_) (fun c15 => ?_)
        · refine q_aload_n d_X12_comesTo_100 rfl ?_
          refine q_getR (n := 9) d_X12_comesTo_101 hA.1 fi_12_34 rfl (Nat.le_of_ble_eq_true rfl) ?_
          refine q_iload (x := x4) d_X12_comesTo_104 rfl ?_
          refine q_iconst d_X12_comesTo_106 ?_
          refine q_isub d_X12_comesTo_107 ?_
          refine q_dup2 d_X12_comesTo_108 rfl rfl ?_
          refine q_iaload (m := 420) d_X12_comesTo_109 hA.2.2.2.2.2.2.2.2.2.1 (by decide) rfl (fun g16 => ?_)
          refine q_iload (x := v6) d_X12_comesTo_110 rfl ?_
          refine q_idiv d_X12_comesTo_112 (w_s0 _ _) h_v6 (fun g17 => ?_)
          refine q_iastore (m := 420) d_X12_comesTo_113 hA.2.2.2.2.2.2.2.2.2.1 (by decide) rfl (inr_wr _) w_s0 (fun g18 s19 w_s19 => ?_)
          refine q_goto d_X12_comesTo_114 ?_
          refine q_sub (ls' := [some (vr κ a), some (vi p1), none, some (vi p3), some (vi x4), some (vi x5), none, none]) ⟨rfl, rfl, rfl, rfl, rfl, trivial⟩ ?_
          exact hj180 x4 h_x4 s19 w_s19
        · refine q_iload (x := s0 (a + 1) (wr ((wr (912 + (wr (820 * p1)))) + (wr (2 * x5))))) d_X12_comesTo_117 rfl ?_
          refine q_bipush d_X12_comesTo_119 rfl ?_
          refine q_icmp_ne d_X12_comesTo_121 (w_s0 _ _) (inr_d rfl) (fun c20 => ?_) (fun c20 => ?_)
          · refine q_aload_n d_X12_comesTo_124 rfl ?_
            refine q_getR (n := 9) d_X12_comesTo_125 hA.1 fi_12_34 rfl (Nat.le_of_ble_eq_true rfl) ?_
            refine q_iload (x := x4) d_X12_comesTo_128 rfl ?_
            refine q_iconst d_X12_comesTo_130 ?_
            refine q_isub d_X12_comesTo_131 ?_
            refine q_iconst d_X12_comesTo_132 ?_
            refine q_aload_n d_X12_comesTo_133 rfl ?_
            refine q_getR (n := 9) d_X12_comesTo_134 hA.1 fi_12_34 rfl (Nat.le_of_ble_eq_true rfl) ?_
            refine q_iload (x := x4) d_X12_comesTo_137 rfl ?_
            refine q_iconst d_X12_comesTo_139 ?_
            refine q_isub d_X12_comesTo_140 ?_
            refine q_iaload (m := 420) d_X12_comesTo_141 hA.2.2.2.2.2.2.2.2.2.1 (by decide) rfl (fun g21 => ?_)
            refine q_isub d_X12_comesTo_142 ?_
            refine q_iastore (m := 420) d_X12_comesTo_143 hA.2.2.2.2.2.2.2.2.2.1 (by decide) rfl (inr_wr _) w_s0 (fun g22 s23 w_s23 => ?_)
            refine q_goto d_X12_comesTo_144 ?_
            refine q_sub (ls' := [some (vr κ a), some (vi p1), none, some (vi p3), some (vi x4), some (vi x5), none, none]) ⟨rfl, rfl, rfl, rfl, rfl, trivial⟩ ?_
            exact hj180 x4 h_x4 s23 w_s23
          · refine q_iinc (x := x4) d_X12_comesTo_147 rfl rfl ?_
            refine q_aload_n d_X12_comesTo_150 rfl ?_
            refine q_getR (n := 9) d_X12_comesTo_151 hA.1 fi_12_34 rfl (Nat.le_of_ble_eq_true rfl) ?_
            refine q_iload (x := wr (x4 + (-1))) d_X12_comesTo_154 rfl ?_
            refine q_iconst d_X12_comesTo_156 ?_
            refine q_isub d_X12_comesTo_157 ?_
            refine q_iload (x := s0 (a + 1) (wr ((wr (912 + (wr (820 * p1)))) + (wr (2 * x5))))) d_X12_comesTo_158 rfl ?_
            refine q_aload_n d_X12_comesTo_160 rfl ?_
            refine q_getR (n := 9) d_X12_comesTo_161 hA.1 fi_12_34 rfl (Nat.le_of_ble_eq_true rfl) ?_
            refine q_iload (x := wr (x4 + (-1))) d_X12_comesTo_164 rfl ?_
            refine q_iconst d_X12_comesTo_166 ?_
            refine q_isub d_X12_comesTo_167 ?_
            refine q_iaload (m := 420) d_X12_comesTo_168 hA.2.2.2.2.2.2.2.2.2.1 (by decide) rfl (fun g24 => ?_)
            refine q_aload_n d_X12_comesTo_169 rfl ?_
            refine q_getR (n := 9) d_X12_comesTo_170 hA.1 fi_12_34 rfl (Nat.le_of_ble_eq_true rfl) ?_
            refine q_iload (x := wr (x4 + (-1))) d_X12_comesTo_173 rfl ?_
            refine q_iaload (m := 420) d_X12_comesTo_175 hA.2.2.2.2.2.2.2.2.2.1 (by decide) rfl (fun g25 => ?_)
            refine q_callI (R' := R_X12_both) (runS (As := [vi (s0 (a + 1) (wr ((wr (912 + (wr (820 * p1)))) + (wr (2 * x5))))), vi (s0 (a + 9) (wr ((wr (x4 + (-1))) - 1))), vi (s0 (a + 9) (wr (x4 + (-1))))]) (rest := [vi (wr ((wr (x4 + (-1))) - 1)), vr κ (a + 9)]) d_X12_comesTo_176.1 cv_12_298 rfl ⟨rfl, rfl, by decide, by decide⟩ (Nat.le_of_ble_eq_true rfl) w_s0 rfl) d_X12_comesTo_176.2 (c_X12_both κ (s0 (a + 1) (wr ((wr (912 + (wr (820 * p1)))) + (wr (2 * x5))))) (w_s0 _ _) (s0 (a + 9) (wr ((wr (x4 + (-1))) - 1))) (w_s0 _ _) (s0 (a + 9) (wr (x4 + (-1)))) (w_s0 _ _) s0) rfl (fun r26 s27 h_r26 w_s27 => ?_)
            refine q_iastore (m := 420) d_X12_comesTo_179 hA.2.2.2.2.2.2.2.2.2.1 (by decide) rfl h_r26 w_s27 (fun g28 s29 w_s29 => ?_)
            refine q_sub (ls' := [some (vr κ a), some (vi p1), none, some (vi p3), some (vi (wr (x4 + (-1)))), some (vi x5), none, none]) ⟨rfl, rfl, rfl, rfl, rfl, trivial⟩ ?_
            exact hj180 (wr (x4 + (-1))) (inr_wr _) s29 w_s29
    · refine q_sub (ls' := [some (vr κ a), none, none, none, none, none, none, none]) ⟨rfl, trivial⟩ ?_
      exact hk186 s0 w_s0
set_option maxHeartbeats 4000000 in
set_option maxRecDepth 10000 in
theorem c_X12_comesTo (κ : Kp) (a : Nat) (hA : At12 κ a) (x1 : Int) (h_x1 : InR x1) (x2 : Int) (h_x2 : InR x2) (x3 : Int) (h_x3 : InR x3) (s0 : Mem) : ∀ r σ', f_X12_comesTo a x1 x2 x3 s0 = some (r, σ') → Ct κ M_X12_comesTo R_X12_comesTo [vr κ a, vi x1, vi x2, vi x3] s0 r σ' := by
  intro r σ' ho
  refine Ct.of (by decide) (Nat.le_of_ble_eq_true rfl) (cat_ok rfl) (fun w_s0 => ?_) ⟨rfl, rfl⟩
  refine q_ent (ls' := [some (vr κ a), some (vi x1), some (vi x2), some (vi x3), none, none, none, none]) (o := f_X12_comesTo a x1 x2 x3 s0) ⟨rfl, rfl, rfl, rfl, trivial⟩ ?_ ho
  unfold f_X12_comesTo
  refine q_iconst d_X12_comesTo_0 ?_
  refine q_istore d_X12_comesTo_1 rfl ?_
  refine q_iload_n (x := x2) d_X12_comesTo_3 rfl ?_
  refine q_istore d_X12_comesTo_4 rfl ?_
  refine q_jn (α := Mem → Res) (fun j186 => ∀ (s1 : Mem) (w_s1 : WF s1), EO κ M_X12_comesTo R_X12_comesTo 186 [some (vr κ a), none, none, none, none, none, none, none] [] s1 (j186 s1)) ?_ (fun j186 hj186 => ?_)
  · intro s1 w_s1
    refine q_aload_n d_X12_comesTo_186 rfl ?_
    refine q_getR (n := 9) d_X12_comesTo_187 hA.1 fi_12_34 rfl (Nat.le_of_ble_eq_true rfl) ?_
    refine q_iconst d_X12_comesTo_190 ?_
    refine q_iaload (m := 420) d_X12_comesTo_191 hA.2.2.2.2.2.2.2.2.2.1 (by decide) rfl (fun g2 => ?_)
    exact q_ireti d_X12_comesTo_192 rfl (w_s1 _ _) w_s1
  refine q_sub (ls' := [some (vr κ a), some (vi x1), none, some (vi x3), some (vi 0), some (vi x2), none, none]) ⟨rfl, rfl, rfl, rfl, rfl, trivial⟩ ?_
  exact l_X12_comesTo_6 κ a hA x1 h_x1 x3 h_x3 j186 hj186 FU 0 (inr_b (Or.inl rfl)) x2 h_x2 s0 w_s0
abbrev R_X12_isSo : Room := { frames := 2, cells := 0, slots := 0, locals := 49 }
noncomputable def f_X12_isSo (a : Nat) (x1 : Int) (s0 : Mem) : Res :=
  gd ((0 : Int) ≤ wr (880 + x1) ∧ wr (880 + x1) < 1732) (gd ((0 : Int) ≤ wr (864 + x1) ∧ wr (864 + x1) < 1732) (if s0 (a + 1) (wr (880 + x1)) = s0 (a + 1) (wr (864 + x1)) then (some (1, s0)) else (gd ((0 : Int) ≤ wr (864 + x1) ∧ wr (864 + x1) < 1732) (gd ((0 : Int) ≤ wr (880 + x1) ∧ wr (880 + x1) < 1732) (bd (f_X12_comesTo a 0 (s0 (a + 1) (wr (864 + x1))) (s0 (a + 1) (wr (880 + x1))) s0) fun r6 s7 => if r6 = 1 then (some (1, s7)) else (some (0, s7)))))))
set_option maxHeartbeats 4000000 in
set_option maxRecDepth 10000 in
theorem c_X12_isSo (κ : Kp) (a : Nat) (hA : At12 κ a) (x1 : Int) (h_x1 : InR x1) (s0 : Mem) : ∀ r σ', f_X12_isSo a x1 s0 = some (r, σ') → Ct κ M_X12_isSo R_X12_isSo [vr κ a, vi x1] s0 r σ' := by
  intro r σ' ho
  refine Ct.of (by decide) (Nat.le_of_ble_eq_true rfl) (cat_ok rfl) (fun w_s0 => ?_) ⟨rfl, rfl⟩
  refine q_ent (ls' := [some (vr κ a), some (vi x1)]) (o := f_X12_isSo a x1 s0) ⟨rfl, rfl, trivial⟩ ?_ ho
  unfold f_X12_isSo
  refine q_aload_n d_X12_isSo_0 rfl ?_
  refine q_getR (n := 1) d_X12_isSo_1 hA.1 fi_12_7 rfl (Nat.le_of_ble_eq_true rfl) ?_
  refine q_sipush d_X12_isSo_4 rfl ?_
  refine q_iload_n (x := x1) d_X12_isSo_7 rfl ?_
  refine q_iadd d_X12_isSo_8 ?_
  refine q_iaload (m := 1732) d_X12_isSo_9 hA.2.1 (by decide) rfl (fun g1 => ?_)
  refine q_aload_n d_X12_isSo_10 rfl ?_
  refine q_getR (n := 1) d_X12_isSo_11 hA.1 fi_12_7 rfl (Nat.le_of_ble_eq_true rfl) ?_
  refine q_sipush d_X12_isSo_14 rfl ?_
  refine q_iload_n (x := x1) d_X12_isSo_17 rfl ?_
  refine q_iadd d_X12_isSo_18 ?_
  refine q_iaload (m := 1732) d_X12_isSo_19 hA.2.1 (by decide) rfl (fun g2 => ?_)
  refine q_icmp_eq d_X12_isSo_20 (w_s0 _ _) (w_s0 _ _) (fun c3 => ?_) (fun c3 => ?_)
  · refine q_iconst d_X12_isSo_52 ?_
    refine q_goto d_X12_isSo_53 ?_
    exact q_iretz d_X12_isSo_57 rfl (Or.inr rfl) w_s0
  · refine q_aload_n d_X12_isSo_23 rfl ?_
    refine q_iconst d_X12_isSo_24 ?_
    refine q_aload_n d_X12_isSo_25 rfl ?_
    refine q_getR (n := 1) d_X12_isSo_26 hA.1 fi_12_7 rfl (Nat.le_of_ble_eq_true rfl) ?_
    refine q_sipush d_X12_isSo_29 rfl ?_
    refine q_iload_n (x := x1) d_X12_isSo_32 rfl ?_
    refine q_iadd d_X12_isSo_33 ?_
    refine q_iaload (m := 1732) d_X12_isSo_34 hA.2.1 (by decide) rfl (fun g4 => ?_)
    refine q_aload_n d_X12_isSo_35 rfl ?_
    refine q_getR (n := 1) d_X12_isSo_36 hA.1 fi_12_7 rfl (Nat.le_of_ble_eq_true rfl) ?_
    refine q_sipush d_X12_isSo_39 rfl ?_
    refine q_iload_n (x := x1) d_X12_isSo_42 rfl ?_
    refine q_iadd d_X12_isSo_43 ?_
    refine q_iaload (m := 1732) d_X12_isSo_44 hA.2.1 (by decide) rfl (fun g5 => ?_)
    refine q_callI (R' := R_X12_comesTo) (runV (As := [vi 0, vi (s0 (a + 1) (wr (864 + x1))), vi (s0 (a + 1) (wr (880 + x1)))]) (rest := []) d_X12_isSo_45.1 cv_12_301 rfl hA.1 rfl rfl ⟨rfl, rfl, by decide, by decide⟩ (Nat.le_of_ble_eq_true rfl) w_s0 rfl) d_X12_isSo_45.2 (c_X12_comesTo κ a hA 0 (inr_b (Or.inl rfl)) (s0 (a + 1) (wr (864 + x1))) (w_s0 _ _) (s0 (a + 1) (wr (880 + x1))) (w_s0 _ _) s0) rfl (fun r6 s7 h_r6 w_s7 => ?_)
    refine q_iconst d_X12_isSo_48 ?_
    refine q_icmp_ne d_X12_isSo_49 h_r6 (inr_b (Or.inr rfl)) (fun c8 => ?_) (fun c8 => ?_)
    · refine q_iconst d_X12_isSo_52 ?_
      refine q_goto d_X12_isSo_53 ?_
      exact q_iretz d_X12_isSo_57 rfl (Or.inr rfl) w_s7
    · refine q_iconst d_X12_isSo_56 ?_
      exact q_iretz d_X12_isSo_57 rfl (Or.inl rfl) w_s7
abbrev R_X12_says : Room := { frames := 3, cells := 0, slots := 0, locals := 70 }
noncomputable def f_X12_says_3 (a : Nat) (p1 : Int) (k79 : Mem → Res) (k39 : Int → Mem → Res) : Nat → Int → Mem → Res
  | 0, _, _ => none
  | n + 1, x5, s0 =>
    gd ((0 : Int) ≤ 59 ∧ (59 : Int) < 1732) (if x5 < s0 (a + 1) 59 then (gd ((0 : Int) ≤ wr (896 + x5) ∧ wr (896 + x5) < 1732) (jn (fun (s15 : Mem) => f_X12_says_3 a p1 k79 k39 n (wr (x5 + 1)) s15) fun j73 => if s0 (a + 1) (wr (896 + x5)) = p1 then (bd (f_X12_isSo a x5 s0) fun r17 s18 => if r17 = 0 then (j73 s18) else (k39 x5 s18)) else (j73 s0))) else (k79 s0))
noncomputable def f_X12_says (a : Nat) (x1 : Int) (x2 : Int) (x3 : Int) (x4 : Int) (s0 : Mem) : Res :=
  jn (fun (s1 : Mem) => bd (f_X12_held x2 x3 x4 s1) fun r2 s3 => some (r2, s3)) fun j79 => jn (fun (v4 : Int) (s5 : Mem) => gd ((0 : Int) ≤ wr (848 + v4) ∧ wr (848 + v4) < 1732) (gd ((0 : Int) ≤ wr (864 + v4) ∧ wr (864 + v4) < 1732) (bd (f_X12_comesTo a 0 (s5 (a + 1) (wr (848 + v4))) (s5 (a + 1) (wr (864 + v4))) s5) fun r8 s9 => bd (f_X12_held r8 x3 x4 s9) fun r10 s11 => some (r10, s11)))) fun j39 => f_X12_says_3 a x1 j79 j39 FU 0 s0
set_option maxHeartbeats 4000000 in
set_option maxRecDepth 10000 in
theorem l_X12_says_3 (κ : Kp) (a : Nat) (hA : At12 κ a) (p1 : Int) (h_p1 : InR p1) (p2 : Int) (h_p2 : InR p2) (p3 : Int) (h_p3 : InR p3) (p4 : Int) (h_p4 : InR p4) (k79 : Mem → Res) (k39 : Int → Mem → Res) (hk79 : ∀ (sz : Mem) (w_sz : WF sz), EO κ M_X12_says R_X12_says 79 [none, none, some (vi p2), some (vi p3), some (vi p4), none] [] sz (k79 sz)) (hk39 : ∀ (z5 : Int) (h_z5 : InR z5) (sz : Mem) (w_sz : WF sz), EO κ M_X12_says R_X12_says 39 [some (vr κ a), none, none, some (vi p3), some (vi p4), some (vi z5)] [] sz (k39 z5 sz)) : ∀ (n : Nat) (x5 : Int) (h_x5 : InR x5) (s0 : Mem) (w_s0 : WF s0), EO κ M_X12_says R_X12_says 3 [some (vr κ a), some (vi p1), some (vi p2), some (vi p3), some (vi p4), some (vi x5)] [] s0 (f_X12_says_3 a p1 k79 k39 n x5 s0) := by
  intro n
  induction n with
  | zero => exact fun _ _ _ _ => q_none
  | succ n ih =>
    intro x5 h_x5 s0 w_s0
    rw [f_X12_says_3]
    refine q_iload (x := x5) d_X12_says_3 rfl ?_
    refine q_aload_n d_X12_says_5 rfl ?_
    refine q_getR (n := 1) d_X12_says_6 hA.1 fi_12_7 rfl (Nat.le_of_ble_eq_true rfl) ?_
    refine q_bipush d_X12_says_9 rfl ?_
    refine q_iaload (m := 1732) d_X12_says_11 hA.2.1 (by decide) rfl (fun g12 => ?_)
    refine q_icmp_ge d_X12_says_12 h_x5 (w_s0 _ _) (fun c13 => ?_) (fun c13 => ?_)
    · refine q_aload_n d_X12_says_15 rfl ?_
      refine q_getR (n := 1) d_X12_says_16 hA.1 fi_12_7 rfl (Nat.le_of_ble_eq_true rfl) ?_
      refine q_sipush d_X12_says_19 rfl ?_
      refine q_iload (x := x5) d_X12_says_22 rfl ?_
      refine q_iadd d_X12_says_24 ?_
      refine q_iaload (m := 1732) d_X12_says_25 hA.2.1 (by decide) rfl (fun g14 => ?_)
      refine q_iload_n (x := p1) d_X12_says_26 rfl ?_
      refine q_jn (α := Mem → Res) (fun j73 => ∀ (s15 : Mem) (w_s15 : WF s15), EO κ M_X12_says R_X12_says 73 [some (vr κ a), some (vi p1), some (vi p2), some (vi p3), some (vi p4), some (vi x5)] [] s15 (j73 s15)) ?_ (fun j73 hj73 => ?_)
      · intro s15 w_s15
        refine q_iinc (x := x5) d_X12_says_73 rfl rfl ?_
        refine q_goto d_X12_says_76 ?_
        refine q_sub (ls' := [some (vr κ a), some (vi p1), some (vi p2), some (vi p3), some (vi p4), some (vi (wr (x5 + 1)))]) ⟨rfl, rfl, rfl, rfl, rfl, rfl, trivial⟩ ?_
        exact ih (wr (x5 + 1)) (inr_wr _) s15 w_s15
      refine q_icmp_ne d_X12_says_27 (w_s0 _ _) h_p1 (fun c16 => ?_) (fun c16 => ?_)
      · refine q_aload_n d_X12_says_30 rfl ?_
        refine q_iload (x := x5) d_X12_says_31 rfl ?_
        refine q_callZ (R' := R_X12_isSo) (runV (As := [vi x5]) (rest := []) d_X12_says_33.1 cv_12_304 rfl hA.1 rfl rfl ⟨rfl, rfl, by decide, by decide⟩ (Nat.le_of_ble_eq_true rfl) w_s0 rfl) d_X12_says_33.2 (c_X12_isSo κ a hA x5 h_x5 s0) rfl (fun r17 s18 h_r17 w_s18 => ?_)
        refine q_if_eq d_X12_says_36 (inr_b h_r17) (fun c19 => ?_) (fun c19 => ?_)
        · refine q_sub (ls' := [some (vr κ a), some (vi p1), some (vi p2), some (vi p3), some (vi p4), some (vi x5)]) ⟨rfl, rfl, rfl, rfl, rfl, rfl, trivial⟩ ?_
          exact hj73 s18 w_s18
        · refine q_sub (ls' := [some (vr κ a), none, none, some (vi p3), some (vi p4), some (vi x5)]) ⟨rfl, rfl, rfl, rfl, trivial⟩ ?_
          exact hk39 x5 h_x5 s18 w_s18
      · refine q_sub (ls' := [some (vr κ a), some (vi p1), some (vi p2), some (vi p3), some (vi p4), some (vi x5)]) ⟨rfl, rfl, rfl, rfl, rfl, rfl, trivial⟩ ?_
        exact hj73 s0 w_s0
    · refine q_sub (ls' := [none, none, some (vi p2), some (vi p3), some (vi p4), none]) ⟨rfl, rfl, rfl, trivial⟩ ?_
      exact hk79 s0 w_s0
set_option maxHeartbeats 4000000 in
set_option maxRecDepth 10000 in
theorem c_X12_says (κ : Kp) (a : Nat) (hA : At12 κ a) (x1 : Int) (h_x1 : InR x1) (x2 : Int) (h_x2 : InR x2) (x3 : Int) (h_x3 : InR x3) (x4 : Int) (h_x4 : InR x4) (s0 : Mem) : ∀ r σ', f_X12_says a x1 x2 x3 x4 s0 = some (r, σ') → Ct κ M_X12_says R_X12_says [vr κ a, vi x1, vi x2, vi x3, vi x4] s0 r σ' := by
  intro r σ' ho
  refine Ct.of (by decide) (Nat.le_of_ble_eq_true rfl) (cat_ok rfl) (fun w_s0 => ?_) ⟨rfl, rfl⟩
  refine q_ent (ls' := [some (vr κ a), some (vi x1), some (vi x2), some (vi x3), some (vi x4), none]) (o := f_X12_says a x1 x2 x3 x4 s0) ⟨rfl, rfl, rfl, rfl, rfl, trivial⟩ ?_ ho
  unfold f_X12_says
  refine q_iconst d_X12_says_0 ?_
  refine q_istore d_X12_says_1 rfl ?_
  refine q_jn (α := Mem → Res) (fun j79 => ∀ (s1 : Mem) (w_s1 : WF s1), EO κ M_X12_says R_X12_says 79 [none, none, some (vi x2), some (vi x3), some (vi x4), none] [] s1 (j79 s1)) ?_ (fun j79 hj79 => ?_)
  · intro s1 w_s1
    refine q_iload_n (x := x2) d_X12_says_79 rfl ?_
    refine q_iload_n (x := x3) d_X12_says_80 rfl ?_
    refine q_iload (x := x4) d_X12_says_81 rfl ?_
    refine q_callI (R' := R_X12_held) (runS (As := [vi x2, vi x3, vi x4]) (rest := []) d_X12_says_83.1 cv_12_307 rfl ⟨rfl, rfl, by decide, by decide⟩ (Nat.le_of_ble_eq_true rfl) w_s1 rfl) d_X12_says_83.2 (c_X12_held κ x2 h_x2 x3 h_x3 x4 h_x4 s1) rfl (fun r2 s3 h_r2 w_s3 => ?_)
    exact q_ireti d_X12_says_86 rfl h_r2 w_s3
  refine q_jn (α := Int → Mem → Res) (fun j39 => ∀ (v4 : Int) (h_v4 : InR v4) (s5 : Mem) (w_s5 : WF s5), EO κ M_X12_says R_X12_says 39 [some (vr κ a), none, none, some (vi x3), some (vi x4), some (vi v4)] [] s5 (j39 v4 s5)) ?_ (fun j39 hj39 => ?_)
  · intro v4 h_v4 s5 w_s5
    refine q_aload_n d_X12_says_39 rfl ?_
    refine q_iconst d_X12_says_40 ?_
    refine q_aload_n d_X12_says_41 rfl ?_
    refine q_getR (n := 1) d_X12_says_42 hA.1 fi_12_7 rfl (Nat.le_of_ble_eq_true rfl) ?_
    refine q_sipush d_X12_says_45 rfl ?_
    refine q_iload (x := v4) d_X12_says_48 rfl ?_
    refine q_iadd d_X12_says_50 ?_
    refine q_iaload (m := 1732) d_X12_says_51 hA.2.1 (by decide) rfl (fun g6 => ?_)
    refine q_aload_n d_X12_says_52 rfl ?_
    refine q_getR (n := 1) d_X12_says_53 hA.1 fi_12_7 rfl (Nat.le_of_ble_eq_true rfl) ?_
    refine q_sipush d_X12_says_56 rfl ?_
    refine q_iload (x := v4) d_X12_says_59 rfl ?_
    refine q_iadd d_X12_says_61 ?_
    refine q_iaload (m := 1732) d_X12_says_62 hA.2.1 (by decide) rfl (fun g7 => ?_)
    refine q_callI (R' := R_X12_comesTo) (runV (As := [vi 0, vi (s5 (a + 1) (wr (848 + v4))), vi (s5 (a + 1) (wr (864 + v4)))]) (rest := []) d_X12_says_63.1 cv_12_301 rfl hA.1 rfl rfl ⟨rfl, rfl, by decide, by decide⟩ (Nat.le_of_ble_eq_true rfl) w_s5 rfl) d_X12_says_63.2 (c_X12_comesTo κ a hA 0 (inr_b (Or.inl rfl)) (s5 (a + 1) (wr (848 + v4))) (w_s5 _ _) (s5 (a + 1) (wr (864 + v4))) (w_s5 _ _) s5) rfl (fun r8 s9 h_r8 w_s9 => ?_)
    refine q_iload_n (x := x3) d_X12_says_66 rfl ?_
    refine q_iload (x := x4) d_X12_says_67 rfl ?_
    refine q_callI (R' := R_X12_held) (runS (As := [vi r8, vi x3, vi x4]) (rest := []) d_X12_says_69.1 cv_12_307 rfl ⟨rfl, rfl, by decide, by decide⟩ (Nat.le_of_ble_eq_true rfl) w_s9 rfl) d_X12_says_69.2 (c_X12_held κ r8 h_r8 x3 h_x3 x4 h_x4 s9) rfl (fun r10 s11 h_r10 w_s11 => ?_)
    exact q_ireti d_X12_says_72 rfl h_r10 w_s11
  refine q_sub (ls' := [some (vr κ a), some (vi x1), some (vi x2), some (vi x3), some (vi x4), some (vi 0)]) ⟨rfl, rfl, rfl, rfl, rfl, rfl, trivial⟩ ?_
  exact l_X12_says_3 κ a hA x1 h_x1 x2 h_x2 x3 h_x3 x4 h_x4 j79 j39 hj79 hj39 FU 0 (inr_b (Or.inl rfl)) s0 w_s0
abbrev R_X12_laysNight : Room := { frames := 0, cells := 0, slots := 0, locals := 0 }
noncomputable def f_X12_laysNight_2 (a : Nat) (k24 : Mem → Res) : Nat → Int → Mem → Res
  | 0, _, _ => none
  | n + 1, x1, s0 =>
    if x1 < 11 then (gd ((0 : Int) ≤ x1 ∧ x1 < 11) (lm (mup s0 (a + 10) x1 0) fun s17 => f_X12_laysNight_2 a k24 n (wr (x1 + 1)) s17)) else (k24 s0)
noncomputable def f_X12_laysNight (a : Nat) (s0 : Mem) : Res :=
  jn (fun (s1 : Mem) => gd ((0 : Int) ≤ 1 ∧ (1 : Int) < 1732) (gd ((0 : Int) ≤ 1 ∧ (1 : Int) < 11) (lm (mup s1 (a + 10) 1 (s1 (a + 1) 1)) fun s4 => gd ((0 : Int) ≤ 2 ∧ (2 : Int) < 1732) (gd ((0 : Int) ≤ 2 ∧ (2 : Int) < 11) (lm (mup s4 (a + 10) 2 (s4 (a + 1) 2)) fun s7 => gd ((0 : Int) ≤ 3 ∧ (3 : Int) < 1732) (gd ((0 : Int) ≤ 3 ∧ (3 : Int) < 11) (lm (mup s7 (a + 10) 3 (s7 (a + 1) 3)) fun s10 => gd ((0 : Int) ≤ 0 ∧ (0 : Int) < 1732) (gd ((24 : Int) ≠ 0) (gd ((0 : Int) ≤ 8 ∧ (8 : Int) < 11) (lm (mup s10 (a + 10) 8 (Int.tmod (s10 (a + 1) 0) 24)) fun s14 => some (0, s14))))))))))) fun j24 => f_X12_laysNight_2 a j24 FU 0 s0
set_option maxHeartbeats 4000000 in
set_option maxRecDepth 10000 in
theorem l_X12_laysNight_2 (κ : Kp) (a : Nat) (hA : At12 κ a) (k24 : Mem → Res) (hk24 : ∀ (sz : Mem) (w_sz : WF sz), EO κ M_X12_laysNight R_X12_laysNight 24 [some (vr κ a), none] [] sz (k24 sz)) : ∀ (n : Nat) (x1 : Int) (h_x1 : InR x1) (s0 : Mem) (w_s0 : WF s0), EO κ M_X12_laysNight R_X12_laysNight 2 [some (vr κ a), some (vi x1)] [] s0 (f_X12_laysNight_2 a k24 n x1 s0) := by
  intro n
  induction n with
  | zero => exact fun _ _ _ _ => q_none
  | succ n ih =>
    intro x1 h_x1 s0 w_s0
    rw [f_X12_laysNight_2]
    refine q_iload_n (x := x1) d_X12_laysNight_2 rfl ?_
    refine q_aload_n d_X12_laysNight_3 rfl ?_
    refine q_getR (n := 10) d_X12_laysNight_4 hA.1 fi_12_37 rfl (Nat.le_of_ble_eq_true rfl) ?_
    refine q_alen (m := 11) d_X12_laysNight_7 hA.2.2.2.2.2.2.2.2.2.2.1 rfl ?_
    refine q_icmp_ge d_X12_laysNight_8 h_x1 (inr_d rfl) (fun c15 => ?_) (fun c15 => ?_)
    · refine q_aload_n d_X12_laysNight_11 rfl ?_
      refine q_getR (n := 10) d_X12_laysNight_12 hA.1 fi_12_37 rfl (Nat.le_of_ble_eq_true rfl) ?_
      refine q_iload_n (x := x1) d_X12_laysNight_15 rfl ?_
      refine q_iconst d_X12_laysNight_16 ?_
      refine q_iastore (m := 11) d_X12_laysNight_17 hA.2.2.2.2.2.2.2.2.2.2.1 (by decide) rfl (inr_b (Or.inl rfl)) w_s0 (fun g16 s17 w_s17 => ?_)
      refine q_iinc (x := x1) d_X12_laysNight_18 rfl rfl ?_
      refine q_goto d_X12_laysNight_21 ?_
      refine q_sub (ls' := [some (vr κ a), some (vi (wr (x1 + 1)))]) ⟨rfl, rfl, trivial⟩ ?_
      exact ih (wr (x1 + 1)) (inr_wr _) s17 w_s17
    · refine q_sub (ls' := [some (vr κ a), none]) ⟨rfl, trivial⟩ ?_
      exact hk24 s0 w_s0
set_option maxHeartbeats 4000000 in
set_option maxRecDepth 10000 in
theorem c_X12_laysNight (κ : Kp) (a : Nat) (hA : At12 κ a) (s0 : Mem) : ∀ r σ', f_X12_laysNight a s0 = some (r, σ') → Ct κ M_X12_laysNight R_X12_laysNight [vr κ a] s0 r σ' := by
  intro r σ' ho
  refine Ct.of (by decide) (Nat.le_of_ble_eq_true rfl) (cat_ok rfl) (fun w_s0 => ?_) ⟨rfl, rfl⟩
  refine q_ent (ls' := [some (vr κ a), none]) (o := f_X12_laysNight a s0) ⟨rfl, trivial⟩ ?_ ho
  unfold f_X12_laysNight
  refine q_iconst d_X12_laysNight_0 ?_
  refine q_istore_n d_X12_laysNight_1 rfl ?_
  refine q_jn (α := Mem → Res) (fun j24 => ∀ (s1 : Mem) (w_s1 : WF s1), EO κ M_X12_laysNight R_X12_laysNight 24 [some (vr κ a), none] [] s1 (j24 s1)) ?_ (fun j24 hj24 => ?_)
  · intro s1 w_s1
    refine q_aload_n d_X12_laysNight_24 rfl ?_
    refine q_getR (n := 10) d_X12_laysNight_25 hA.1 fi_12_37 rfl (Nat.le_of_ble_eq_true rfl) ?_
    refine q_iconst d_X12_laysNight_28 ?_
    refine q_aload_n d_X12_laysNight_29 rfl ?_
    refine q_getR (n := 1) d_X12_laysNight_30 hA.1 fi_12_7 rfl (Nat.le_of_ble_eq_true rfl) ?_
    refine q_iconst d_X12_laysNight_33 ?_
    refine q_iaload (m := 1732) d_X12_laysNight_34 hA.2.1 (by decide) rfl (fun g2 => ?_)
    refine q_iastore (m := 11) d_X12_laysNight_35 hA.2.2.2.2.2.2.2.2.2.2.1 (by decide) rfl (w_s1 _ _) w_s1 (fun g3 s4 w_s4 => ?_)
    refine q_aload_n d_X12_laysNight_36 rfl ?_
    refine q_getR (n := 10) d_X12_laysNight_37 hA.1 fi_12_37 rfl (Nat.le_of_ble_eq_true rfl) ?_
    refine q_iconst d_X12_laysNight_40 ?_
    refine q_aload_n d_X12_laysNight_41 rfl ?_
    refine q_getR (n := 1) d_X12_laysNight_42 hA.1 fi_12_7 rfl (Nat.le_of_ble_eq_true rfl) ?_
    refine q_iconst d_X12_laysNight_45 ?_
    refine q_iaload (m := 1732) d_X12_laysNight_46 hA.2.1 (by decide) rfl (fun g5 => ?_)
    refine q_iastore (m := 11) d_X12_laysNight_47 hA.2.2.2.2.2.2.2.2.2.2.1 (by decide) rfl (w_s4 _ _) w_s4 (fun g6 s7 w_s7 => ?_)
    refine q_aload_n d_X12_laysNight_48 rfl ?_
    refine q_getR (n := 10) d_X12_laysNight_49 hA.1 fi_12_37 rfl (Nat.le_of_ble_eq_true rfl) ?_
    refine q_iconst d_X12_laysNight_52 ?_
    refine q_aload_n d_X12_laysNight_53 rfl ?_
    refine q_getR (n := 1) d_X12_laysNight_54 hA.1 fi_12_7 rfl (Nat.le_of_ble_eq_true rfl) ?_
    refine q_iconst d_X12_laysNight_57 ?_
    refine q_iaload (m := 1732) d_X12_laysNight_58 hA.2.1 (by decide) rfl (fun g8 => ?_)
    refine q_iastore (m := 11) d_X12_laysNight_59 hA.2.2.2.2.2.2.2.2.2.2.1 (by decide) rfl (w_s7 _ _) w_s7 (fun g9 s10 w_s10 => ?_)
    refine q_aload_n d_X12_laysNight_60 rfl ?_
    refine q_getR (n := 10) d_X12_laysNight_61 hA.1 fi_12_37 rfl (Nat.le_of_ble_eq_true rfl) ?_
    refine q_bipush d_X12_laysNight_64 rfl ?_
    refine q_aload_n d_X12_laysNight_66 rfl ?_
    refine q_getR (n := 1) d_X12_laysNight_67 hA.1 fi_12_7 rfl (Nat.le_of_ble_eq_true rfl) ?_
    refine q_iconst d_X12_laysNight_70 ?_
    refine q_iaload (m := 1732) d_X12_laysNight_71 hA.2.1 (by decide) rfl (fun g11 => ?_)
    refine q_bipush d_X12_laysNight_72 rfl ?_
    refine q_irem d_X12_laysNight_74 (w_s10 _ _) (inr_d rfl) (fun g12 => ?_)
    refine q_iastore (m := 11) d_X12_laysNight_75 hA.2.2.2.2.2.2.2.2.2.2.1 (by decide) rfl (inr_tmod (w_s10 _ _) (inr_d rfl)) w_s10 (fun g13 s14 w_s14 => ?_)
    exact q_vret d_X12_laysNight_76 rfl w_s14
  refine q_sub (ls' := [some (vr κ a), some (vi 0)]) ⟨rfl, rfl, trivial⟩ ?_
  exact l_X12_laysNight_2 κ a hA j24 hj24 FU 0 (inr_b (Or.inl rfl)) s0 w_s0
abbrev R_X12_laysBoat : Room := { frames := 2, cells := 0, slots := 0, locals := 42 }
noncomputable def f_X12_laysBoat (a : Nat) (x1 : Int) (s0 : Mem) : Res :=
  bd (f_X12_laysNight a s0) fun r1 s2 => gd ((0 : Int) ≤ wr (7 + x1) ∧ wr (7 + x1) < 1732) (gd ((0 : Int) ≤ wr (85 + (s2 (a + 1) (wr (7 + x1)))) ∧ wr (85 + (s2 (a + 1) (wr (7 + x1)))) < 1732) (gd ((0 : Int) ≤ 4 ∧ (4 : Int) < 11) (lm (mup s2 (a + 10) 4 (s2 (a + 1) (wr (85 + (s2 (a + 1) (wr (7 + x1))))))) fun s6 => gd ((0 : Int) ≤ wr (65 + x1) ∧ wr (65 + x1) < 1732) (gd ((0 : Int) ≤ 5 ∧ (5 : Int) < 11) (lm (mup s6 (a + 10) 5 (s6 (a + 1) (wr (65 + x1)))) fun s9 => gd ((0 : Int) ≤ wr (75 + x1) ∧ wr (75 + x1) < 1732) (gd ((0 : Int) ≤ 6 ∧ (6 : Int) < 11) (lm (mup s9 (a + 10) 6 (s9 (a + 1) (wr (75 + x1)))) fun s12 => gd ((0 : Int) ≤ wr (7 + x1) ∧ wr (7 + x1) < 1732) (gd ((0 : Int) ≤ 7 ∧ (7 : Int) < 11) (lm (mup s12 (a + 10) 7 (s12 (a + 1) (wr (7 + x1)))) fun s15 => bd (f_X12_stuckIn a x1 s15) fun r16 s17 => gd ((0 : Int) ≤ 9 ∧ (9 : Int) < 11) (lm (mup s17 (a + 10) 9 r16) fun s19 => bd (f_X12_leanOf a x1 s19) fun r20 s21 => gd ((0 : Int) ≤ 10 ∧ (10 : Int) < 11) (lm (mup s21 (a + 10) 10 r20) fun s23 => some (0, s23))))))))))))
set_option maxHeartbeats 4000000 in
set_option maxRecDepth 10000 in
theorem c_X12_laysBoat (κ : Kp) (a : Nat) (hA : At12 κ a) (x1 : Int) (h_x1 : InR x1) (s0 : Mem) : ∀ r σ', f_X12_laysBoat a x1 s0 = some (r, σ') → Ct κ M_X12_laysBoat R_X12_laysBoat [vr κ a, vi x1] s0 r σ' := by
  intro r σ' ho
  refine Ct.of (by decide) (Nat.le_of_ble_eq_true rfl) (cat_ok rfl) (fun w_s0 => ?_) ⟨rfl, rfl⟩
  refine q_ent (ls' := [some (vr κ a), some (vi x1)]) (o := f_X12_laysBoat a x1 s0) ⟨rfl, rfl, trivial⟩ ?_ ho
  unfold f_X12_laysBoat
  refine q_aload_n d_X12_laysBoat_0 rfl ?_
  refine q_callV (R' := R_X12_laysNight) (runV (As := []) (rest := []) d_X12_laysBoat_1.1 cv_12_310 rfl hA.1 rfl rfl ⟨rfl, rfl, by decide, by decide⟩ (Nat.le_of_ble_eq_true rfl) w_s0 rfl) d_X12_laysBoat_1.2 (c_X12_laysNight κ a hA s0) rfl (fun r1 s2 w_s2 => ?_)
  refine q_aload_n d_X12_laysBoat_4 rfl ?_
  refine q_getR (n := 10) d_X12_laysBoat_5 hA.1 fi_12_37 rfl (Nat.le_of_ble_eq_true rfl) ?_
  refine q_iconst d_X12_laysBoat_8 ?_
  refine q_aload_n d_X12_laysBoat_9 rfl ?_
  refine q_getR (n := 1) d_X12_laysBoat_10 hA.1 fi_12_7 rfl (Nat.le_of_ble_eq_true rfl) ?_
  refine q_bipush d_X12_laysBoat_13 rfl ?_
  refine q_aload_n d_X12_laysBoat_15 rfl ?_
  refine q_getR (n := 1) d_X12_laysBoat_16 hA.1 fi_12_7 rfl (Nat.le_of_ble_eq_true rfl) ?_
  refine q_bipush d_X12_laysBoat_19 rfl ?_
  refine q_iload_n (x := x1) d_X12_laysBoat_21 rfl ?_
  refine q_iadd d_X12_laysBoat_22 ?_
  refine q_iaload (m := 1732) d_X12_laysBoat_23 hA.2.1 (by decide) rfl (fun g3 => ?_)
  refine q_iadd d_X12_laysBoat_24 ?_
  refine q_iaload (m := 1732) d_X12_laysBoat_25 hA.2.1 (by decide) rfl (fun g4 => ?_)
  refine q_iastore (m := 11) d_X12_laysBoat_26 hA.2.2.2.2.2.2.2.2.2.2.1 (by decide) rfl (w_s2 _ _) w_s2 (fun g5 s6 w_s6 => ?_)
  refine q_aload_n d_X12_laysBoat_27 rfl ?_
  refine q_getR (n := 10) d_X12_laysBoat_28 hA.1 fi_12_37 rfl (Nat.le_of_ble_eq_true rfl) ?_
  refine q_iconst d_X12_laysBoat_31 ?_
  refine q_aload_n d_X12_laysBoat_32 rfl ?_
  refine q_getR (n := 1) d_X12_laysBoat_33 hA.1 fi_12_7 rfl (Nat.le_of_ble_eq_true rfl) ?_
  refine q_bipush d_X12_laysBoat_36 rfl ?_
  refine q_iload_n (x := x1) d_X12_laysBoat_38 rfl ?_
  refine q_iadd d_X12_laysBoat_39 ?_
  refine q_iaload (m := 1732) d_X12_laysBoat_40 hA.2.1 (by decide) rfl (fun g7 => ?_)
  refine q_iastore (m := 11) d_X12_laysBoat_41 hA.2.2.2.2.2.2.2.2.2.2.1 (by decide) rfl (w_s6 _ _) w_s6 (fun g8 s9 w_s9 => ?_)
  refine q_aload_n d_X12_laysBoat_42 rfl ?_
  refine q_getR (n := 10) d_X12_laysBoat_43 hA.1 fi_12_37 rfl (Nat.le_of_ble_eq_true rfl) ?_
  refine q_bipush d_X12_laysBoat_46 rfl ?_
  refine q_aload_n d_X12_laysBoat_48 rfl ?_
  refine q_getR (n := 1) d_X12_laysBoat_49 hA.1 fi_12_7 rfl (Nat.le_of_ble_eq_true rfl) ?_
  refine q_bipush d_X12_laysBoat_52 rfl ?_
  refine q_iload_n (x := x1) d_X12_laysBoat_54 rfl ?_
  refine q_iadd d_X12_laysBoat_55 ?_
  refine q_iaload (m := 1732) d_X12_laysBoat_56 hA.2.1 (by decide) rfl (fun g10 => ?_)
  refine q_iastore (m := 11) d_X12_laysBoat_57 hA.2.2.2.2.2.2.2.2.2.2.1 (by decide) rfl (w_s9 _ _) w_s9 (fun g11 s12 w_s12 => ?_)
  refine q_aload_n d_X12_laysBoat_58 rfl ?_
  refine q_getR (n := 10) d_X12_laysBoat_59 hA.1 fi_12_37 rfl (Nat.le_of_ble_eq_true rfl) ?_
  refine q_bipush d_X12_laysBoat_62 rfl ?_
  refine q_aload_n d_X12_laysBoat_64 rfl ?_
  refine q_getR (n := 1) d_X12_laysBoat_65 hA.1 fi_12_7 rfl (Nat.le_of_ble_eq_true rfl) ?_
  refine q_bipush d_X12_laysBoat_68 rfl ?_
  refine q_iload_n (x := x1) d_X12_laysBoat_70 rfl ?_
  refine q_iadd d_X12_laysBoat_71 ?_
  refine q_iaload (m := 1732) d_X12_laysBoat_72 hA.2.1 (by decide) rfl (fun g13 => ?_)
  refine q_iastore (m := 11) d_X12_laysBoat_73 hA.2.2.2.2.2.2.2.2.2.2.1 (by decide) rfl (w_s12 _ _) w_s12 (fun g14 s15 w_s15 => ?_)
  refine q_aload_n d_X12_laysBoat_74 rfl ?_
  refine q_getR (n := 10) d_X12_laysBoat_75 hA.1 fi_12_37 rfl (Nat.le_of_ble_eq_true rfl) ?_
  refine q_bipush d_X12_laysBoat_78 rfl ?_
  refine q_aload_n d_X12_laysBoat_80 rfl ?_
  refine q_iload_n (x := x1) d_X12_laysBoat_81 rfl ?_
  refine q_callI (R' := R_X12_stuckIn) (runV (As := [vi x1]) (rest := [vi 9, vr κ (a + 10)]) d_X12_laysBoat_82.1 cv_12_313 rfl hA.1 rfl rfl ⟨rfl, rfl, by decide, by decide⟩ (Nat.le_of_ble_eq_true rfl) w_s15 rfl) d_X12_laysBoat_82.2 (c_X12_stuckIn κ a hA x1 h_x1 s15) rfl (fun r16 s17 h_r16 w_s17 => ?_)
  refine q_iastore (m := 11) d_X12_laysBoat_85 hA.2.2.2.2.2.2.2.2.2.2.1 (by decide) rfl h_r16 w_s17 (fun g18 s19 w_s19 => ?_)
  refine q_aload_n d_X12_laysBoat_86 rfl ?_
  refine q_getR (n := 10) d_X12_laysBoat_87 hA.1 fi_12_37 rfl (Nat.le_of_ble_eq_true rfl) ?_
  refine q_bipush d_X12_laysBoat_90 rfl ?_
  refine q_aload_n d_X12_laysBoat_92 rfl ?_
  refine q_iload_n (x := x1) d_X12_laysBoat_93 rfl ?_
  refine q_callI (R' := R_X12_leanOf) (runV (As := [vi x1]) (rest := [vi 10, vr κ (a + 10)]) d_X12_laysBoat_94.1 cv_12_316 rfl hA.1 rfl rfl ⟨rfl, rfl, by decide, by decide⟩ (Nat.le_of_ble_eq_true rfl) w_s19 rfl) d_X12_laysBoat_94.2 (c_X12_leanOf κ a hA x1 h_x1 s19) rfl (fun r20 s21 h_r20 w_s21 => ?_)
  refine q_iastore (m := 11) d_X12_laysBoat_97 hA.2.2.2.2.2.2.2.2.2.2.1 (by decide) rfl h_r20 w_s21 (fun g22 s23 w_s23 => ?_)
  exact q_vret d_X12_laysBoat_98 rfl w_s23
abbrev R_X12_shotAt : Room := { frames := 4, cells := 0, slots := 0, locals := 95 }
noncomputable def f_X12_shotAt (a : Nat) (x1 : Int) (s0 : Mem) : Res :=
  bd (f_X12_laysBoat a x1 s0) fun r1 s2 => gd ((0 : Int) ≤ 4 ∧ (4 : Int) < 11) (gd ((0 : Int) ≤ 1 ∧ (1 : Int) < 1732) (bd (f_X12_says a 20 (wr ((s2 (a + 10) 4) - (wr (2 * (s2 (a + 1) 1))))) 0 99 s2) fun r5 s6 => some (r5, s6)))
set_option maxHeartbeats 4000000 in
set_option maxRecDepth 10000 in
theorem c_X12_shotAt (κ : Kp) (a : Nat) (hA : At12 κ a) (x1 : Int) (h_x1 : InR x1) (s0 : Mem) : ∀ r σ', f_X12_shotAt a x1 s0 = some (r, σ') → Ct κ M_X12_shotAt R_X12_shotAt [vr κ a, vi x1] s0 r σ' := by
  intro r σ' ho
  refine Ct.of (by decide) (Nat.le_of_ble_eq_true rfl) (cat_ok rfl) (fun w_s0 => ?_) ⟨rfl, rfl⟩
  refine q_ent (ls' := [some (vr κ a), some (vi x1)]) (o := f_X12_shotAt a x1 s0) ⟨rfl, rfl, trivial⟩ ?_ ho
  unfold f_X12_shotAt
  refine q_aload_n d_X12_shotAt_0 rfl ?_
  refine q_iload_n (x := x1) d_X12_shotAt_1 rfl ?_
  refine q_callV (R' := R_X12_laysBoat) (runV (As := [vi x1]) (rest := []) d_X12_shotAt_2.1 cv_12_319 rfl hA.1 rfl rfl ⟨rfl, rfl, by decide, by decide⟩ (Nat.le_of_ble_eq_true rfl) w_s0 rfl) d_X12_shotAt_2.2 (c_X12_laysBoat κ a hA x1 h_x1 s0) rfl (fun r1 s2 w_s2 => ?_)
  refine q_aload_n d_X12_shotAt_5 rfl ?_
  refine q_bipush d_X12_shotAt_6 rfl ?_
  refine q_aload_n d_X12_shotAt_8 rfl ?_
  refine q_getR (n := 10) d_X12_shotAt_9 hA.1 fi_12_37 rfl (Nat.le_of_ble_eq_true rfl) ?_
  refine q_iconst d_X12_shotAt_12 ?_
  refine q_iaload (m := 11) d_X12_shotAt_13 hA.2.2.2.2.2.2.2.2.2.2.1 (by decide) rfl (fun g3 => ?_)
  refine q_iconst d_X12_shotAt_14 ?_
  refine q_aload_n d_X12_shotAt_15 rfl ?_
  refine q_getR (n := 1) d_X12_shotAt_16 hA.1 fi_12_7 rfl (Nat.le_of_ble_eq_true rfl) ?_
  refine q_iconst d_X12_shotAt_19 ?_
  refine q_iaload (m := 1732) d_X12_shotAt_20 hA.2.1 (by decide) rfl (fun g4 => ?_)
  refine q_imul d_X12_shotAt_21 ?_
  refine q_isub d_X12_shotAt_22 ?_
  refine q_iconst d_X12_shotAt_23 ?_
  refine q_bipush d_X12_shotAt_24 rfl ?_
  refine q_callI (R' := R_X12_says) (runV (As := [vi 20, vi (wr ((s2 (a + 10) 4) - (wr (2 * (s2 (a + 1) 1))))), vi 0, vi 99]) (rest := []) d_X12_shotAt_26.1 cv_12_323 rfl hA.1 rfl rfl ⟨rfl, rfl, by decide, by decide⟩ (Nat.le_of_ble_eq_true rfl) w_s2 rfl) d_X12_shotAt_26.2 (c_X12_says κ a hA 20 (inr_d rfl) (wr ((s2 (a + 10) 4) - (wr (2 * (s2 (a + 1) 1))))) (inr_wr _) 0 (inr_b (Or.inl rfl)) 99 (inr_d rfl) s2) rfl (fun r5 s6 h_r5 w_s6 => ?_)
  exact q_ireti d_X12_shotAt_29 rfl h_r5 w_s6
abbrev R_X12_stickIn : Room := { frames := 4, cells := 0, slots := 0, locals := 95 }
noncomputable def f_X12_stickIn (a : Nat) (x1 : Int) (s0 : Mem) : Res :=
  bd (f_X12_laysBoat a x1 s0) fun r1 s2 => gd ((0 : Int) ≤ wr (65 + x1) ∧ wr (65 + x1) < 1732) (bd (f_X12_says a 21 (wr (40 + (s2 (a + 1) (wr (65 + x1))))) 0 100 s2) fun r4 s5 => some (r4, s5))
set_option maxHeartbeats 4000000 in
set_option maxRecDepth 10000 in
theorem c_X12_stickIn (κ : Kp) (a : Nat) (hA : At12 κ a) (x1 : Int) (h_x1 : InR x1) (s0 : Mem) : ∀ r σ', f_X12_stickIn a x1 s0 = some (r, σ') → Ct κ M_X12_stickIn R_X12_stickIn [vr κ a, vi x1] s0 r σ' := by
  intro r σ' ho
  refine Ct.of (by decide) (Nat.le_of_ble_eq_true rfl) (cat_ok rfl) (fun w_s0 => ?_) ⟨rfl, rfl⟩
  refine q_ent (ls' := [some (vr κ a), some (vi x1)]) (o := f_X12_stickIn a x1 s0) ⟨rfl, rfl, trivial⟩ ?_ ho
  unfold f_X12_stickIn
  refine q_aload_n d_X12_stickIn_0 rfl ?_
  refine q_iload_n (x := x1) d_X12_stickIn_1 rfl ?_
  refine q_callV (R' := R_X12_laysBoat) (runV (As := [vi x1]) (rest := []) d_X12_stickIn_2.1 cv_12_319 rfl hA.1 rfl rfl ⟨rfl, rfl, by decide, by decide⟩ (Nat.le_of_ble_eq_true rfl) w_s0 rfl) d_X12_stickIn_2.2 (c_X12_laysBoat κ a hA x1 h_x1 s0) rfl (fun r1 s2 w_s2 => ?_)
  refine q_aload_n d_X12_stickIn_5 rfl ?_
  refine q_bipush d_X12_stickIn_6 rfl ?_
  refine q_bipush d_X12_stickIn_8 rfl ?_
  refine q_aload_n d_X12_stickIn_10 rfl ?_
  refine q_getR (n := 1) d_X12_stickIn_11 hA.1 fi_12_7 rfl (Nat.le_of_ble_eq_true rfl) ?_
  refine q_bipush d_X12_stickIn_14 rfl ?_
  refine q_iload_n (x := x1) d_X12_stickIn_16 rfl ?_
  refine q_iadd d_X12_stickIn_17 ?_
  refine q_iaload (m := 1732) d_X12_stickIn_18 hA.2.1 (by decide) rfl (fun g3 => ?_)
  refine q_iadd d_X12_stickIn_19 ?_
  refine q_iconst d_X12_stickIn_20 ?_
  refine q_bipush d_X12_stickIn_21 rfl ?_
  refine q_callI (R' := R_X12_says) (runV (As := [vi 21, vi (wr (40 + (s2 (a + 1) (wr (65 + x1))))), vi 0, vi 100]) (rest := []) d_X12_stickIn_23.1 cv_12_323 rfl hA.1 rfl rfl ⟨rfl, rfl, by decide, by decide⟩ (Nat.le_of_ble_eq_true rfl) w_s2 rfl) d_X12_stickIn_23.2 (c_X12_says κ a hA 21 (inr_d rfl) (wr (40 + (s2 (a + 1) (wr (65 + x1))))) (inr_wr _) 0 (inr_b (Or.inl rfl)) 100 (inr_d rfl) s2) rfl (fun r4 s5 h_r4 w_s5 => ?_)
  exact q_ireti d_X12_stickIn_26 rfl h_r4 w_s5
abbrev R_X12_listOf : Room := { frames := 4, cells := 0, slots := 0, locals := 95 }
noncomputable def f_X12_listOf (a : Nat) (x1 : Int) (s0 : Mem) : Res :=
  bd (f_X12_laysBoat a x1 s0) fun r1 s2 => gd ((0 : Int) ≤ wr (65 + x1) ∧ wr (65 + x1) < 1732) (bd (f_X12_says a 22 (wr (10 * (s2 (a + 1) (wr (65 + x1))))) 1 999 s2) fun r4 s5 => some (r4, s5))
set_option maxHeartbeats 4000000 in
set_option maxRecDepth 10000 in
theorem c_X12_listOf (κ : Kp) (a : Nat) (hA : At12 κ a) (x1 : Int) (h_x1 : InR x1) (s0 : Mem) : ∀ r σ', f_X12_listOf a x1 s0 = some (r, σ') → Ct κ M_X12_listOf R_X12_listOf [vr κ a, vi x1] s0 r σ' := by
  intro r σ' ho
  refine Ct.of (by decide) (Nat.le_of_ble_eq_true rfl) (cat_ok rfl) (fun w_s0 => ?_) ⟨rfl, rfl⟩
  refine q_ent (ls' := [some (vr κ a), some (vi x1)]) (o := f_X12_listOf a x1 s0) ⟨rfl, rfl, trivial⟩ ?_ ho
  unfold f_X12_listOf
  refine q_aload_n d_X12_listOf_0 rfl ?_
  refine q_iload_n (x := x1) d_X12_listOf_1 rfl ?_
  refine q_callV (R' := R_X12_laysBoat) (runV (As := [vi x1]) (rest := []) d_X12_listOf_2.1 cv_12_319 rfl hA.1 rfl rfl ⟨rfl, rfl, by decide, by decide⟩ (Nat.le_of_ble_eq_true rfl) w_s0 rfl) d_X12_listOf_2.2 (c_X12_laysBoat κ a hA x1 h_x1 s0) rfl (fun r1 s2 w_s2 => ?_)
  refine q_aload_n d_X12_listOf_5 rfl ?_
  refine q_bipush d_X12_listOf_6 rfl ?_
  refine q_bipush d_X12_listOf_8 rfl ?_
  refine q_aload_n d_X12_listOf_10 rfl ?_
  refine q_getR (n := 1) d_X12_listOf_11 hA.1 fi_12_7 rfl (Nat.le_of_ble_eq_true rfl) ?_
  refine q_bipush d_X12_listOf_14 rfl ?_
  refine q_iload_n (x := x1) d_X12_listOf_16 rfl ?_
  refine q_iadd d_X12_listOf_17 ?_
  refine q_iaload (m := 1732) d_X12_listOf_18 hA.2.1 (by decide) rfl (fun g3 => ?_)
  refine q_imul d_X12_listOf_19 ?_
  refine q_iconst d_X12_listOf_20 ?_
  refine q_sipush d_X12_listOf_21 rfl ?_
  refine q_callI (R' := R_X12_says) (runV (As := [vi 22, vi (wr (10 * (s2 (a + 1) (wr (65 + x1))))), vi 1, vi 999]) (rest := []) d_X12_listOf_24.1 cv_12_323 rfl hA.1 rfl rfl ⟨rfl, rfl, by decide, by decide⟩ (Nat.le_of_ble_eq_true rfl) w_s2 rfl) d_X12_listOf_24.2 (c_X12_says κ a hA 22 (inr_d rfl) (wr (10 * (s2 (a + 1) (wr (65 + x1))))) (inr_wr _) 1 (inr_b (Or.inr rfl)) 999 (inr_d rfl) s2) rfl (fun r4 s5 h_r4 w_s5 => ?_)
  exact q_ireti d_X12_listOf_27 rfl h_r4 w_s5
abbrev R_X12_fadeNow : Room := { frames := 4, cells := 0, slots := 0, locals := 95 }
noncomputable def f_X12_fadeNow (a : Nat) (s0 : Mem) : Res :=
  bd (f_X12_laysNight a s0) fun r1 s2 => bd (f_X12_says a 23 5 0 99 s2) fun r3 s4 => some (r3, s4)
set_option maxHeartbeats 4000000 in
set_option maxRecDepth 10000 in
theorem c_X12_fadeNow (κ : Kp) (a : Nat) (hA : At12 κ a) (s0 : Mem) : ∀ r σ', f_X12_fadeNow a s0 = some (r, σ') → Ct κ M_X12_fadeNow R_X12_fadeNow [vr κ a] s0 r σ' := by
  intro r σ' ho
  refine Ct.of (by decide) (Nat.le_of_ble_eq_true rfl) (cat_ok rfl) (fun w_s0 => ?_) ⟨rfl, rfl⟩
  refine q_ent (ls' := [some (vr κ a)]) (o := f_X12_fadeNow a s0) ⟨rfl, trivial⟩ ?_ ho
  unfold f_X12_fadeNow
  refine q_aload_n d_X12_fadeNow_0 rfl ?_
  refine q_callV (R' := R_X12_laysNight) (runV (As := []) (rest := []) d_X12_fadeNow_1.1 cv_12_310 rfl hA.1 rfl rfl ⟨rfl, rfl, by decide, by decide⟩ (Nat.le_of_ble_eq_true rfl) w_s0 rfl) d_X12_fadeNow_1.2 (c_X12_laysNight κ a hA s0) rfl (fun r1 s2 w_s2 => ?_)
  refine q_aload_n d_X12_fadeNow_4 rfl ?_
  refine q_bipush d_X12_fadeNow_5 rfl ?_
  refine q_iconst d_X12_fadeNow_7 ?_
  refine q_iconst d_X12_fadeNow_8 ?_
  refine q_bipush d_X12_fadeNow_9 rfl ?_
  refine q_callI (R' := R_X12_says) (runV (As := [vi 23, vi 5, vi 0, vi 99]) (rest := []) d_X12_fadeNow_11.1 cv_12_323 rfl hA.1 rfl rfl ⟨rfl, rfl, by decide, by decide⟩ (Nat.le_of_ble_eq_true rfl) w_s2 rfl) d_X12_fadeNow_11.2 (c_X12_says κ a hA 23 (inr_d rfl) 5 (inr_d rfl) 0 (inr_b (Or.inl rfl)) 99 (inr_d rfl) s2) rfl (fun r3 s4 h_r3 w_s4 => ?_)
  exact q_ireti d_X12_fadeNow_14 rfl h_r3 w_s4
abbrev R_X12_keeps0 : Room := { frames := 0, cells := 0, slots := 0, locals := 0 }
noncomputable def f_X12_keeps0_51 (a : Nat) (k83 : Mem → Res) : Nat → Int → Mem → Res
  | 0, _, _ => none
  | n + 1, x1, s0 =>
    if x1 < 57 then (gd ((0 : Int) ≤ x1 ∧ x1 < 1732) (gd ((0 : Int) ≤ wr ((wr (57 * (s0 a 4))) + x1) ∧ wr ((wr (57 * (s0 a 4))) + x1) < 342) (lm (mup s0 (a + 3) (wr ((wr (57 * (s0 a 4))) + x1)) (s0 (a + 1) x1)) fun s8 => f_X12_keeps0_51 a k83 n (wr (x1 + 1)) s8))) else (k83 s0)
noncomputable def f_X12_keeps0_11 (a : Nat) (k39 : Mem → Res) : Nat → Int → Mem → Res
  | 0, _, _ => none
  | n + 1, x1, s0 =>
    if x1 < 285 then (gd ((0 : Int) ≤ wr (x1 + 57) ∧ wr (x1 + 57) < 342) (gd ((0 : Int) ≤ x1 ∧ x1 < 342) (lm (mup s0 (a + 3) x1 (s0 (a + 3) (wr (x1 + 57)))) fun s15 => f_X12_keeps0_11 a k39 n (wr (x1 + 1)) s15))) else (k39 s0)
noncomputable def f_X12_keeps0 (a : Nat) (s0 : Mem) : Res :=
  jn (fun (s1 : Mem) => jn (fun (s2 : Mem) => lm (mup s2 a 4 (wr ((s2 a 4) + 1))) fun s3 => lm (mup s3 a 26 1) fun s4 => some (0, s4)) fun j83 => f_X12_keeps0_51 a j83 FU 0 s1) fun j49 => if s0 a 4 = 6 then (jn (fun (s10 : Mem) => lm (mup s10 a 4 (wr ((s10 a 4) - 1))) fun s11 => j49 s11) fun j39 => f_X12_keeps0_11 a j39 FU 0 s0) else (j49 s0)
set_option maxHeartbeats 4000000 in
set_option maxRecDepth 10000 in
theorem l_X12_keeps0_51 (κ : Kp) (a : Nat) (hA : At12 κ a) (k83 : Mem → Res) (hk83 : ∀ (sz : Mem) (w_sz : WF sz), EO κ M_X12_keeps0 R_X12_keeps0 83 [some (vr κ a), none] [] sz (k83 sz)) : ∀ (n : Nat) (x1 : Int) (h_x1 : InR x1) (s0 : Mem) (w_s0 : WF s0), EO κ M_X12_keeps0 R_X12_keeps0 51 [some (vr κ a), some (vi x1)] [] s0 (f_X12_keeps0_51 a k83 n x1 s0) := by
  intro n
  induction n with
  | zero => exact fun _ _ _ _ => q_none
  | succ n ih =>
    intro x1 h_x1 s0 w_s0
    rw [f_X12_keeps0_51]
    refine q_iload_n (x := x1) d_X12_keeps0_51 rfl ?_
    refine q_bipush d_X12_keeps0_52 rfl ?_
    refine q_icmp_ge d_X12_keeps0_54 h_x1 (inr_d rfl) (fun c5 => ?_) (fun c5 => ?_)
    · refine q_aload_n d_X12_keeps0_57 rfl ?_
      refine q_getR (n := 3) d_X12_keeps0_58 hA.1 fi_12_16 rfl (Nat.le_of_ble_eq_true rfl) ?_
      refine q_bipush d_X12_keeps0_61 rfl ?_
      refine q_aload_n d_X12_keeps0_63 rfl ?_
      refine q_getI (k := 4) (j := 4) d_X12_keeps0_64 hA.1 fi_12_68 rfl rfl ?_
      refine q_imul d_X12_keeps0_67 ?_
      refine q_iload_n (x := x1) d_X12_keeps0_68 rfl ?_
      refine q_iadd d_X12_keeps0_69 ?_
      refine q_aload_n d_X12_keeps0_70 rfl ?_
      refine q_getR (n := 1) d_X12_keeps0_71 hA.1 fi_12_7 rfl (Nat.le_of_ble_eq_true rfl) ?_
      refine q_iload_n (x := x1) d_X12_keeps0_74 rfl ?_
      refine q_iaload (m := 1732) d_X12_keeps0_75 hA.2.1 (by decide) rfl (fun g6 => ?_)
      refine q_iastore (m := 342) d_X12_keeps0_76 hA.2.2.2.1 (by decide) rfl (w_s0 _ _) w_s0 (fun g7 s8 w_s8 => ?_)
      refine q_iinc (x := x1) d_X12_keeps0_77 rfl rfl ?_
      refine q_goto d_X12_keeps0_80 ?_
      refine q_sub (ls' := [some (vr κ a), some (vi (wr (x1 + 1)))]) ⟨rfl, rfl, trivial⟩ ?_
      exact ih (wr (x1 + 1)) (inr_wr _) s8 w_s8
    · refine q_sub (ls' := [some (vr κ a), none]) ⟨rfl, trivial⟩ ?_
      exact hk83 s0 w_s0
set_option maxHeartbeats 4000000 in
set_option maxRecDepth 10000 in
theorem l_X12_keeps0_11 (κ : Kp) (a : Nat) (hA : At12 κ a) (k39 : Mem → Res) (hk39 : ∀ (sz : Mem) (w_sz : WF sz), EO κ M_X12_keeps0 R_X12_keeps0 39 [some (vr κ a), none] [] sz (k39 sz)) : ∀ (n : Nat) (x1 : Int) (h_x1 : InR x1) (s0 : Mem) (w_s0 : WF s0), EO κ M_X12_keeps0 R_X12_keeps0 11 [some (vr κ a), some (vi x1)] [] s0 (f_X12_keeps0_11 a k39 n x1 s0) := by
  intro n
  induction n with
  | zero => exact fun _ _ _ _ => q_none
  | succ n ih =>
    intro x1 h_x1 s0 w_s0
    rw [f_X12_keeps0_11]
    refine q_iload_n (x := x1) d_X12_keeps0_11 rfl ?_
    refine q_sipush d_X12_keeps0_12 rfl ?_
    refine q_icmp_ge d_X12_keeps0_15 h_x1 (inr_d rfl) (fun c12 => ?_) (fun c12 => ?_)
    · refine q_aload_n d_X12_keeps0_18 rfl ?_
      refine q_getR (n := 3) d_X12_keeps0_19 hA.1 fi_12_16 rfl (Nat.le_of_ble_eq_true rfl) ?_
      refine q_iload_n (x := x1) d_X12_keeps0_22 rfl ?_
      refine q_aload_n d_X12_keeps0_23 rfl ?_
      refine q_getR (n := 3) d_X12_keeps0_24 hA.1 fi_12_16 rfl (Nat.le_of_ble_eq_true rfl) ?_
      refine q_iload_n (x := x1) d_X12_keeps0_27 rfl ?_
      refine q_bipush d_X12_keeps0_28 rfl ?_
      refine q_iadd d_X12_keeps0_30 ?_
      refine q_iaload (m := 342) d_X12_keeps0_31 hA.2.2.2.1 (by decide) rfl (fun g13 => ?_)
      refine q_iastore (m := 342) d_X12_keeps0_32 hA.2.2.2.1 (by decide) rfl (w_s0 _ _) w_s0 (fun g14 s15 w_s15 => ?_)
      refine q_iinc (x := x1) d_X12_keeps0_33 rfl rfl ?_
      refine q_goto d_X12_keeps0_36 ?_
      refine q_sub (ls' := [some (vr κ a), some (vi (wr (x1 + 1)))]) ⟨rfl, rfl, trivial⟩ ?_
      exact ih (wr (x1 + 1)) (inr_wr _) s15 w_s15
    · refine q_sub (ls' := [some (vr κ a), none]) ⟨rfl, trivial⟩ ?_
      exact hk39 s0 w_s0
set_option maxHeartbeats 4000000 in
set_option maxRecDepth 10000 in
theorem c_X12_keeps0 (κ : Kp) (a : Nat) (hA : At12 κ a) (s0 : Mem) : ∀ r σ', f_X12_keeps0 a s0 = some (r, σ') → Ct κ M_X12_keeps0 R_X12_keeps0 [vr κ a] s0 r σ' := by
  intro r σ' ho
  refine Ct.of (by decide) (Nat.le_of_ble_eq_true rfl) (cat_ok rfl) (fun w_s0 => ?_) ⟨rfl, rfl⟩
  refine q_ent (ls' := [some (vr κ a), none]) (o := f_X12_keeps0 a s0) ⟨rfl, trivial⟩ ?_ ho
  unfold f_X12_keeps0
  refine q_aload_n d_X12_keeps0_0 rfl ?_
  refine q_getI (k := 4) (j := 4) d_X12_keeps0_1 hA.1 fi_12_68 rfl rfl ?_
  refine q_bipush d_X12_keeps0_4 rfl ?_
  refine q_jn (α := Mem → Res) (fun j49 => ∀ (s1 : Mem) (w_s1 : WF s1), EO κ M_X12_keeps0 R_X12_keeps0 49 [some (vr κ a), none] [] s1 (j49 s1)) ?_ (fun j49 hj49 => ?_)
  · intro s1 w_s1
    refine q_iconst d_X12_keeps0_49 ?_
    refine q_istore_n d_X12_keeps0_50 rfl ?_
    refine q_jn (α := Mem → Res) (fun j83 => ∀ (s2 : Mem) (w_s2 : WF s2), EO κ M_X12_keeps0 R_X12_keeps0 83 [some (vr κ a), none] [] s2 (j83 s2)) ?_ (fun j83 hj83 => ?_)
    · intro s2 w_s2
      refine q_aload_n d_X12_keeps0_83 rfl ?_
      refine q_dup d_X12_keeps0_84 rfl ?_
      refine q_getI (k := 4) (j := 4) d_X12_keeps0_85 hA.1 fi_12_68 rfl rfl ?_
      refine q_iconst d_X12_keeps0_88 ?_
      refine q_iadd d_X12_keeps0_89 ?_
      refine q_putI (k := 4) (j := 4) d_X12_keeps0_90 hA.1 fp_12_68 rfl rfl (inr_wr _) w_s2 (fun s3 w_s3 => ?_)
      refine q_aload_n d_X12_keeps0_93 rfl ?_
      refine q_iconst d_X12_keeps0_94 ?_
      refine q_putZ (k := 26) (j := 26) d_X12_keeps0_95 hA.1 fp_12_327 rfl rfl (Or.inr rfl) w_s3 (fun s4 w_s4 => ?_)
      exact q_vret d_X12_keeps0_98 rfl w_s4
    refine q_sub (ls' := [some (vr κ a), some (vi 0)]) ⟨rfl, rfl, trivial⟩ ?_
    exact l_X12_keeps0_51 κ a hA j83 hj83 FU 0 (inr_b (Or.inl rfl)) s1 w_s1
  refine q_icmp_ne d_X12_keeps0_6 (w_s0 _ _) (inr_d rfl) (fun c9 => ?_) (fun c9 => ?_)
  · refine q_iconst d_X12_keeps0_9 ?_
    refine q_istore_n d_X12_keeps0_10 rfl ?_
    refine q_jn (α := Mem → Res) (fun j39 => ∀ (s10 : Mem) (w_s10 : WF s10), EO κ M_X12_keeps0 R_X12_keeps0 39 [some (vr κ a), none] [] s10 (j39 s10)) ?_ (fun j39 hj39 => ?_)
    · intro s10 w_s10
      refine q_aload_n d_X12_keeps0_39 rfl ?_
      refine q_dup d_X12_keeps0_40 rfl ?_
      refine q_getI (k := 4) (j := 4) d_X12_keeps0_41 hA.1 fi_12_68 rfl rfl ?_
      refine q_iconst d_X12_keeps0_44 ?_
      refine q_isub d_X12_keeps0_45 ?_
      refine q_putI (k := 4) (j := 4) d_X12_keeps0_46 hA.1 fp_12_68 rfl rfl (inr_wr _) w_s10 (fun s11 w_s11 => ?_)
      refine q_sub (ls' := [some (vr κ a), none]) ⟨rfl, trivial⟩ ?_
      exact hj49 s11 w_s11
    refine q_sub (ls' := [some (vr κ a), some (vi 0)]) ⟨rfl, rfl, trivial⟩ ?_
    exact l_X12_keeps0_11 κ a hA j39 hj39 FU 0 (inr_b (Or.inl rfl)) s0 w_s0
  · refine q_sub (ls' := [some (vr κ a), none]) ⟨rfl, trivial⟩ ?_
    exact hj49 s0 w_s0
abbrev R_X12_undo : Room := { frames := 0, cells := 0, slots := 0, locals := 0 }
noncomputable def f_X12_undo_21 (a : Nat) (k53 : Mem → Res) : Nat → Int → Mem → Res
  | 0, _, _ => none
  | n + 1, x1, s0 =>
    if x1 < 57 then (gd ((0 : Int) ≤ wr ((wr (57 * (s0 a 4))) + x1) ∧ wr ((wr (57 * (s0 a 4))) + x1) < 342) (gd ((0 : Int) ≤ x1 ∧ x1 < 1732) (lm (mup s0 (a + 1) x1 (s0 (a + 3) (wr ((wr (57 * (s0 a 4))) + x1)))) fun s7 => f_X12_undo_21 a k53 n (wr (x1 + 1)) s7))) else (k53 s0)
noncomputable def f_X12_undo (a : Nat) (s0 : Mem) : Res :=
  if s0 a 4 = 0 then (some (0, s0)) else (lm (mup s0 a 4 (wr ((s0 a 4) - 1))) fun s2 => jn (fun (s3 : Mem) => some (1, s3)) fun j53 => f_X12_undo_21 a j53 FU 0 s2)
set_option maxHeartbeats 4000000 in
set_option maxRecDepth 10000 in
theorem l_X12_undo_21 (κ : Kp) (a : Nat) (hA : At12 κ a) (k53 : Mem → Res) (hk53 : ∀ (sz : Mem) (w_sz : WF sz), EO κ M_X12_undo R_X12_undo 53 [none, none] [] sz (k53 sz)) : ∀ (n : Nat) (x1 : Int) (h_x1 : InR x1) (s0 : Mem) (w_s0 : WF s0), EO κ M_X12_undo R_X12_undo 21 [some (vr κ a), some (vi x1)] [] s0 (f_X12_undo_21 a k53 n x1 s0) := by
  intro n
  induction n with
  | zero => exact fun _ _ _ _ => q_none
  | succ n ih =>
    intro x1 h_x1 s0 w_s0
    rw [f_X12_undo_21]
    refine q_iload_n (x := x1) d_X12_undo_21 rfl ?_
    refine q_bipush d_X12_undo_22 rfl ?_
    refine q_icmp_ge d_X12_undo_24 h_x1 (inr_d rfl) (fun c4 => ?_) (fun c4 => ?_)
    · refine q_aload_n d_X12_undo_27 rfl ?_
      refine q_getR (n := 1) d_X12_undo_28 hA.1 fi_12_7 rfl (Nat.le_of_ble_eq_true rfl) ?_
      refine q_iload_n (x := x1) d_X12_undo_31 rfl ?_
      refine q_aload_n d_X12_undo_32 rfl ?_
      refine q_getR (n := 3) d_X12_undo_33 hA.1 fi_12_16 rfl (Nat.le_of_ble_eq_true rfl) ?_
      refine q_bipush d_X12_undo_36 rfl ?_
      refine q_aload_n d_X12_undo_38 rfl ?_
      refine q_getI (k := 4) (j := 4) d_X12_undo_39 hA.1 fi_12_68 rfl rfl ?_
      refine q_imul d_X12_undo_42 ?_
      refine q_iload_n (x := x1) d_X12_undo_43 rfl ?_
      refine q_iadd d_X12_undo_44 ?_
      refine q_iaload (m := 342) d_X12_undo_45 hA.2.2.2.1 (by decide) rfl (fun g5 => ?_)
      refine q_iastore (m := 1732) d_X12_undo_46 hA.2.1 (by decide) rfl (w_s0 _ _) w_s0 (fun g6 s7 w_s7 => ?_)
      refine q_iinc (x := x1) d_X12_undo_47 rfl rfl ?_
      refine q_goto d_X12_undo_50 ?_
      refine q_sub (ls' := [some (vr κ a), some (vi (wr (x1 + 1)))]) ⟨rfl, rfl, trivial⟩ ?_
      exact ih (wr (x1 + 1)) (inr_wr _) s7 w_s7
    · refine q_sub (ls' := [none, none]) trivial ?_
      exact hk53 s0 w_s0
set_option maxHeartbeats 4000000 in
set_option maxRecDepth 10000 in
theorem c_X12_undo (κ : Kp) (a : Nat) (hA : At12 κ a) (s0 : Mem) : ∀ r σ', f_X12_undo a s0 = some (r, σ') → Ct κ M_X12_undo R_X12_undo [vr κ a] s0 r σ' := by
  intro r σ' ho
  refine Ct.of (by decide) (Nat.le_of_ble_eq_true rfl) (cat_ok rfl) (fun w_s0 => ?_) ⟨rfl, rfl⟩
  refine q_ent (ls' := [some (vr κ a), none]) (o := f_X12_undo a s0) ⟨rfl, trivial⟩ ?_ ho
  unfold f_X12_undo
  refine q_aload_n d_X12_undo_0 rfl ?_
  refine q_getI (k := 4) (j := 4) d_X12_undo_1 hA.1 fi_12_68 rfl rfl ?_
  refine q_if_ne d_X12_undo_4 (w_s0 _ _) (fun c1 => ?_) (fun c1 => ?_)
  · refine q_iconst d_X12_undo_7 ?_
    exact q_iretz d_X12_undo_8 rfl (Or.inl rfl) w_s0
  · refine q_aload_n d_X12_undo_9 rfl ?_
    refine q_dup d_X12_undo_10 rfl ?_
    refine q_getI (k := 4) (j := 4) d_X12_undo_11 hA.1 fi_12_68 rfl rfl ?_
    refine q_iconst d_X12_undo_14 ?_
    refine q_isub d_X12_undo_15 ?_
    refine q_putI (k := 4) (j := 4) d_X12_undo_16 hA.1 fp_12_68 rfl rfl (inr_wr _) w_s0 (fun s2 w_s2 => ?_)
    refine q_iconst d_X12_undo_19 ?_
    refine q_istore_n d_X12_undo_20 rfl ?_
    refine q_jn (α := Mem → Res) (fun j53 => ∀ (s3 : Mem) (w_s3 : WF s3), EO κ M_X12_undo R_X12_undo 53 [none, none] [] s3 (j53 s3)) ?_ (fun j53 hj53 => ?_)
    · intro s3 w_s3
      refine q_iconst d_X12_undo_53 ?_
      exact q_iretz d_X12_undo_54 rfl (Or.inr rfl) w_s3
    refine q_sub (ls' := [some (vr κ a), some (vi 0)]) ⟨rfl, rfl, trivial⟩ ?_
    exact l_X12_undo_21 κ a hA j53 hj53 FU 0 (inr_b (Or.inl rfl)) s2 w_s2
abbrev R_X12_notes : Room := { frames := 0, cells := 0, slots := 0, locals := 0 }
noncomputable def f_X12_notes (a : Nat) (x1 : Int) (x2 : Int) (x3 : Int) (s0 : Mem) : Res :=
  if s0 a 26 = 0 then (some (0, s0)) else (gd ((0 : Int) ≤ 6 ∧ (6 : Int) < 1732) (if s0 (a + 1) 6 = 150 then (some (0, s0)) else (gd ((0 : Int) ≤ 6 ∧ (6 : Int) < 1732) (gd ((0 : Int) ≤ 0 ∧ (0 : Int) < 1732) (gd ((0 : Int) ≤ wr (248 + (wr (4 * (s0 (a + 1) 6)))) ∧ wr (248 + (wr (4 * (s0 (a + 1) 6)))) < 1732) (lm (mup s0 (a + 1) (wr (248 + (wr (4 * (s0 (a + 1) 6))))) (s0 (a + 1) 0)) fun s7 => gd ((0 : Int) ≤ wr ((wr (248 + (wr (4 * (s0 (a + 1) 6))))) + 1) ∧ wr ((wr (248 + (wr (4 * (s0 (a + 1) 6))))) + 1) < 1732) (lm (mup s7 (a + 1) (wr ((wr (248 + (wr (4 * (s0 (a + 1) 6))))) + 1)) x1) fun s9 => gd ((0 : Int) ≤ wr ((wr (248 + (wr (4 * (s0 (a + 1) 6))))) + 2) ∧ wr ((wr (248 + (wr (4 * (s0 (a + 1) 6))))) + 2) < 1732) (lm (mup s9 (a + 1) (wr ((wr (248 + (wr (4 * (s0 (a + 1) 6))))) + 2)) x2) fun s11 => gd ((0 : Int) ≤ wr ((wr (248 + (wr (4 * (s0 (a + 1) 6))))) + 3) ∧ wr ((wr (248 + (wr (4 * (s0 (a + 1) 6))))) + 3) < 1732) (lm (mup s11 (a + 1) (wr ((wr (248 + (wr (4 * (s0 (a + 1) 6))))) + 3)) x3) fun s13 => gd ((0 : Int) ≤ 6 ∧ (6 : Int) < 1732) (gd ((0 : Int) ≤ 6 ∧ (6 : Int) < 1732) (lm (mup s13 (a + 1) 6 (wr ((s13 (a + 1) 6) + 1))) fun s16 => some (0, s16))))))))))))
set_option maxHeartbeats 4000000 in
set_option maxRecDepth 10000 in
theorem c_X12_notes (κ : Kp) (a : Nat) (hA : At12 κ a) (x1 : Int) (h_x1 : InR x1) (x2 : Int) (h_x2 : InR x2) (x3 : Int) (h_x3 : InR x3) (s0 : Mem) : ∀ r σ', f_X12_notes a x1 x2 x3 s0 = some (r, σ') → Ct κ M_X12_notes R_X12_notes [vr κ a, vi x1, vi x2, vi x3] s0 r σ' := by
  intro r σ' ho
  refine Ct.of (by decide) (Nat.le_of_ble_eq_true rfl) (cat_ok rfl) (fun w_s0 => ?_) ⟨rfl, rfl⟩
  refine q_ent (ls' := [some (vr κ a), some (vi x1), some (vi x2), some (vi x3), none]) (o := f_X12_notes a x1 x2 x3 s0) ⟨rfl, rfl, rfl, rfl, trivial⟩ ?_ ho
  unfold f_X12_notes
  refine q_aload_n d_X12_notes_0 rfl ?_
  refine q_getI (k := 26) (j := 26) d_X12_notes_1 hA.1 fi_12_327 rfl rfl ?_
  refine q_if_eq d_X12_notes_4 (w_s0 _ _) (fun c1 => ?_) (fun c1 => ?_)
  · exact q_vret d_X12_notes_20 rfl w_s0
  · refine q_aload_n d_X12_notes_7 rfl ?_
    refine q_getR (n := 1) d_X12_notes_8 hA.1 fi_12_7 rfl (Nat.le_of_ble_eq_true rfl) ?_
    refine q_bipush d_X12_notes_11 rfl ?_
    refine q_iaload (m := 1732) d_X12_notes_13 hA.2.1 (by decide) rfl (fun g2 => ?_)
    refine q_sipush d_X12_notes_14 rfl ?_
    refine q_icmp_ne d_X12_notes_17 (w_s0 _ _) (inr_d rfl) (fun c3 => ?_) (fun c3 => ?_)
    · exact q_vret d_X12_notes_20 rfl w_s0
    · refine q_sipush d_X12_notes_21 rfl ?_
      refine q_iconst d_X12_notes_24 ?_
      refine q_aload_n d_X12_notes_25 rfl ?_
      refine q_getR (n := 1) d_X12_notes_26 hA.1 fi_12_7 rfl (Nat.le_of_ble_eq_true rfl) ?_
      refine q_bipush d_X12_notes_29 rfl ?_
      refine q_iaload (m := 1732) d_X12_notes_31 hA.2.1 (by decide) rfl (fun g4 => ?_)
      refine q_imul d_X12_notes_32 ?_
      refine q_iadd d_X12_notes_33 ?_
      refine q_istore d_X12_notes_34 rfl ?_
      refine q_aload_n d_X12_notes_36 rfl ?_
      refine q_getR (n := 1) d_X12_notes_37 hA.1 fi_12_7 rfl (Nat.le_of_ble_eq_true rfl) ?_
      refine q_iload (x := wr (248 + (wr (4 * (s0 (a + 1) 6))))) d_X12_notes_40 rfl ?_
      refine q_aload_n d_X12_notes_42 rfl ?_
      refine q_getR (n := 1) d_X12_notes_43 hA.1 fi_12_7 rfl (Nat.le_of_ble_eq_true rfl) ?_
      refine q_iconst d_X12_notes_46 ?_
      refine q_iaload (m := 1732) d_X12_notes_47 hA.2.1 (by decide) rfl (fun g5 => ?_)
      refine q_iastore (m := 1732) d_X12_notes_48 hA.2.1 (by decide) rfl (w_s0 _ _) w_s0 (fun g6 s7 w_s7 => ?_)
      refine q_aload_n d_X12_notes_49 rfl ?_
      refine q_getR (n := 1) d_X12_notes_50 hA.1 fi_12_7 rfl (Nat.le_of_ble_eq_true rfl) ?_
      refine q_iload (x := wr (248 + (wr (4 * (s0 (a + 1) 6))))) d_X12_notes_53 rfl ?_
      refine q_iconst d_X12_notes_55 ?_
      refine q_iadd d_X12_notes_56 ?_
      refine q_iload_n (x := x1) d_X12_notes_57 rfl ?_
      refine q_iastore (m := 1732) d_X12_notes_58 hA.2.1 (by decide) rfl h_x1 w_s7 (fun g8 s9 w_s9 => ?_)
      refine q_aload_n d_X12_notes_59 rfl ?_
      refine q_getR (n := 1) d_X12_notes_60 hA.1 fi_12_7 rfl (Nat.le_of_ble_eq_true rfl) ?_
      refine q_iload (x := wr (248 + (wr (4 * (s0 (a + 1) 6))))) d_X12_notes_63 rfl ?_
      refine q_iconst d_X12_notes_65 ?_
      refine q_iadd d_X12_notes_66 ?_
      refine q_iload_n (x := x2) d_X12_notes_67 rfl ?_
      refine q_iastore (m := 1732) d_X12_notes_68 hA.2.1 (by decide) rfl h_x2 w_s9 (fun g10 s11 w_s11 => ?_)
      refine q_aload_n d_X12_notes_69 rfl ?_
      refine q_getR (n := 1) d_X12_notes_70 hA.1 fi_12_7 rfl (Nat.le_of_ble_eq_true rfl) ?_
      refine q_iload (x := wr (248 + (wr (4 * (s0 (a + 1) 6))))) d_X12_notes_73 rfl ?_
      refine q_iconst d_X12_notes_75 ?_
      refine q_iadd d_X12_notes_76 ?_
      refine q_iload_n (x := x3) d_X12_notes_77 rfl ?_
      refine q_iastore (m := 1732) d_X12_notes_78 hA.2.1 (by decide) rfl h_x3 w_s11 (fun g12 s13 w_s13 => ?_)
      refine q_aload_n d_X12_notes_79 rfl ?_
      refine q_getR (n := 1) d_X12_notes_80 hA.1 fi_12_7 rfl (Nat.le_of_ble_eq_true rfl) ?_
      refine q_bipush d_X12_notes_83 rfl ?_
      refine q_dup2 d_X12_notes_85 rfl rfl ?_
      refine q_iaload (m := 1732) d_X12_notes_86 hA.2.1 (by decide) rfl (fun g14 => ?_)
      refine q_iconst d_X12_notes_87 ?_
      refine q_iadd d_X12_notes_88 ?_
      refine q_iastore (m := 1732) d_X12_notes_89 hA.2.1 (by decide) rfl (inr_wr _) w_s13 (fun g15 s16 w_s16 => ?_)
      exact q_vret d_X12_notes_90 rfl w_s16
abbrev R_X12_turns0 : Room := { frames := 1, cells := 0, slots := 0, locals := 24 }
noncomputable def f_X12_turns0 (a : Nat) (x1 : Int) (s0 : Mem) : Res :=
  gd ((0 : Int) ≤ wr (37 + x1) ∧ wr (37 + x1) < 1732) (gd ((0 : Int) ≤ wr (37 + x1) ∧ wr (37 + x1) < 1732) (lm (mup s0 (a + 1) (wr (37 + x1)) (wr (1 - (s0 (a + 1) (wr (37 + x1)))))) fun s3 => bd (f_X12_notes a 1 x1 0 s3) fun r4 s5 => some (0, s5)))
set_option maxHeartbeats 4000000 in
set_option maxRecDepth 10000 in
theorem c_X12_turns0 (κ : Kp) (a : Nat) (hA : At12 κ a) (x1 : Int) (h_x1 : InR x1) (s0 : Mem) : ∀ r σ', f_X12_turns0 a x1 s0 = some (r, σ') → Ct κ M_X12_turns0 R_X12_turns0 [vr κ a, vi x1] s0 r σ' := by
  intro r σ' ho
  refine Ct.of (by decide) (Nat.le_of_ble_eq_true rfl) (cat_ok rfl) (fun w_s0 => ?_) ⟨rfl, rfl⟩
  refine q_ent (ls' := [some (vr κ a), some (vi x1)]) (o := f_X12_turns0 a x1 s0) ⟨rfl, rfl, trivial⟩ ?_ ho
  unfold f_X12_turns0
  refine q_aload_n d_X12_turns0_0 rfl ?_
  refine q_getR (n := 1) d_X12_turns0_1 hA.1 fi_12_7 rfl (Nat.le_of_ble_eq_true rfl) ?_
  refine q_bipush d_X12_turns0_4 rfl ?_
  refine q_iload_n (x := x1) d_X12_turns0_6 rfl ?_
  refine q_iadd d_X12_turns0_7 ?_
  refine q_iconst d_X12_turns0_8 ?_
  refine q_aload_n d_X12_turns0_9 rfl ?_
  refine q_getR (n := 1) d_X12_turns0_10 hA.1 fi_12_7 rfl (Nat.le_of_ble_eq_true rfl) ?_
  refine q_bipush d_X12_turns0_13 rfl ?_
  refine q_iload_n (x := x1) d_X12_turns0_15 rfl ?_
  refine q_iadd d_X12_turns0_16 ?_
  refine q_iaload (m := 1732) d_X12_turns0_17 hA.2.1 (by decide) rfl (fun g1 => ?_)
  refine q_isub d_X12_turns0_18 ?_
  refine q_iastore (m := 1732) d_X12_turns0_19 hA.2.1 (by decide) rfl (inr_wr _) w_s0 (fun g2 s3 w_s3 => ?_)
  refine q_aload_n d_X12_turns0_20 rfl ?_
  refine q_iconst d_X12_turns0_21 ?_
  refine q_iload_n (x := x1) d_X12_turns0_22 rfl ?_
  refine q_iconst d_X12_turns0_23 ?_
  refine q_callV (R' := R_X12_notes) (runV (As := [vi 1, vi x1, vi 0]) (rest := []) d_X12_turns0_24.1 cv_12_331 rfl hA.1 rfl rfl ⟨rfl, rfl, by decide, by decide⟩ (Nat.le_of_ble_eq_true rfl) w_s3 rfl) d_X12_turns0_24.2 (c_X12_notes κ a hA 1 (inr_b (Or.inr rfl)) x1 h_x1 0 (inr_b (Or.inl rfl)) s3) rfl (fun r4 s5 w_s5 => ?_)
  exact q_vret d_X12_turns0_27 rfl w_s5
abbrev R_X12_brings : Room := { frames := 1, cells := 0, slots := 0, locals := 24 }
noncomputable def f_X12_brings (a : Nat) (x1 : Int) (s0 : Mem) : Res :=
  bd (f_X12_stuckIn a x1 s0) fun r1 s2 => gd ((0 : Int) ≤ 4 ∧ (4 : Int) < 1732) (gd ((0 : Int) ≤ 4 ∧ (4 : Int) < 1732) (lm (mup s2 (a + 1) 4 (wr ((s2 (a + 1) 4) + r1))) fun s5 => gd ((0 : Int) ≤ wr (17 + x1) ∧ wr (17 + x1) < 1732) (lm (mup s5 (a + 1) (wr (17 + x1)) 0) fun s7 => gd ((0 : Int) ≤ wr (27 + x1) ∧ wr (27 + x1) < 1732) (lm (mup s7 (a + 1) (wr (27 + x1)) 0) fun s9 => bd (f_X12_notes a 2 x1 r1 s9) fun r10 s11 => some (r1, s11)))))
set_option maxHeartbeats 4000000 in
set_option maxRecDepth 10000 in
theorem c_X12_brings (κ : Kp) (a : Nat) (hA : At12 κ a) (x1 : Int) (h_x1 : InR x1) (s0 : Mem) : ∀ r σ', f_X12_brings a x1 s0 = some (r, σ') → Ct κ M_X12_brings R_X12_brings [vr κ a, vi x1] s0 r σ' := by
  intro r σ' ho
  refine Ct.of (by decide) (Nat.le_of_ble_eq_true rfl) (cat_ok rfl) (fun w_s0 => ?_) ⟨rfl, rfl⟩
  refine q_ent (ls' := [some (vr κ a), some (vi x1), none]) (o := f_X12_brings a x1 s0) ⟨rfl, rfl, trivial⟩ ?_ ho
  unfold f_X12_brings
  refine q_aload_n d_X12_brings_0 rfl ?_
  refine q_iload_n (x := x1) d_X12_brings_1 rfl ?_
  refine q_callI (R' := R_X12_stuckIn) (runV (As := [vi x1]) (rest := []) d_X12_brings_2.1 cv_12_313 rfl hA.1 rfl rfl ⟨rfl, rfl, by decide, by decide⟩ (Nat.le_of_ble_eq_true rfl) w_s0 rfl) d_X12_brings_2.2 (c_X12_stuckIn κ a hA x1 h_x1 s0) rfl (fun r1 s2 h_r1 w_s2 => ?_)
  refine q_istore_n d_X12_brings_5 rfl ?_
  refine q_aload_n d_X12_brings_6 rfl ?_
  refine q_getR (n := 1) d_X12_brings_7 hA.1 fi_12_7 rfl (Nat.le_of_ble_eq_true rfl) ?_
  refine q_iconst d_X12_brings_10 ?_
  refine q_dup2 d_X12_brings_11 rfl rfl ?_
  refine q_iaload (m := 1732) d_X12_brings_12 hA.2.1 (by decide) rfl (fun g3 => ?_)
  refine q_iload_n (x := r1) d_X12_brings_13 rfl ?_
  refine q_iadd d_X12_brings_14 ?_
  refine q_iastore (m := 1732) d_X12_brings_15 hA.2.1 (by decide) rfl (inr_wr _) w_s2 (fun g4 s5 w_s5 => ?_)
  refine q_aload_n d_X12_brings_16 rfl ?_
  refine q_getR (n := 1) d_X12_brings_17 hA.1 fi_12_7 rfl (Nat.le_of_ble_eq_true rfl) ?_
  refine q_bipush d_X12_brings_20 rfl ?_
  refine q_iload_n (x := x1) d_X12_brings_22 rfl ?_
  refine q_iadd d_X12_brings_23 ?_
  refine q_iconst d_X12_brings_24 ?_
  refine q_iastore (m := 1732) d_X12_brings_25 hA.2.1 (by decide) rfl (inr_b (Or.inl rfl)) w_s5 (fun g6 s7 w_s7 => ?_)
  refine q_aload_n d_X12_brings_26 rfl ?_
  refine q_getR (n := 1) d_X12_brings_27 hA.1 fi_12_7 rfl (Nat.le_of_ble_eq_true rfl) ?_
  refine q_bipush d_X12_brings_30 rfl ?_
  refine q_iload_n (x := x1) d_X12_brings_32 rfl ?_
  refine q_iadd d_X12_brings_33 ?_
  refine q_iconst d_X12_brings_34 ?_
  refine q_iastore (m := 1732) d_X12_brings_35 hA.2.1 (by decide) rfl (inr_b (Or.inl rfl)) w_s7 (fun g8 s9 w_s9 => ?_)
  refine q_aload_n d_X12_brings_36 rfl ?_
  refine q_iconst d_X12_brings_37 ?_
  refine q_iload_n (x := x1) d_X12_brings_38 rfl ?_
  refine q_iload_n (x := r1) d_X12_brings_39 rfl ?_
  refine q_callV (R' := R_X12_notes) (runV (As := [vi 2, vi x1, vi r1]) (rest := []) d_X12_brings_40.1 cv_12_331 rfl hA.1 rfl rfl ⟨rfl, rfl, by decide, by decide⟩ (Nat.le_of_ble_eq_true rfl) w_s9 rfl) d_X12_brings_40.2 (c_X12_notes κ a hA 2 (inr_d rfl) x1 h_x1 r1 h_r1 s9) rfl (fun r10 s11 w_s11 => ?_)
  refine q_iload_n (x := r1) d_X12_brings_43 rfl ?_
  exact q_ireti d_X12_brings_44 rfl h_r1 w_s11
abbrev R_X12_movesTo : Room := { frames := 1, cells := 0, slots := 0, locals := 24 }
noncomputable def f_X12_movesTo (a : Nat) (x1 : Int) (x2 : Int) (s0 : Mem) : Res :=
  gd ((0 : Int) ≤ wr (7 + x1) ∧ wr (7 + x1) < 1732) (lm (mup s0 (a + 1) (wr (7 + x1)) x2) fun s2 => bd (f_X12_notes a 5 x1 x2 s2) fun r3 s4 => some (0, s4))
set_option maxHeartbeats 4000000 in
set_option maxRecDepth 10000 in
theorem c_X12_movesTo (κ : Kp) (a : Nat) (hA : At12 κ a) (x1 : Int) (h_x1 : InR x1) (x2 : Int) (h_x2 : InR x2) (s0 : Mem) : ∀ r σ', f_X12_movesTo a x1 x2 s0 = some (r, σ') → Ct κ M_X12_movesTo R_X12_movesTo [vr κ a, vi x1, vi x2] s0 r σ' := by
  intro r σ' ho
  refine Ct.of (by decide) (Nat.le_of_ble_eq_true rfl) (cat_ok rfl) (fun w_s0 => ?_) ⟨rfl, rfl⟩
  refine q_ent (ls' := [some (vr κ a), some (vi x1), some (vi x2)]) (o := f_X12_movesTo a x1 x2 s0) ⟨rfl, rfl, rfl, trivial⟩ ?_ ho
  unfold f_X12_movesTo
  refine q_aload_n d_X12_movesTo_0 rfl ?_
  refine q_getR (n := 1) d_X12_movesTo_1 hA.1 fi_12_7 rfl (Nat.le_of_ble_eq_true rfl) ?_
  refine q_bipush d_X12_movesTo_4 rfl ?_
  refine q_iload_n (x := x1) d_X12_movesTo_6 rfl ?_
  refine q_iadd d_X12_movesTo_7 ?_
  refine q_iload_n (x := x2) d_X12_movesTo_8 rfl ?_
  refine q_iastore (m := 1732) d_X12_movesTo_9 hA.2.1 (by decide) rfl h_x2 w_s0 (fun g1 s2 w_s2 => ?_)
  refine q_aload_n d_X12_movesTo_10 rfl ?_
  refine q_iconst d_X12_movesTo_11 ?_
  refine q_iload_n (x := x1) d_X12_movesTo_12 rfl ?_
  refine q_iload_n (x := x2) d_X12_movesTo_13 rfl ?_
  refine q_callV (R' := R_X12_notes) (runV (As := [vi 5, vi x1, vi x2]) (rest := []) d_X12_movesTo_14.1 cv_12_331 rfl hA.1 rfl rfl ⟨rfl, rfl, by decide, by decide⟩ (Nat.le_of_ble_eq_true rfl) w_s2 rfl) d_X12_movesTo_14.2 (c_X12_notes κ a hA 5 (inr_d rfl) x1 h_x1 x2 h_x2 s2) rfl (fun r3 s4 w_s4 => ?_)
  exact q_vret d_X12_movesTo_17 rfl w_s4
abbrev R_X12_turn : Room := { frames := 3, cells := 0, slots := 0, locals := 64 }
noncomputable def f_X12_turn (a : Nat) (x1 : Int) (s0 : Mem) : Res :=
  bd (f_X12_isAfloat a x1 s0) fun r1 s2 => if r1 = 0 then (some (0, s2)) else (bd (f_X12_keeps0 a s2) fun r4 s5 => bd (f_X12_turns0 a x1 s5) fun r6 s7 => some (1, s7))
set_option maxHeartbeats 4000000 in
set_option maxRecDepth 10000 in
theorem c_X12_turn (κ : Kp) (a : Nat) (hA : At12 κ a) (x1 : Int) (h_x1 : InR x1) (s0 : Mem) : ∀ r σ', f_X12_turn a x1 s0 = some (r, σ') → Ct κ M_X12_turn R_X12_turn [vr κ a, vi x1] s0 r σ' := by
  intro r σ' ho
  refine Ct.of (by decide) (Nat.le_of_ble_eq_true rfl) (cat_ok rfl) (fun w_s0 => ?_) ⟨rfl, rfl⟩
  refine q_ent (ls' := [some (vr κ a), some (vi x1)]) (o := f_X12_turn a x1 s0) ⟨rfl, rfl, trivial⟩ ?_ ho
  unfold f_X12_turn
  refine q_aload_n d_X12_turn_0 rfl ?_
  refine q_iload_n (x := x1) d_X12_turn_1 rfl ?_
  refine q_callZ (R' := R_X12_isAfloat) (runV (As := [vi x1]) (rest := []) d_X12_turn_2.1 cv_12_335 rfl hA.1 rfl rfl ⟨rfl, rfl, by decide, by decide⟩ (Nat.le_of_ble_eq_true rfl) w_s0 rfl) d_X12_turn_2.2 (c_X12_isAfloat κ a hA x1 h_x1 s0) rfl (fun r1 s2 h_r1 w_s2 => ?_)
  refine q_if_ne d_X12_turn_5 (inr_b h_r1) (fun c3 => ?_) (fun c3 => ?_)
  · refine q_iconst d_X12_turn_8 ?_
    exact q_iretz d_X12_turn_9 rfl (Or.inl rfl) w_s2
  · refine q_aload_n d_X12_turn_10 rfl ?_
    refine q_callV (R' := R_X12_keeps0) (runV (As := []) (rest := []) d_X12_turn_11.1 cv_12_338 rfl hA.1 rfl rfl ⟨rfl, rfl, by decide, by decide⟩ (Nat.le_of_ble_eq_true rfl) w_s2 rfl) d_X12_turn_11.2 (c_X12_keeps0 κ a hA s2) rfl (fun r4 s5 w_s5 => ?_)
    refine q_aload_n d_X12_turn_14 rfl ?_
    refine q_iload_n (x := x1) d_X12_turn_15 rfl ?_
    refine q_callV (R' := R_X12_turns0) (runV (As := [vi x1]) (rest := []) d_X12_turn_16.1 cv_12_341 rfl hA.1 rfl rfl ⟨rfl, rfl, by decide, by decide⟩ (Nat.le_of_ble_eq_true rfl) w_s5 rfl) d_X12_turn_16.2 (c_X12_turns0 κ a hA x1 h_x1 s5) rfl (fun r6 s7 w_s7 => ?_)
    refine q_iconst d_X12_turn_19 ?_
    exact q_iretz d_X12_turn_20 rfl (Or.inr rfl) w_s7
abbrev R_X12_home : Room := { frames := 3, cells := 0, slots := 0, locals := 64 }
noncomputable def f_X12_home (a : Nat) (x1 : Int) (s0 : Mem) : Res :=
  bd (f_X12_isAfloat a x1 s0) fun r1 s2 => if r1 = 0 then (some ((-1), s2)) else (bd (f_X12_keeps0 a s2) fun r4 s5 => bd (f_X12_brings a x1 s5) fun r6 s7 => some (r6, s7))
set_option maxHeartbeats 4000000 in
set_option maxRecDepth 10000 in
theorem c_X12_home (κ : Kp) (a : Nat) (hA : At12 κ a) (x1 : Int) (h_x1 : InR x1) (s0 : Mem) : ∀ r σ', f_X12_home a x1 s0 = some (r, σ') → Ct κ M_X12_home R_X12_home [vr κ a, vi x1] s0 r σ' := by
  intro r σ' ho
  refine Ct.of (by decide) (Nat.le_of_ble_eq_true rfl) (cat_ok rfl) (fun w_s0 => ?_) ⟨rfl, rfl⟩
  refine q_ent (ls' := [some (vr κ a), some (vi x1)]) (o := f_X12_home a x1 s0) ⟨rfl, rfl, trivial⟩ ?_ ho
  unfold f_X12_home
  refine q_aload_n d_X12_home_0 rfl ?_
  refine q_iload_n (x := x1) d_X12_home_1 rfl ?_
  refine q_callZ (R' := R_X12_isAfloat) (runV (As := [vi x1]) (rest := []) d_X12_home_2.1 cv_12_335 rfl hA.1 rfl rfl ⟨rfl, rfl, by decide, by decide⟩ (Nat.le_of_ble_eq_true rfl) w_s0 rfl) d_X12_home_2.2 (c_X12_isAfloat κ a hA x1 h_x1 s0) rfl (fun r1 s2 h_r1 w_s2 => ?_)
  refine q_if_ne d_X12_home_5 (inr_b h_r1) (fun c3 => ?_) (fun c3 => ?_)
  · refine q_iconst d_X12_home_8 ?_
    exact q_ireti d_X12_home_9 rfl (inr_d rfl) w_s2
  · refine q_aload_n d_X12_home_10 rfl ?_
    refine q_callV (R' := R_X12_keeps0) (runV (As := []) (rest := []) d_X12_home_11.1 cv_12_338 rfl hA.1 rfl rfl ⟨rfl, rfl, by decide, by decide⟩ (Nat.le_of_ble_eq_true rfl) w_s2 rfl) d_X12_home_11.2 (c_X12_keeps0 κ a hA s2) rfl (fun r4 s5 w_s5 => ?_)
    refine q_aload_n d_X12_home_14 rfl ?_
    refine q_iload_n (x := x1) d_X12_home_15 rfl ?_
    refine q_callI (R' := R_X12_brings) (runV (As := [vi x1]) (rest := []) d_X12_home_16.1 cv_12_344 rfl hA.1 rfl rfl ⟨rfl, rfl, by decide, by decide⟩ (Nat.le_of_ble_eq_true rfl) w_s5 rfl) d_X12_home_16.2 (c_X12_brings κ a hA x1 h_x1 s5) rfl (fun r6 s7 h_r6 w_s7 => ?_)
    exact q_ireti d_X12_home_19 rfl h_r6 w_s7
abbrev R_X12_move : Room := { frames := 3, cells := 0, slots := 0, locals := 64 }
noncomputable def f_X12_move (a : Nat) (x1 : Int) (x2 : Int) (s0 : Mem) : Res :=
  bd (f_X12_isAfloat a x1 s0) fun r1 s2 => if r1 = 0 then (some (0, s2)) else (bd (f_X12_isReach x2 s2) fun r4 s5 => if r4 = 0 then (some (0, s5)) else (bd (f_X12_keeps0 a s5) fun r7 s8 => bd (f_X12_movesTo a x1 x2 s8) fun r9 s10 => some (1, s10)))
set_option maxHeartbeats 4000000 in
set_option maxRecDepth 10000 in
theorem c_X12_move (κ : Kp) (a : Nat) (hA : At12 κ a) (x1 : Int) (h_x1 : InR x1) (x2 : Int) (h_x2 : InR x2) (s0 : Mem) : ∀ r σ', f_X12_move a x1 x2 s0 = some (r, σ') → Ct κ M_X12_move R_X12_move [vr κ a, vi x1, vi x2] s0 r σ' := by
  intro r σ' ho
  refine Ct.of (by decide) (Nat.le_of_ble_eq_true rfl) (cat_ok rfl) (fun w_s0 => ?_) ⟨rfl, rfl⟩
  refine q_ent (ls' := [some (vr κ a), some (vi x1), some (vi x2)]) (o := f_X12_move a x1 x2 s0) ⟨rfl, rfl, rfl, trivial⟩ ?_ ho
  unfold f_X12_move
  refine q_aload_n d_X12_move_0 rfl ?_
  refine q_iload_n (x := x1) d_X12_move_1 rfl ?_
  refine q_callZ (R' := R_X12_isAfloat) (runV (As := [vi x1]) (rest := []) d_X12_move_2.1 cv_12_335 rfl hA.1 rfl rfl ⟨rfl, rfl, by decide, by decide⟩ (Nat.le_of_ble_eq_true rfl) w_s0 rfl) d_X12_move_2.2 (c_X12_isAfloat κ a hA x1 h_x1 s0) rfl (fun r1 s2 h_r1 w_s2 => ?_)
  refine q_if_eq d_X12_move_5 (inr_b h_r1) (fun c3 => ?_) (fun c3 => ?_)
  · refine q_iconst d_X12_move_15 ?_
    exact q_iretz d_X12_move_16 rfl (Or.inl rfl) w_s2
  · refine q_iload_n (x := x2) d_X12_move_8 rfl ?_
    refine q_callZ (R' := R_X12_isReach) (runS (As := [vi x2]) (rest := []) d_X12_move_9.1 cv_12_76 rfl ⟨rfl, rfl, by decide, by decide⟩ (Nat.le_of_ble_eq_true rfl) w_s2 rfl) d_X12_move_9.2 (c_X12_isReach κ x2 h_x2 s2) rfl (fun r4 s5 h_r4 w_s5 => ?_)
    refine q_if_ne d_X12_move_12 (inr_b h_r4) (fun c6 => ?_) (fun c6 => ?_)
    · refine q_iconst d_X12_move_15 ?_
      exact q_iretz d_X12_move_16 rfl (Or.inl rfl) w_s5
    · refine q_aload_n d_X12_move_17 rfl ?_
      refine q_callV (R' := R_X12_keeps0) (runV (As := []) (rest := []) d_X12_move_18.1 cv_12_338 rfl hA.1 rfl rfl ⟨rfl, rfl, by decide, by decide⟩ (Nat.le_of_ble_eq_true rfl) w_s5 rfl) d_X12_move_18.2 (c_X12_keeps0 κ a hA s5) rfl (fun r7 s8 w_s8 => ?_)
      refine q_aload_n d_X12_move_21 rfl ?_
      refine q_iload_n (x := x1) d_X12_move_22 rfl ?_
      refine q_iload_n (x := x2) d_X12_move_23 rfl ?_
      refine q_callV (R' := R_X12_movesTo) (runV (As := [vi x1, vi x2]) (rest := []) d_X12_move_24.1 cv_12_347 rfl hA.1 rfl rfl ⟨rfl, rfl, by decide, by decide⟩ (Nat.le_of_ble_eq_true rfl) w_s8 rfl) d_X12_move_24.2 (c_X12_movesTo κ a hA x1 h_x1 x2 h_x2 s8) rfl (fun r9 s10 w_s10 => ?_)
      refine q_iconst d_X12_move_27 ?_
      exact q_iretz d_X12_move_28 rfl (Or.inr rfl) w_s10
abbrev R_X12_currentAt : Room := { frames := 0, cells := 0, slots := 0, locals := 0 }
noncomputable def f_X12_currentAt_4 (a : Nat) (p1 : Int) (k86 : Int → Res) (s0 : Mem) : Nat → Int → Int → Res
  | 0, _, _ => none
  | n + 1, x2, x3 =>
    gd ((0 : Int) ≤ 60 ∧ (60 : Int) < 1732) (if x3 < s0 (a + 1) 60 then (gd ((0 : Int) ≤ wr (101 + (wr (2 * x3))) ∧ wr (101 + (wr (2 * x3))) < 1732) (gd ((24 : Int) ≠ 0) (lt (Int.tmod (wr ((wr (p1 - (s0 (a + 1) (wr (101 + (wr (2 * x3))))))) + 24)) 24) fun v8 => jn (fun (y9 : Int) => jn (fun (y10 : Int) => f_X12_currentAt_4 a p1 k86 s0 n y10 (wr (x3 + 1))) fun j79 => if y9 < v8 then (j79 x2) else (j79 x3)) fun j65 => if x2 = (-1) then (j65 24) else (gd ((0 : Int) ≤ wr (101 + (wr (2 * x2))) ∧ wr (101 + (wr (2 * x2))) < 1732) (gd ((24 : Int) ≠ 0) (j65 (Int.tmod (wr ((wr (p1 - (s0 (a + 1) (wr (101 + (wr (2 * x2))))))) + 24)) 24))))))) else (k86 x2))
noncomputable def f_X12_currentAt (a : Nat) (x1 : Int) (s0 : Mem) : Res :=
  jn (fun (v1 : Int) => if v1 = (-1) then (some (0, s0)) else (gd ((0 : Int) ≤ wr ((wr (101 + (wr (2 * v1)))) + 1) ∧ wr ((wr (101 + (wr (2 * v1)))) + 1) < 1732) (some (s0 (a + 1) (wr ((wr (101 + (wr (2 * v1)))) + 1)), s0)))) fun j86 => f_X12_currentAt_4 a x1 j86 s0 FU (-1) 0
set_option maxHeartbeats 4000000 in
set_option maxRecDepth 10000 in
theorem l_X12_currentAt_4 (κ : Kp) (a : Nat) (hA : At12 κ a) (p1 : Int) (h_p1 : InR p1) (k86 : Int → Res) (s0 : Mem) (w_s0 : WF s0) (hk86 : ∀ (z2 : Int) (h_z2 : InR z2), EO κ M_X12_currentAt R_X12_currentAt 86 [some (vr κ a), none, some (vi z2), none, none, none] [] s0 (k86 z2)) : ∀ (n : Nat) (x2 : Int) (h_x2 : InR x2) (x3 : Int) (h_x3 : InR x3), EO κ M_X12_currentAt R_X12_currentAt 4 [some (vr κ a), some (vi p1), some (vi x2), some (vi x3), none, none] [] s0 (f_X12_currentAt_4 a p1 k86 s0 n x2 x3) := by
  intro n
  induction n with
  | zero => exact fun _ _ _ _ => q_none
  | succ n ih =>
    intro x2 h_x2 x3 h_x3
    rw [f_X12_currentAt_4]
    refine q_iload_n (x := x3) d_X12_currentAt_4 rfl ?_
    refine q_aload_n d_X12_currentAt_5 rfl ?_
    refine q_getR (n := 1) d_X12_currentAt_6 hA.1 fi_12_7 rfl (Nat.le_of_ble_eq_true rfl) ?_
    refine q_bipush d_X12_currentAt_9 rfl ?_
    refine q_iaload (m := 1732) d_X12_currentAt_11 hA.2.1 (by decide) rfl (fun g4 => ?_)
    refine q_icmp_ge d_X12_currentAt_12 h_x3 (w_s0 _ _) (fun c5 => ?_) (fun c5 => ?_)
    · refine q_iload_n (x := p1) d_X12_currentAt_15 rfl ?_
      refine q_aload_n d_X12_currentAt_16 rfl ?_
      refine q_getR (n := 1) d_X12_currentAt_17 hA.1 fi_12_7 rfl (Nat.le_of_ble_eq_true rfl) ?_
      refine q_bipush d_X12_currentAt_20 rfl ?_
      refine q_iconst d_X12_currentAt_22 ?_
      refine q_iload_n (x := x3) d_X12_currentAt_23 rfl ?_
      refine q_imul d_X12_currentAt_24 ?_
      refine q_iadd d_X12_currentAt_25 ?_
      refine q_iaload (m := 1732) d_X12_currentAt_26 hA.2.1 (by decide) rfl (fun g6 => ?_)
      refine q_isub d_X12_currentAt_27 ?_
      refine q_bipush d_X12_currentAt_28 rfl ?_
      refine q_iadd d_X12_currentAt_30 ?_
      refine q_bipush d_X12_currentAt_31 rfl ?_
      refine q_irem d_X12_currentAt_33 (inr_wr _) (inr_d rfl) (fun g7 => ?_)
      refine q_lt (inr_tmod (inr_wr _) (inr_d rfl)) (fun v8 h_v8 => ?_)
      refine q_istore d_X12_currentAt_34 rfl ?_
      refine q_iload_n (x := x2) d_X12_currentAt_36 rfl ?_
      refine q_iconst d_X12_currentAt_37 ?_
      refine q_jn (α := Int → Res) (fun j65 => ∀ (y9 : Int) (h_y9 : InR y9), EO κ M_X12_currentAt R_X12_currentAt 65 [some (vr κ a), some (vi p1), some (vi x2), some (vi x3), some (vi v8), none] [vi y9] s0 (j65 y9)) ?_ (fun j65 hj65 => ?_)
      · intro y9 h_y9
        refine q_istore d_X12_currentAt_65 rfl ?_
        refine q_iload (x := v8) d_X12_currentAt_67 rfl ?_
        refine q_iload (x := y9) d_X12_currentAt_69 rfl ?_
        refine q_jn (α := Int → Res) (fun j79 => ∀ (y10 : Int) (h_y10 : InR y10), EO κ M_X12_currentAt R_X12_currentAt 79 [some (vr κ a), some (vi p1), none, some (vi x3), none, none] [vi y10] s0 (j79 y10)) ?_ (fun j79 hj79 => ?_)
        · intro y10 h_y10
          refine q_istore_n d_X12_currentAt_79 rfl ?_
          refine q_iinc (x := x3) d_X12_currentAt_80 rfl rfl ?_
          refine q_goto d_X12_currentAt_83 ?_
          refine q_sub (ls' := [some (vr κ a), some (vi p1), some (vi y10), some (vi (wr (x3 + 1))), none, none]) ⟨rfl, rfl, rfl, rfl, trivial⟩ ?_
          exact ih y10 h_y10 (wr (x3 + 1)) (inr_wr _)
        refine q_icmp_gt d_X12_currentAt_71 h_v8 h_y9 (fun c11 => ?_) (fun c11 => ?_)
        · refine q_iload_n (x := x2) d_X12_currentAt_78 rfl ?_
          refine q_sub (ls' := [some (vr κ a), some (vi p1), none, some (vi x3), none, none]) ⟨rfl, rfl, rfl, trivial⟩ ?_
          exact hj79 x2 h_x2
        · refine q_iload_n (x := x3) d_X12_currentAt_74 rfl ?_
          refine q_goto d_X12_currentAt_75 ?_
          refine q_sub (ls' := [some (vr κ a), some (vi p1), none, some (vi x3), none, none]) ⟨rfl, rfl, rfl, trivial⟩ ?_
          exact hj79 x3 h_x3
      refine q_icmp_ne d_X12_currentAt_38 h_x2 (inr_d rfl) (fun c12 => ?_) (fun c12 => ?_)
      · refine q_bipush d_X12_currentAt_41 rfl ?_
        refine q_goto d_X12_currentAt_43 ?_
        refine q_sub (ls' := [some (vr κ a), some (vi p1), some (vi x2), some (vi x3), some (vi v8), none]) ⟨rfl, rfl, rfl, rfl, rfl, trivial⟩ ?_
        exact hj65 24 (inr_d rfl)
      · refine q_iload_n (x := p1) d_X12_currentAt_46 rfl ?_
        refine q_aload_n d_X12_currentAt_47 rfl ?_
        refine q_getR (n := 1) d_X12_currentAt_48 hA.1 fi_12_7 rfl (Nat.le_of_ble_eq_true rfl) ?_
        refine q_bipush d_X12_currentAt_51 rfl ?_
        refine q_iconst d_X12_currentAt_53 ?_
        refine q_iload_n (x := x2) d_X12_currentAt_54 rfl ?_
        refine q_imul d_X12_currentAt_55 ?_
        refine q_iadd d_X12_currentAt_56 ?_
        refine q_iaload (m := 1732) d_X12_currentAt_57 hA.2.1 (by decide) rfl (fun g13 => ?_)
        refine q_isub d_X12_currentAt_58 ?_
        refine q_bipush d_X12_currentAt_59 rfl ?_
        refine q_iadd d_X12_currentAt_61 ?_
        refine q_bipush d_X12_currentAt_62 rfl ?_
        refine q_irem d_X12_currentAt_64 (inr_wr _) (inr_d rfl) (fun g14 => ?_)
        refine q_sub (ls' := [some (vr κ a), some (vi p1), some (vi x2), some (vi x3), some (vi v8), none]) ⟨rfl, rfl, rfl, rfl, rfl, trivial⟩ ?_
        exact hj65 (Int.tmod (wr ((wr (p1 - (s0 (a + 1) (wr (101 + (wr (2 * x2))))))) + 24)) 24) (inr_tmod (inr_wr _) (inr_d rfl))
    · refine q_sub (ls' := [some (vr κ a), none, some (vi x2), none, none, none]) ⟨rfl, rfl, trivial⟩ ?_
      exact hk86 x2 h_x2
set_option maxHeartbeats 4000000 in
set_option maxRecDepth 10000 in
theorem c_X12_currentAt (κ : Kp) (a : Nat) (hA : At12 κ a) (x1 : Int) (h_x1 : InR x1) (s0 : Mem) : ∀ r σ', f_X12_currentAt a x1 s0 = some (r, σ') → Ct κ M_X12_currentAt R_X12_currentAt [vr κ a, vi x1] s0 r σ' := by
  intro r σ' ho
  refine Ct.of (by decide) (Nat.le_of_ble_eq_true rfl) (cat_ok rfl) (fun w_s0 => ?_) ⟨rfl, rfl⟩
  refine q_ent (ls' := [some (vr κ a), some (vi x1), none, none, none, none]) (o := f_X12_currentAt a x1 s0) ⟨rfl, rfl, trivial⟩ ?_ ho
  unfold f_X12_currentAt
  refine q_iconst d_X12_currentAt_0 ?_
  refine q_istore_n d_X12_currentAt_1 rfl ?_
  refine q_iconst d_X12_currentAt_2 ?_
  refine q_istore_n d_X12_currentAt_3 rfl ?_
  refine q_jn (α := Int → Res) (fun j86 => ∀ (v1 : Int) (h_v1 : InR v1), EO κ M_X12_currentAt R_X12_currentAt 86 [some (vr κ a), none, some (vi v1), none, none, none] [] s0 (j86 v1)) ?_ (fun j86 hj86 => ?_)
  · intro v1 h_v1
    refine q_iload_n (x := v1) d_X12_currentAt_86 rfl ?_
    refine q_iconst d_X12_currentAt_87 ?_
    refine q_icmp_ne d_X12_currentAt_88 h_v1 (inr_d rfl) (fun c2 => ?_) (fun c2 => ?_)
    · refine q_iconst d_X12_currentAt_91 ?_
      refine q_goto d_X12_currentAt_92 ?_
      exact q_ireti d_X12_currentAt_108 rfl (inr_b (Or.inl rfl)) w_s0
    · refine q_aload_n d_X12_currentAt_95 rfl ?_
      refine q_getR (n := 1) d_X12_currentAt_96 hA.1 fi_12_7 rfl (Nat.le_of_ble_eq_true rfl) ?_
      refine q_bipush d_X12_currentAt_99 rfl ?_
      refine q_iconst d_X12_currentAt_101 ?_
      refine q_iload_n (x := v1) d_X12_currentAt_102 rfl ?_
      refine q_imul d_X12_currentAt_103 ?_
      refine q_iadd d_X12_currentAt_104 ?_
      refine q_iconst d_X12_currentAt_105 ?_
      refine q_iadd d_X12_currentAt_106 ?_
      refine q_iaload (m := 1732) d_X12_currentAt_107 hA.2.1 (by decide) rfl (fun g3 => ?_)
      exact q_ireti d_X12_currentAt_108 rfl (w_s0 _ _) w_s0
  refine q_sub (ls' := [some (vr κ a), some (vi x1), some (vi (-1)), some (vi 0), none, none]) ⟨rfl, rfl, rfl, rfl, trivial⟩ ?_
  exact l_X12_currentAt_4 κ a hA x1 h_x1 j86 s0 w_s0 hj86 FU (-1) (inr_d rfl) 0 (inr_b (Or.inl rfl))
abbrev R_X12_does : Room := { frames := 3, cells := 0, slots := 0, locals := 64 }
noncomputable def f_X12_does (a : Nat) (x1 : Int) (s0 : Mem) : Res :=
  gd ((0 : Int) ≤ wr (x1 + 2) ∧ wr (x1 + 2) < 1732) (gd ((0 : Int) ≤ wr (x1 + 1) ∧ wr (x1 + 1) < 1732) (if s0 (a + 1) (wr (x1 + 1)) = 12 then (gd ((0 : Int) ≤ 2 ∧ (2 : Int) < 1732) (lm (mup s0 (a + 1) 2 (s0 (a + 1) (wr (x1 + 2)))) fun s5 => some (0, s5))) else (bd (f_X12_isAfloat a (s0 (a + 1) (wr (x1 + 2))) s0) fun r6 s7 => if r6 = 0 then (some (0, s7)) else (gd ((0 : Int) ≤ wr (x1 + 1) ∧ wr (x1 + 1) < 1732) (if s7 (a + 1) (wr (x1 + 1)) = 11 then (bd (f_X12_turns0 a (s0 (a + 1) (wr (x1 + 2))) s7) fun r11 s12 => some (0, s12)) else (gd ((0 : Int) ≤ wr (x1 + 1) ∧ wr (x1 + 1) < 1732) (if s7 (a + 1) (wr (x1 + 1)) = 13 then (bd (f_X12_brings a (s0 (a + 1) (wr (x1 + 2))) s7) fun r15 s16 => some (0, s16)) else (gd ((0 : Int) ≤ wr (x1 + 3) ∧ wr (x1 + 3) < 1732) (bd (f_X12_movesTo a (s0 (a + 1) (wr (x1 + 2))) (s7 (a + 1) (wr (x1 + 3))) s7) fun r18 s19 => some (0, s19))))))))))
set_option maxHeartbeats 4000000 in
set_option maxRecDepth 10000 in
theorem c_X12_does (κ : Kp) (a : Nat) (hA : At12 κ a) (x1 : Int) (h_x1 : InR x1) (s0 : Mem) : ∀ r σ', f_X12_does a x1 s0 = some (r, σ') → Ct κ M_X12_does R_X12_does [vr κ a, vi x1] s0 r σ' := by
  intro r σ' ho
  refine Ct.of (by decide) (Nat.le_of_ble_eq_true rfl) (cat_ok rfl) (fun w_s0 => ?_) ⟨rfl, rfl⟩
  refine q_ent (ls' := [some (vr κ a), some (vi x1), none]) (o := f_X12_does a x1 s0) ⟨rfl, rfl, trivial⟩ ?_ ho
  unfold f_X12_does
  refine q_aload_n d_X12_does_0 rfl ?_
  refine q_getR (n := 1) d_X12_does_1 hA.1 fi_12_7 rfl (Nat.le_of_ble_eq_true rfl) ?_
  refine q_iload_n (x := x1) d_X12_does_4 rfl ?_
  refine q_iconst d_X12_does_5 ?_
  refine q_iadd d_X12_does_6 ?_
  refine q_iaload (m := 1732) d_X12_does_7 hA.2.1 (by decide) rfl (fun g1 => ?_)
  refine q_istore_n d_X12_does_8 rfl ?_
  refine q_aload_n d_X12_does_9 rfl ?_
  refine q_getR (n := 1) d_X12_does_10 hA.1 fi_12_7 rfl (Nat.le_of_ble_eq_true rfl) ?_
  refine q_iload_n (x := x1) d_X12_does_13 rfl ?_
  refine q_iconst d_X12_does_14 ?_
  refine q_iadd d_X12_does_15 ?_
  refine q_iaload (m := 1732) d_X12_does_16 hA.2.1 (by decide) rfl (fun g2 => ?_)
  refine q_bipush d_X12_does_17 rfl ?_
  refine q_icmp_ne d_X12_does_19 (w_s0 _ _) (inr_d rfl) (fun c3 => ?_) (fun c3 => ?_)
  · refine q_aload_n d_X12_does_22 rfl ?_
    refine q_getR (n := 1) d_X12_does_23 hA.1 fi_12_7 rfl (Nat.le_of_ble_eq_true rfl) ?_
    refine q_iconst d_X12_does_26 ?_
    refine q_iload_n (x := s0 (a + 1) (wr (x1 + 2))) d_X12_does_27 rfl ?_
    refine q_iastore (m := 1732) d_X12_does_28 hA.2.1 (by decide) rfl (w_s0 _ _) w_s0 (fun g4 s5 w_s5 => ?_)
    exact q_vret d_X12_does_29 rfl w_s5
  · refine q_aload_n d_X12_does_30 rfl ?_
    refine q_iload_n (x := s0 (a + 1) (wr (x1 + 2))) d_X12_does_31 rfl ?_
    refine q_callZ (R' := R_X12_isAfloat) (runV (As := [vi (s0 (a + 1) (wr (x1 + 2)))]) (rest := []) d_X12_does_32.1 cv_12_335 rfl hA.1 rfl rfl ⟨rfl, rfl, by decide, by decide⟩ (Nat.le_of_ble_eq_true rfl) w_s0 rfl) d_X12_does_32.2 (c_X12_isAfloat κ a hA (s0 (a + 1) (wr (x1 + 2))) (w_s0 _ _) s0) rfl (fun r6 s7 h_r6 w_s7 => ?_)
    refine q_if_ne d_X12_does_35 (inr_b h_r6) (fun c8 => ?_) (fun c8 => ?_)
    · exact q_vret d_X12_does_38 rfl w_s7
    · refine q_aload_n d_X12_does_39 rfl ?_
      refine q_getR (n := 1) d_X12_does_40 hA.1 fi_12_7 rfl (Nat.le_of_ble_eq_true rfl) ?_
      refine q_iload_n (x := x1) d_X12_does_43 rfl ?_
      refine q_iconst d_X12_does_44 ?_
      refine q_iadd d_X12_does_45 ?_
      refine q_iaload (m := 1732) d_X12_does_46 hA.2.1 (by decide) rfl (fun g9 => ?_)
      refine q_bipush d_X12_does_47 rfl ?_
      refine q_icmp_ne d_X12_does_49 (w_s7 _ _) (inr_d rfl) (fun c10 => ?_) (fun c10 => ?_)
      · refine q_aload_n d_X12_does_52 rfl ?_
        refine q_iload_n (x := s0 (a + 1) (wr (x1 + 2))) d_X12_does_53 rfl ?_
        refine q_callV (R' := R_X12_turns0) (runV (As := [vi (s0 (a + 1) (wr (x1 + 2)))]) (rest := []) d_X12_does_54.1 cv_12_341 rfl hA.1 rfl rfl ⟨rfl, rfl, by decide, by decide⟩ (Nat.le_of_ble_eq_true rfl) w_s7 rfl) d_X12_does_54.2 (c_X12_turns0 κ a hA (s0 (a + 1) (wr (x1 + 2))) (w_s0 _ _) s7) rfl (fun r11 s12 w_s12 => ?_)
        refine q_goto d_X12_does_57 ?_
        exact q_vret d_X12_does_95 rfl w_s12
      · refine q_aload_n d_X12_does_60 rfl ?_
        refine q_getR (n := 1) d_X12_does_61 hA.1 fi_12_7 rfl (Nat.le_of_ble_eq_true rfl) ?_
        refine q_iload_n (x := x1) d_X12_does_64 rfl ?_
        refine q_iconst d_X12_does_65 ?_
        refine q_iadd d_X12_does_66 ?_
        refine q_iaload (m := 1732) d_X12_does_67 hA.2.1 (by decide) rfl (fun g13 => ?_)
        refine q_bipush d_X12_does_68 rfl ?_
        refine q_icmp_ne d_X12_does_70 (w_s7 _ _) (inr_d rfl) (fun c14 => ?_) (fun c14 => ?_)
        · refine q_aload_n d_X12_does_73 rfl ?_
          refine q_iload_n (x := s0 (a + 1) (wr (x1 + 2))) d_X12_does_74 rfl ?_
          refine q_callI (R' := R_X12_brings) (runV (As := [vi (s0 (a + 1) (wr (x1 + 2)))]) (rest := []) d_X12_does_75.1 cv_12_344 rfl hA.1 rfl rfl ⟨rfl, rfl, by decide, by decide⟩ (Nat.le_of_ble_eq_true rfl) w_s7 rfl) d_X12_does_75.2 (c_X12_brings κ a hA (s0 (a + 1) (wr (x1 + 2))) (w_s0 _ _) s7) rfl (fun r15 s16 h_r15 w_s16 => ?_)
          refine q_pop d_X12_does_78 rfl ?_
          refine q_goto d_X12_does_79 ?_
          exact q_vret d_X12_does_95 rfl w_s16
        · refine q_aload_n d_X12_does_82 rfl ?_
          refine q_iload_n (x := s0 (a + 1) (wr (x1 + 2))) d_X12_does_83 rfl ?_
          refine q_aload_n d_X12_does_84 rfl ?_
          refine q_getR (n := 1) d_X12_does_85 hA.1 fi_12_7 rfl (Nat.le_of_ble_eq_true rfl) ?_
          refine q_iload_n (x := x1) d_X12_does_88 rfl ?_
          refine q_iconst d_X12_does_89 ?_
          refine q_iadd d_X12_does_90 ?_
          refine q_iaload (m := 1732) d_X12_does_91 hA.2.1 (by decide) rfl (fun g17 => ?_)
          refine q_callV (R' := R_X12_movesTo) (runV (As := [vi (s0 (a + 1) (wr (x1 + 2))), vi (s7 (a + 1) (wr (x1 + 3)))]) (rest := []) d_X12_does_92.1 cv_12_347 rfl hA.1 rfl rfl ⟨rfl, rfl, by decide, by decide⟩ (Nat.le_of_ble_eq_true rfl) w_s7 rfl) d_X12_does_92.2 (c_X12_movesTo κ a hA (s0 (a + 1) (wr (x1 + 2))) (w_s0 _ _) (s7 (a + 1) (wr (x1 + 3))) (w_s7 _ _) s7) rfl (fun r18 s19 w_s19 => ?_)
          exact q_vret d_X12_does_95 rfl w_s19
abbrev R_X12_goesDown : Room := { frames := 1, cells := 0, slots := 0, locals := 24 }
noncomputable def f_X12_goesDown (a : Nat) (x1 : Int) (x2 : Int) (s0 : Mem) : Res :=
  bd (f_X12_stuckIn a x1 s0) fun r1 s2 => gd ((0 : Int) ≤ wr (47 + x1) ∧ wr (47 + x1) < 1732) (lm (mup s2 (a + 1) (wr (47 + x1)) x2) fun s4 => gd ((0 : Int) ≤ wr (17 + x1) ∧ wr (17 + x1) < 1732) (lm (mup s4 (a + 1) (wr (17 + x1)) 0) fun s6 => gd ((0 : Int) ≤ wr (27 + x1) ∧ wr (27 + x1) < 1732) (lm (mup s6 (a + 1) (wr (27 + x1)) 0) fun s8 => jn (fun (y9 : Int) => bd (f_X12_notes a y9 x1 r1 s8) fun r10 s11 => some (0, s11)) fun j47 => if x2 = 1 then (j47 3) else (j47 4))))
set_option maxHeartbeats 4000000 in
set_option maxRecDepth 10000 in
theorem c_X12_goesDown (κ : Kp) (a : Nat) (hA : At12 κ a) (x1 : Int) (h_x1 : InR x1) (x2 : Int) (h_x2 : InR x2) (s0 : Mem) : ∀ r σ', f_X12_goesDown a x1 x2 s0 = some (r, σ') → Ct κ M_X12_goesDown R_X12_goesDown [vr κ a, vi x1, vi x2] s0 r σ' := by
  intro r σ' ho
  refine Ct.of (by decide) (Nat.le_of_ble_eq_true rfl) (cat_ok rfl) (fun w_s0 => ?_) ⟨rfl, rfl⟩
  refine q_ent (ls' := [some (vr κ a), some (vi x1), some (vi x2), none]) (o := f_X12_goesDown a x1 x2 s0) ⟨rfl, rfl, rfl, trivial⟩ ?_ ho
  unfold f_X12_goesDown
  refine q_aload_n d_X12_goesDown_0 rfl ?_
  refine q_iload_n (x := x1) d_X12_goesDown_1 rfl ?_
  refine q_callI (R' := R_X12_stuckIn) (runV (As := [vi x1]) (rest := []) d_X12_goesDown_2.1 cv_12_313 rfl hA.1 rfl rfl ⟨rfl, rfl, by decide, by decide⟩ (Nat.le_of_ble_eq_true rfl) w_s0 rfl) d_X12_goesDown_2.2 (c_X12_stuckIn κ a hA x1 h_x1 s0) rfl (fun r1 s2 h_r1 w_s2 => ?_)
  refine q_istore_n d_X12_goesDown_5 rfl ?_
  refine q_aload_n d_X12_goesDown_6 rfl ?_
  refine q_getR (n := 1) d_X12_goesDown_7 hA.1 fi_12_7 rfl (Nat.le_of_ble_eq_true rfl) ?_
  refine q_bipush d_X12_goesDown_10 rfl ?_
  refine q_iload_n (x := x1) d_X12_goesDown_12 rfl ?_
  refine q_iadd d_X12_goesDown_13 ?_
  refine q_iload_n (x := x2) d_X12_goesDown_14 rfl ?_
  refine q_iastore (m := 1732) d_X12_goesDown_15 hA.2.1 (by decide) rfl h_x2 w_s2 (fun g3 s4 w_s4 => ?_)
  refine q_aload_n d_X12_goesDown_16 rfl ?_
  refine q_getR (n := 1) d_X12_goesDown_17 hA.1 fi_12_7 rfl (Nat.le_of_ble_eq_true rfl) ?_
  refine q_bipush d_X12_goesDown_20 rfl ?_
  refine q_iload_n (x := x1) d_X12_goesDown_22 rfl ?_
  refine q_iadd d_X12_goesDown_23 ?_
  refine q_iconst d_X12_goesDown_24 ?_
  refine q_iastore (m := 1732) d_X12_goesDown_25 hA.2.1 (by decide) rfl (inr_b (Or.inl rfl)) w_s4 (fun g5 s6 w_s6 => ?_)
  refine q_aload_n d_X12_goesDown_26 rfl ?_
  refine q_getR (n := 1) d_X12_goesDown_27 hA.1 fi_12_7 rfl (Nat.le_of_ble_eq_true rfl) ?_
  refine q_bipush d_X12_goesDown_30 rfl ?_
  refine q_iload_n (x := x1) d_X12_goesDown_32 rfl ?_
  refine q_iadd d_X12_goesDown_33 ?_
  refine q_iconst d_X12_goesDown_34 ?_
  refine q_iastore (m := 1732) d_X12_goesDown_35 hA.2.1 (by decide) rfl (inr_b (Or.inl rfl)) w_s6 (fun g7 s8 w_s8 => ?_)
  refine q_aload_n d_X12_goesDown_36 rfl ?_
  refine q_iload_n (x := x2) d_X12_goesDown_37 rfl ?_
  refine q_iconst d_X12_goesDown_38 ?_
  refine q_jn (α := Int → Res) (fun j47 => ∀ (y9 : Int) (h_y9 : InR y9), EO κ M_X12_goesDown R_X12_goesDown 47 [none, some (vi x1), none, some (vi r1)] [vi y9, vr κ a] s8 (j47 y9)) ?_ (fun j47 hj47 => ?_)
  · intro y9 h_y9
    refine q_iload_n (x := x1) d_X12_goesDown_47 rfl ?_
    refine q_iload_n (x := r1) d_X12_goesDown_48 rfl ?_
    refine q_callV (R' := R_X12_notes) (runV (As := [vi y9, vi x1, vi r1]) (rest := []) d_X12_goesDown_49.1 cv_12_331 rfl hA.1 rfl rfl ⟨rfl, rfl, by decide, by decide⟩ (Nat.le_of_ble_eq_true rfl) w_s8 rfl) d_X12_goesDown_49.2 (c_X12_notes κ a hA y9 h_y9 x1 h_x1 r1 h_r1 s8) rfl (fun r10 s11 w_s11 => ?_)
    exact q_vret d_X12_goesDown_52 rfl w_s11
  refine q_icmp_ne d_X12_goesDown_39 h_x2 (inr_b (Or.inr rfl)) (fun c12 => ?_) (fun c12 => ?_)
  · refine q_iconst d_X12_goesDown_42 ?_
    refine q_goto d_X12_goesDown_43 ?_
    refine q_sub (ls' := [none, some (vi x1), none, some (vi r1)]) ⟨rfl, rfl, trivial⟩ ?_
    exact hj47 3 (inr_d rfl)
  · refine q_iconst d_X12_goesDown_46 ?_
    refine q_sub (ls' := [none, some (vi x1), none, some (vi r1)]) ⟨rfl, rfl, trivial⟩ ?_
    exact hj47 4 (inr_d rfl)
abbrev R_X12_isShot : Room := { frames := 5, cells := 0, slots := 0, locals := 116 }
noncomputable def f_X12_isShot (a : Nat) (x1 : Int) (s0 : Mem) : Res :=
  bd (f_X12_shotAt a x1 s0) fun r1 s2 => gd ((0 : Int) ≤ wr (75 + x1) ∧ wr (75 + x1) < 1732) (jn (fun (y4 : Int) (s5 : Mem) => gd ((0 : Int) ≤ wr (37 + x1) ∧ wr (37 + x1) < 1732) (jn (fun (y7 : Int) => gd ((0 : Int) ≤ wr (y7 + x1) ∧ wr (y7 + x1) < 1732) (bd (f_X12_lesser 999 (wr ((s5 (a + 1) (wr (y7 + x1))) + y4)) s5) fun r9 s10 => gd ((0 : Int) ≤ wr (y7 + x1) ∧ wr (y7 + x1) < 1732) (gd ((0 : Int) ≤ wr (y7 + x1) ∧ wr (y7 + x1) < 1732) (gd ((0 : Int) ≤ wr (y7 + x1) ∧ wr (y7 + x1) < 1732) (lm (mup s10 (a + 1) (wr (y7 + x1)) (wr ((s10 (a + 1) (wr (y7 + x1))) + (wr (r9 - (s10 (a + 1) (wr (y7 + x1)))))))) fun s14 => jn (fun (s15 : Mem) => gd ((0 : Int) ≤ 3 ∧ (3 : Int) < 1732) (gd ((0 : Int) ≤ 2 ∧ (2 : Int) < 1732) (bd (f_X12_lesser 99 (wr ((s15 (a + 1) 3) + (s15 (a + 1) 2))) s15) fun r18 s19 => gd ((0 : Int) ≤ 3 ∧ (3 : Int) < 1732) (lm (mup s19 (a + 1) 3 r18) fun s21 => bd (f_X12_leanOf a x1 s21) fun r22 s23 => bd (f_X12_listOf a x1 s23) fun r24 s25 => if r24 < r22 then (bd (f_X12_goesDown a x1 1 s25) fun r27 s28 => some (wr (r9 - (s10 (a + 1) (wr (y7 + x1)))), s28)) else (if s25 a 26 = 0 then (some (wr (r9 - (s10 (a + 1) (wr (y7 + x1)))), s25)) else (gd ((0 : Int) ≤ 57 ∧ (57 : Int) < 1732) (if 0 < s25 (a + 1) 57 then (gd ((0 : Int) ≤ 3 ∧ (3 : Int) < 1732) (if s25 (a + 1) 3 < 50 then (some (wr (r9 - (s10 (a + 1) (wr (y7 + x1)))), s25)) else (bd (f_X12_draw a 1000 s25) fun r34 s35 => gd ((0 : Int) ≤ 57 ∧ (57 : Int) < 1732) (if r34 < s35 (a + 1) 57 then (bd (f_X12_goesDown a x1 2 s35) fun r38 s39 => some (wr (r9 - (s10 (a + 1) (wr (y7 + x1)))), s39)) else (some (wr (r9 - (s10 (a + 1) (wr (y7 + x1)))), s35)))))) else (some (wr (r9 - (s10 (a + 1) (wr (y7 + x1)))), s25))))))))) fun j108 => if 0 < wr (r9 - (s10 (a + 1) (wr (y7 + x1)))) then (bd (f_X12_notes a 0 x1 (wr (r9 - (s10 (a + 1) (wr (y7 + x1))))) s14) fun r41 s42 => j108 s42) else (j108 s14)))))) fun j54 => if s5 (a + 1) (wr (37 + x1)) = 1 then (j54 17) else (j54 27))) fun j33 => if s2 (a + 1) (wr (75 + x1)) = 2 then (j33 0 s2) else (bd (f_X12_stickIn a x1 s2) fun r45 s46 => gd ((100 : Int) ≠ 0) (j33 (wr (Int.tdiv (wr (r1 * r45)) 100)) s46)))
set_option maxHeartbeats 4000000 in
set_option maxRecDepth 10000 in
theorem c_X12_isShot (κ : Kp) (a : Nat) (hA : At12 κ a) (x1 : Int) (h_x1 : InR x1) (s0 : Mem) : ∀ r σ', f_X12_isShot a x1 s0 = some (r, σ') → Ct κ M_X12_isShot R_X12_isShot [vr κ a, vi x1] s0 r σ' := by
  intro r σ' ho
  refine Ct.of (by decide) (Nat.le_of_ble_eq_true rfl) (cat_ok rfl) (fun w_s0 => ?_) ⟨rfl, rfl⟩
  refine q_ent (ls' := [some (vr κ a), some (vi x1), none, none, none, none]) (o := f_X12_isShot a x1 s0) ⟨rfl, rfl, trivial⟩ ?_ ho
  unfold f_X12_isShot
  refine q_aload_n d_X12_isShot_0 rfl ?_
  refine q_iload_n (x := x1) d_X12_isShot_1 rfl ?_
  refine q_callI (R' := R_X12_shotAt) (runV (As := [vi x1]) (rest := []) d_X12_isShot_2.1 cv_12_350 rfl hA.1 rfl rfl ⟨rfl, rfl, by decide, by decide⟩ (Nat.le_of_ble_eq_true rfl) w_s0 rfl) d_X12_isShot_2.2 (c_X12_shotAt κ a hA x1 h_x1 s0) rfl (fun r1 s2 h_r1 w_s2 => ?_)
  refine q_istore_n d_X12_isShot_5 rfl ?_
  refine q_aload_n d_X12_isShot_6 rfl ?_
  refine q_getR (n := 1) d_X12_isShot_7 hA.1 fi_12_7 rfl (Nat.le_of_ble_eq_true rfl) ?_
  refine q_bipush d_X12_isShot_10 rfl ?_
  refine q_iload_n (x := x1) d_X12_isShot_12 rfl ?_
  refine q_iadd d_X12_isShot_13 ?_
  refine q_iaload (m := 1732) d_X12_isShot_14 hA.2.1 (by decide) rfl (fun g3 => ?_)
  refine q_iconst d_X12_isShot_15 ?_
  refine q_jn (α := Int → Mem → Res) (fun j33 => ∀ (y4 : Int) (h_y4 : InR y4) (s5 : Mem) (w_s5 : WF s5), EO κ M_X12_isShot R_X12_isShot 33 [some (vr κ a), some (vi x1), none, none, none, none] [vi y4] s5 (j33 y4 s5)) ?_ (fun j33 hj33 => ?_)
  · intro y4 h_y4 s5 w_s5
    refine q_istore_n d_X12_isShot_33 rfl ?_
    refine q_aload_n d_X12_isShot_34 rfl ?_
    refine q_getR (n := 1) d_X12_isShot_35 hA.1 fi_12_7 rfl (Nat.le_of_ble_eq_true rfl) ?_
    refine q_bipush d_X12_isShot_38 rfl ?_
    refine q_iload_n (x := x1) d_X12_isShot_40 rfl ?_
    refine q_iadd d_X12_isShot_41 ?_
    refine q_iaload (m := 1732) d_X12_isShot_42 hA.2.1 (by decide) rfl (fun g6 => ?_)
    refine q_iconst d_X12_isShot_43 ?_
    refine q_jn (α := Int → Res) (fun j54 => ∀ (y7 : Int) (h_y7 : InR y7), EO κ M_X12_isShot R_X12_isShot 54 [some (vr κ a), some (vi x1), none, some (vi y4), none, none] [vi y7] s5 (j54 y7)) ?_ (fun j54 hj54 => ?_)
    · intro y7 h_y7
      refine q_iload_n (x := x1) d_X12_isShot_54 rfl ?_
      refine q_iadd d_X12_isShot_55 ?_
      refine q_istore d_X12_isShot_56 rfl ?_
      refine q_sipush d_X12_isShot_58 rfl ?_
      refine q_aload_n d_X12_isShot_61 rfl ?_
      refine q_getR (n := 1) d_X12_isShot_62 hA.1 fi_12_7 rfl (Nat.le_of_ble_eq_true rfl) ?_
      refine q_iload (x := wr (y7 + x1)) d_X12_isShot_65 rfl ?_
      refine q_iaload (m := 1732) d_X12_isShot_67 hA.2.1 (by decide) rfl (fun g8 => ?_)
      refine q_iload_n (x := y4) d_X12_isShot_68 rfl ?_
      refine q_iadd d_X12_isShot_69 ?_
      refine q_callI (R' := R_X12_lesser) (runS (As := [vi 999, vi (wr ((s5 (a + 1) (wr (y7 + x1))) + y4))]) (rest := []) d_X12_isShot_70.1 cv_12_53 rfl ⟨rfl, rfl, by decide, by decide⟩ (Nat.le_of_ble_eq_true rfl) w_s5 rfl) d_X12_isShot_70.2 (c_X12_lesser κ 999 (inr_d rfl) (wr ((s5 (a + 1) (wr (y7 + x1))) + y4)) (inr_wr _) s5) rfl (fun r9 s10 h_r9 w_s10 => ?_)
      refine q_aload_n d_X12_isShot_73 rfl ?_
      refine q_getR (n := 1) d_X12_isShot_74 hA.1 fi_12_7 rfl (Nat.le_of_ble_eq_true rfl) ?_
      refine q_iload (x := wr (y7 + x1)) d_X12_isShot_77 rfl ?_
      refine q_iaload (m := 1732) d_X12_isShot_79 hA.2.1 (by decide) rfl (fun g11 => ?_)
      refine q_isub d_X12_isShot_80 ?_
      refine q_istore d_X12_isShot_81 rfl ?_
      refine q_aload_n d_X12_isShot_83 rfl ?_
      refine q_getR (n := 1) d_X12_isShot_84 hA.1 fi_12_7 rfl (Nat.le_of_ble_eq_true rfl) ?_
      refine q_iload (x := wr (y7 + x1)) d_X12_isShot_87 rfl ?_
      refine q_dup2 d_X12_isShot_89 rfl rfl ?_
      refine q_iaload (m := 1732) d_X12_isShot_90 hA.2.1 (by decide) rfl (fun g12 => ?_)
      refine q_iload (x := wr (r9 - (s10 (a + 1) (wr (y7 + x1))))) d_X12_isShot_91 rfl ?_
      refine q_iadd d_X12_isShot_93 ?_
      refine q_iastore (m := 1732) d_X12_isShot_94 hA.2.1 (by decide) rfl (inr_wr _) w_s10 (fun g13 s14 w_s14 => ?_)
      refine q_iload (x := wr (r9 - (s10 (a + 1) (wr (y7 + x1))))) d_X12_isShot_95 rfl ?_
      refine q_jn (α := Mem → Res) (fun j108 => ∀ (s15 : Mem) (w_s15 : WF s15), EO κ M_X12_isShot R_X12_isShot 108 [some (vr κ a), some (vi x1), none, none, none, some (vi (wr (r9 - (s10 (a + 1) (wr (y7 + x1))))))] [] s15 (j108 s15)) ?_ (fun j108 hj108 => ?_)
      · intro s15 w_s15
        refine q_aload_n d_X12_isShot_108 rfl ?_
        refine q_getR (n := 1) d_X12_isShot_109 hA.1 fi_12_7 rfl (Nat.le_of_ble_eq_true rfl) ?_
        refine q_iconst d_X12_isShot_112 ?_
        refine q_bipush d_X12_isShot_113 rfl ?_
        refine q_aload_n d_X12_isShot_115 rfl ?_
        refine q_getR (n := 1) d_X12_isShot_116 hA.1 fi_12_7 rfl (Nat.le_of_ble_eq_true rfl) ?_
        refine q_iconst d_X12_isShot_119 ?_
        refine q_iaload (m := 1732) d_X12_isShot_120 hA.2.1 (by decide) rfl (fun g16 => ?_)
        refine q_aload_n d_X12_isShot_121 rfl ?_
        refine q_getR (n := 1) d_X12_isShot_122 hA.1 fi_12_7 rfl (Nat.le_of_ble_eq_true rfl) ?_
        refine q_iconst d_X12_isShot_125 ?_
        refine q_iaload (m := 1732) d_X12_isShot_126 hA.2.1 (by decide) rfl (fun g17 => ?_)
        refine q_iadd d_X12_isShot_127 ?_
        refine q_callI (R' := R_X12_lesser) (runS (As := [vi 99, vi (wr ((s15 (a + 1) 3) + (s15 (a + 1) 2)))]) (rest := [vi 3, vr κ (a + 1)]) d_X12_isShot_128.1 cv_12_53 rfl ⟨rfl, rfl, by decide, by decide⟩ (Nat.le_of_ble_eq_true rfl) w_s15 rfl) d_X12_isShot_128.2 (c_X12_lesser κ 99 (inr_d rfl) (wr ((s15 (a + 1) 3) + (s15 (a + 1) 2))) (inr_wr _) s15) rfl (fun r18 s19 h_r18 w_s19 => ?_)
        refine q_iastore (m := 1732) d_X12_isShot_131 hA.2.1 (by decide) rfl h_r18 w_s19 (fun g20 s21 w_s21 => ?_)
        refine q_aload_n d_X12_isShot_132 rfl ?_
        refine q_iload_n (x := x1) d_X12_isShot_133 rfl ?_
        refine q_callI (R' := R_X12_leanOf) (runV (As := [vi x1]) (rest := []) d_X12_isShot_134.1 cv_12_316 rfl hA.1 rfl rfl ⟨rfl, rfl, by decide, by decide⟩ (Nat.le_of_ble_eq_true rfl) w_s21 rfl) d_X12_isShot_134.2 (c_X12_leanOf κ a hA x1 h_x1 s21) rfl (fun r22 s23 h_r22 w_s23 => ?_)
        refine q_aload_n d_X12_isShot_137 rfl ?_
        refine q_iload_n (x := x1) d_X12_isShot_138 rfl ?_
        refine q_callI (R' := R_X12_listOf) (runV (As := [vi x1]) (rest := [vi r22]) d_X12_isShot_139.1 cv_12_356 rfl hA.1 rfl rfl ⟨rfl, rfl, by decide, by decide⟩ (Nat.le_of_ble_eq_true rfl) w_s23 rfl) d_X12_isShot_139.2 (c_X12_listOf κ a hA x1 h_x1 s23) rfl (fun r24 s25 h_r24 w_s25 => ?_)
        refine q_icmp_le d_X12_isShot_142 h_r22 h_r24 (fun c26 => ?_) (fun c26 => ?_)
        · refine q_aload_n d_X12_isShot_145 rfl ?_
          refine q_iload_n (x := x1) d_X12_isShot_146 rfl ?_
          refine q_iconst d_X12_isShot_147 ?_
          refine q_callV (R' := R_X12_goesDown) (runV (As := [vi x1, vi 1]) (rest := []) d_X12_isShot_148.1 cv_12_359 rfl hA.1 rfl rfl ⟨rfl, rfl, by decide, by decide⟩ (Nat.le_of_ble_eq_true rfl) w_s25 rfl) d_X12_isShot_148.2 (c_X12_goesDown κ a hA x1 h_x1 1 (inr_b (Or.inr rfl)) s25) rfl (fun r27 s28 w_s28 => ?_)
          refine q_goto d_X12_isShot_151 ?_
          refine q_iload (x := wr (r9 - (s10 (a + 1) (wr (y7 + x1))))) d_X12_isShot_205 rfl ?_
          exact q_ireti d_X12_isShot_207 rfl (inr_wr _) w_s28
        · refine q_aload_n d_X12_isShot_154 rfl ?_
          refine q_getI (k := 26) (j := 26) d_X12_isShot_155 hA.1 fi_12_327 rfl rfl ?_
          refine q_if_eq d_X12_isShot_158 (w_s25 _ _) (fun c29 => ?_) (fun c29 => ?_)
          · refine q_iload (x := wr (r9 - (s10 (a + 1) (wr (y7 + x1))))) d_X12_isShot_205 rfl ?_
            exact q_ireti d_X12_isShot_207 rfl (inr_wr _) w_s25
          · refine q_aload_n d_X12_isShot_161 rfl ?_
            refine q_getR (n := 1) d_X12_isShot_162 hA.1 fi_12_7 rfl (Nat.le_of_ble_eq_true rfl) ?_
            refine q_bipush d_X12_isShot_165 rfl ?_
            refine q_iaload (m := 1732) d_X12_isShot_167 hA.2.1 (by decide) rfl (fun g30 => ?_)
            refine q_if_le d_X12_isShot_168 (w_s25 _ _) (fun c31 => ?_) (fun c31 => ?_)
            · refine q_aload_n d_X12_isShot_171 rfl ?_
              refine q_getR (n := 1) d_X12_isShot_172 hA.1 fi_12_7 rfl (Nat.le_of_ble_eq_true rfl) ?_
              refine q_iconst d_X12_isShot_175 ?_
              refine q_iaload (m := 1732) d_X12_isShot_176 hA.2.1 (by decide) rfl (fun g32 => ?_)
              refine q_bipush d_X12_isShot_177 rfl ?_
              refine q_icmp_lt d_X12_isShot_179 (w_s25 _ _) (inr_d rfl) (fun c33 => ?_) (fun c33 => ?_)
              · refine q_iload (x := wr (r9 - (s10 (a + 1) (wr (y7 + x1))))) d_X12_isShot_205 rfl ?_
                exact q_ireti d_X12_isShot_207 rfl (inr_wr _) w_s25
              · refine q_aload_n d_X12_isShot_182 rfl ?_
                refine q_sipush d_X12_isShot_183 rfl ?_
                refine q_callI (R' := R_X12_draw) (runV (As := [vi 1000]) (rest := []) d_X12_isShot_186.1 cv_12_362 rfl hA.1 rfl rfl ⟨rfl, rfl, by decide, by decide⟩ (Nat.le_of_ble_eq_true rfl) w_s25 rfl) d_X12_isShot_186.2 (c_X12_draw κ a hA 1000 (inr_d rfl) s25) rfl (fun r34 s35 h_r34 w_s35 => ?_)
                refine q_aload_n d_X12_isShot_189 rfl ?_
                refine q_getR (n := 1) d_X12_isShot_190 hA.1 fi_12_7 rfl (Nat.le_of_ble_eq_true rfl) ?_
                refine q_bipush d_X12_isShot_193 rfl ?_
                refine q_iaload (m := 1732) d_X12_isShot_195 hA.2.1 (by decide) rfl (fun g36 => ?_)
                refine q_icmp_ge d_X12_isShot_196 h_r34 (w_s35 _ _) (fun c37 => ?_) (fun c37 => ?_)
                · refine q_aload_n d_X12_isShot_199 rfl ?_
                  refine q_iload_n (x := x1) d_X12_isShot_200 rfl ?_
                  refine q_iconst d_X12_isShot_201 ?_
                  refine q_callV (R' := R_X12_goesDown) (runV (As := [vi x1, vi 2]) (rest := []) d_X12_isShot_202.1 cv_12_359 rfl hA.1 rfl rfl ⟨rfl, rfl, by decide, by decide⟩ (Nat.le_of_ble_eq_true rfl) w_s35 rfl) d_X12_isShot_202.2 (c_X12_goesDown κ a hA x1 h_x1 2 (inr_d rfl) s35) rfl (fun r38 s39 w_s39 => ?_)
                  refine q_iload (x := wr (r9 - (s10 (a + 1) (wr (y7 + x1))))) d_X12_isShot_205 rfl ?_
                  exact q_ireti d_X12_isShot_207 rfl (inr_wr _) w_s39
                · refine q_iload (x := wr (r9 - (s10 (a + 1) (wr (y7 + x1))))) d_X12_isShot_205 rfl ?_
                  exact q_ireti d_X12_isShot_207 rfl (inr_wr _) w_s35
            · refine q_iload (x := wr (r9 - (s10 (a + 1) (wr (y7 + x1))))) d_X12_isShot_205 rfl ?_
              exact q_ireti d_X12_isShot_207 rfl (inr_wr _) w_s25
      refine q_if_le d_X12_isShot_97 (inr_wr _) (fun c40 => ?_) (fun c40 => ?_)
      · refine q_aload_n d_X12_isShot_100 rfl ?_
        refine q_iconst d_X12_isShot_101 ?_
        refine q_iload_n (x := x1) d_X12_isShot_102 rfl ?_
        refine q_iload (x := wr (r9 - (s10 (a + 1) (wr (y7 + x1))))) d_X12_isShot_103 rfl ?_
        refine q_callV (R' := R_X12_notes) (runV (As := [vi 0, vi x1, vi (wr (r9 - (s10 (a + 1) (wr (y7 + x1)))))]) (rest := []) d_X12_isShot_105.1 cv_12_331 rfl hA.1 rfl rfl ⟨rfl, rfl, by decide, by decide⟩ (Nat.le_of_ble_eq_true rfl) w_s14 rfl) d_X12_isShot_105.2 (c_X12_notes κ a hA 0 (inr_b (Or.inl rfl)) x1 h_x1 (wr (r9 - (s10 (a + 1) (wr (y7 + x1))))) (inr_wr _) s14) rfl (fun r41 s42 w_s42 => ?_)
        refine q_sub (ls' := [some (vr κ a), some (vi x1), none, none, none, some (vi (wr (r9 - (s10 (a + 1) (wr (y7 + x1))))))]) ⟨rfl, rfl, rfl, trivial⟩ ?_
        exact hj108 s42 w_s42
      · refine q_sub (ls' := [some (vr κ a), some (vi x1), none, none, none, some (vi (wr (r9 - (s10 (a + 1) (wr (y7 + x1))))))]) ⟨rfl, rfl, rfl, trivial⟩ ?_
        exact hj108 s14 w_s14
    refine q_icmp_ne d_X12_isShot_44 (w_s5 _ _) (inr_b (Or.inr rfl)) (fun c43 => ?_) (fun c43 => ?_)
    · refine q_bipush d_X12_isShot_47 rfl ?_
      refine q_goto d_X12_isShot_49 ?_
      refine q_sub (ls' := [some (vr κ a), some (vi x1), none, some (vi y4), none, none]) ⟨rfl, rfl, rfl, trivial⟩ ?_
      exact hj54 17 (inr_d rfl)
    · refine q_bipush d_X12_isShot_52 rfl ?_
      refine q_sub (ls' := [some (vr κ a), some (vi x1), none, some (vi y4), none, none]) ⟨rfl, rfl, rfl, trivial⟩ ?_
      exact hj54 27 (inr_d rfl)
  refine q_icmp_ne d_X12_isShot_16 (w_s2 _ _) (inr_d rfl) (fun c44 => ?_) (fun c44 => ?_)
  · refine q_iconst d_X12_isShot_19 ?_
    refine q_goto d_X12_isShot_20 ?_
    refine q_sub (ls' := [some (vr κ a), some (vi x1), none, none, none, none]) ⟨rfl, rfl, trivial⟩ ?_
    exact hj33 0 (inr_b (Or.inl rfl)) s2 w_s2
  · refine q_iload_n (x := r1) d_X12_isShot_23 rfl ?_
    refine q_aload_n d_X12_isShot_24 rfl ?_
    refine q_iload_n (x := x1) d_X12_isShot_25 rfl ?_
    refine q_callI (R' := R_X12_stickIn) (runV (As := [vi x1]) (rest := [vi r1]) d_X12_isShot_26.1 cv_12_353 rfl hA.1 rfl rfl ⟨rfl, rfl, by decide, by decide⟩ (Nat.le_of_ble_eq_true rfl) w_s2 rfl) d_X12_isShot_26.2 (c_X12_stickIn κ a hA x1 h_x1 s2) rfl (fun r45 s46 h_r45 w_s46 => ?_)
    refine q_imul d_X12_isShot_29 ?_
    refine q_bipush d_X12_isShot_30 rfl ?_
    refine q_idiv d_X12_isShot_32 (inr_wr _) (inr_d rfl) (fun g47 => ?_)
    refine q_sub (ls' := [some (vr κ a), some (vi x1), none, none, none, none]) ⟨rfl, rfl, trivial⟩ ?_
    exact hj33 (wr (Int.tdiv (wr (r1 * r45)) 100)) (inr_wr _) s46 w_s46
abbrev R_X12_anHour : Room := { frames := 6, cells := 0, slots := 0, locals := 141 }
noncomputable def f_X12_anHour_122 (a : Nat) (k159 : Int → Mem → Res) : Nat → Int → Int → Mem → Res
  | 0, _, _, _ => none
  | n + 1, x2, x3, s0 =>
    gd ((0 : Int) ≤ 58 ∧ (58 : Int) < 1732) (if x3 < s0 (a + 1) 58 then (bd (f_X12_isAfloat a x3 s0) fun r35 s36 => jn (fun (y37 : Int) (s38 : Mem) => f_X12_anHour_122 a k159 n (wr (x2 + y37)) (wr (x3 + 1)) s38) fun j151 => if r35 = 0 then (j151 0 s36) else (bd (f_X12_isShot a x3 s36) fun r40 s41 => j151 r40 s41)) else (k159 x2 s0))
noncomputable def f_X12_anHour_67 (a : Nat) (p1 : Int) (k118 : Mem → Res) : Nat → Int → Mem → Res
  | 0, _, _ => none
  | n + 1, x2, s0 =>
    gd ((0 : Int) ≤ 58 ∧ (58 : Int) < 1732) (if x2 < s0 (a + 1) 58 then (bd (f_X12_isAfloat a x2 s0) fun r44 s45 => jn (fun (s46 : Mem) => f_X12_anHour_67 a p1 k118 n (wr (x2 + 1)) s46) fun j112 => if r44 = 0 then (j112 s45) else (gd ((0 : Int) ≤ wr (7 + x2) ∧ wr (7 + x2) < 1732) (bd (f_X12_held (wr ((s45 (a + 1) (wr (7 + x2))) + p1)) 0 15 s45) fun r49 s50 => gd ((0 : Int) ≤ wr (7 + x2) ∧ wr (7 + x2) < 1732) (lm (mup s50 (a + 1) (wr (7 + x2)) r49) fun s52 => j112 s52)))) else (k118 s0))
noncomputable def f_X12_anHour_2 (a : Nat) (k51 : Mem → Res) : Nat → Int → Mem → Res
  | 0, _, _ => none
  | n + 1, x1, s0 =>
    gd ((0 : Int) ≤ 61 ∧ (61 : Int) < 1732) (if x1 < s0 (a + 1) 61 then (gd ((0 : Int) ≤ wr (133 + (wr (4 * x1))) ∧ wr (133 + (wr (4 * x1))) < 1732) (gd ((0 : Int) ≤ 0 ∧ (0 : Int) < 1732) (jn (fun (s57 : Mem) => f_X12_anHour_2 a k51 n (wr (x1 + 1)) s57) fun j45 => if s0 (a + 1) (wr (133 + (wr (4 * x1)))) = s0 (a + 1) 0 then (bd (f_X12_does a (wr (133 + (wr (4 * x1)))) s0) fun r59 s60 => j45 s60) else (j45 s0)))) else (k51 s0))
noncomputable def f_X12_anHour (a : Nat) (s0 : Mem) : Res :=
  jn (fun (s1 : Mem) => gd ((0 : Int) ≤ 0 ∧ (0 : Int) < 1732) (gd ((24 : Int) ≠ 0) (bd (f_X12_currentAt a (Int.tmod (s1 (a + 1) 0) 24) s1) fun r4 s5 => jn (fun (s6 : Mem) => jn (fun (v7 : Int) (s8 : Mem) => jn (fun (y9 : Int) (s10 : Mem) => jn (fun (s11 : Mem) => gd ((0 : Int) ≤ 3 ∧ (3 : Int) < 1732) (bd (f_X12_fadeNow a s11) fun r13 s14 => bd (f_X12_greater 0 (wr ((s11 (a + 1) 3) - r13)) s14) fun r15 s16 => gd ((0 : Int) ≤ 3 ∧ (3 : Int) < 1732) (lm (mup s16 (a + 1) 3 r15) fun s18 => gd ((0 : Int) ≤ 0 ∧ (0 : Int) < 1732) (gd ((0 : Int) ≤ 0 ∧ (0 : Int) < 1732) (lm (mup s18 (a + 1) 0 (wr ((s18 (a + 1) 0) + 1))) fun s21 => some (v7, s21)))))) fun j209 => if y9 < 2 then (gd ((0 : Int) ≤ 1 ∧ (1 : Int) < 1732) (jn (fun (y24 : Int) => bd (f_X12_held (wr ((s10 (a + 1) 1) + y24)) 0 9 s10) fun r25 s26 => gd ((0 : Int) ≤ 1 ∧ (1 : Int) < 1732) (lm (mup s26 (a + 1) 1 r25) fun s28 => j209 s28)) fun j201 => if y9 = 0 then (j201 (-1)) else (j201 1))) else (j209 s10)) fun j175 => if s8 a 26 = 0 then (j175 3 s8) else (bd (f_X12_draw a 4 s8) fun r31 s32 => j175 r31 s32)) fun j159 => f_X12_anHour_122 a j159 FU 0 0 s6) fun j118 => f_X12_anHour_67 a r4 j118 FU 0 s5))) fun j51 => f_X12_anHour_2 a j51 FU 0 s0
set_option maxHeartbeats 4000000 in
set_option maxRecDepth 10000 in
theorem l_X12_anHour_122 (κ : Kp) (a : Nat) (hA : At12 κ a) (k159 : Int → Mem → Res) (hk159 : ∀ (z2 : Int) (h_z2 : InR z2) (sz : Mem) (w_sz : WF sz), EO κ M_X12_anHour R_X12_anHour 159 [some (vr κ a), none, some (vi z2), none] [] sz (k159 z2 sz)) : ∀ (n : Nat) (x2 : Int) (h_x2 : InR x2) (x3 : Int) (h_x3 : InR x3) (s0 : Mem) (w_s0 : WF s0), EO κ M_X12_anHour R_X12_anHour 122 [some (vr κ a), none, some (vi x2), some (vi x3)] [] s0 (f_X12_anHour_122 a k159 n x2 x3 s0) := by
  intro n
  induction n with
  | zero => exact fun _ _ _ _ _ _ => q_none
  | succ n ih =>
    intro x2 h_x2 x3 h_x3 s0 w_s0
    rw [f_X12_anHour_122]
    refine q_iload_n (x := x3) d_X12_anHour_122 rfl ?_
    refine q_aload_n d_X12_anHour_123 rfl ?_
    refine q_getR (n := 1) d_X12_anHour_124 hA.1 fi_12_7 rfl (Nat.le_of_ble_eq_true rfl) ?_
    refine q_bipush d_X12_anHour_127 rfl ?_
    refine q_iaload (m := 1732) d_X12_anHour_129 hA.2.1 (by decide) rfl (fun g33 => ?_)
    refine q_icmp_ge d_X12_anHour_130 h_x3 (w_s0 _ _) (fun c34 => ?_) (fun c34 => ?_)
    · refine q_iload_n (x := x2) d_X12_anHour_133 rfl ?_
      refine q_aload_n d_X12_anHour_134 rfl ?_
      refine q_iload_n (x := x3) d_X12_anHour_135 rfl ?_
      refine q_callZ (R' := R_X12_isAfloat) (runV (As := [vi x3]) (rest := [vi x2]) d_X12_anHour_136.1 cv_12_335 rfl hA.1 rfl rfl ⟨rfl, rfl, by decide, by decide⟩ (Nat.le_of_ble_eq_true rfl) w_s0 rfl) d_X12_anHour_136.2 (c_X12_isAfloat κ a hA x3 h_x3 s0) rfl (fun r35 s36 h_r35 w_s36 => ?_)
      refine q_jn (α := Int → Mem → Res) (fun j151 => ∀ (y37 : Int) (h_y37 : InR y37) (s38 : Mem) (w_s38 : WF s38), EO κ M_X12_anHour R_X12_anHour 151 [some (vr κ a), none, none, some (vi x3)] [vi y37, vi x2] s38 (j151 y37 s38)) ?_ (fun j151 hj151 => ?_)
      · intro y37 h_y37 s38 w_s38
        refine q_iadd d_X12_anHour_151 ?_
        refine q_istore_n d_X12_anHour_152 rfl ?_
        refine q_iinc (x := x3) d_X12_anHour_153 rfl rfl ?_
        refine q_goto d_X12_anHour_156 ?_
        refine q_sub (ls' := [some (vr κ a), none, some (vi (wr (x2 + y37))), some (vi (wr (x3 + 1)))]) ⟨rfl, rfl, rfl, trivial⟩ ?_
        exact ih (wr (x2 + y37)) (inr_wr _) (wr (x3 + 1)) (inr_wr _) s38 w_s38
      refine q_if_eq d_X12_anHour_139 (inr_b h_r35) (fun c39 => ?_) (fun c39 => ?_)
      · refine q_iconst d_X12_anHour_150 ?_
        refine q_sub (ls' := [some (vr κ a), none, none, some (vi x3)]) ⟨rfl, rfl, trivial⟩ ?_
        exact hj151 0 (inr_b (Or.inl rfl)) s36 w_s36
      · refine q_aload_n d_X12_anHour_142 rfl ?_
        refine q_iload_n (x := x3) d_X12_anHour_143 rfl ?_
        refine q_callI (R' := R_X12_isShot) (runV (As := [vi x3]) (rest := [vi x2]) d_X12_anHour_144.1 cv_12_371 rfl hA.1 rfl rfl ⟨rfl, rfl, by decide, by decide⟩ (Nat.le_of_ble_eq_true rfl) w_s36 rfl) d_X12_anHour_144.2 (c_X12_isShot κ a hA x3 h_x3 s36) rfl (fun r40 s41 h_r40 w_s41 => ?_)
        refine q_goto d_X12_anHour_147 ?_
        refine q_sub (ls' := [some (vr κ a), none, none, some (vi x3)]) ⟨rfl, rfl, trivial⟩ ?_
        exact hj151 r40 h_r40 s41 w_s41
    · refine q_sub (ls' := [some (vr κ a), none, some (vi x2), none]) ⟨rfl, rfl, trivial⟩ ?_
      exact hk159 x2 h_x2 s0 w_s0
set_option maxHeartbeats 4000000 in
set_option maxRecDepth 10000 in
theorem l_X12_anHour_67 (κ : Kp) (a : Nat) (hA : At12 κ a) (p1 : Int) (h_p1 : InR p1) (k118 : Mem → Res) (hk118 : ∀ (sz : Mem) (w_sz : WF sz), EO κ M_X12_anHour R_X12_anHour 118 [some (vr κ a), none, none, none] [] sz (k118 sz)) : ∀ (n : Nat) (x2 : Int) (h_x2 : InR x2) (s0 : Mem) (w_s0 : WF s0), EO κ M_X12_anHour R_X12_anHour 67 [some (vr κ a), some (vi p1), some (vi x2), none] [] s0 (f_X12_anHour_67 a p1 k118 n x2 s0) := by
  intro n
  induction n with
  | zero => exact fun _ _ _ _ => q_none
  | succ n ih =>
    intro x2 h_x2 s0 w_s0
    rw [f_X12_anHour_67]
    refine q_iload_n (x := x2) d_X12_anHour_67 rfl ?_
    refine q_aload_n d_X12_anHour_68 rfl ?_
    refine q_getR (n := 1) d_X12_anHour_69 hA.1 fi_12_7 rfl (Nat.le_of_ble_eq_true rfl) ?_
    refine q_bipush d_X12_anHour_72 rfl ?_
    refine q_iaload (m := 1732) d_X12_anHour_74 hA.2.1 (by decide) rfl (fun g42 => ?_)
    refine q_icmp_ge d_X12_anHour_75 h_x2 (w_s0 _ _) (fun c43 => ?_) (fun c43 => ?_)
    · refine q_aload_n d_X12_anHour_78 rfl ?_
      refine q_iload_n (x := x2) d_X12_anHour_79 rfl ?_
      refine q_callZ (R' := R_X12_isAfloat) (runV (As := [vi x2]) (rest := []) d_X12_anHour_80.1 cv_12_335 rfl hA.1 rfl rfl ⟨rfl, rfl, by decide, by decide⟩ (Nat.le_of_ble_eq_true rfl) w_s0 rfl) d_X12_anHour_80.2 (c_X12_isAfloat κ a hA x2 h_x2 s0) rfl (fun r44 s45 h_r44 w_s45 => ?_)
      refine q_jn (α := Mem → Res) (fun j112 => ∀ (s46 : Mem) (w_s46 : WF s46), EO κ M_X12_anHour R_X12_anHour 112 [some (vr κ a), some (vi p1), some (vi x2), none] [] s46 (j112 s46)) ?_ (fun j112 hj112 => ?_)
      · intro s46 w_s46
        refine q_iinc (x := x2) d_X12_anHour_112 rfl rfl ?_
        refine q_goto d_X12_anHour_115 ?_
        refine q_sub (ls' := [some (vr κ a), some (vi p1), some (vi (wr (x2 + 1))), none]) ⟨rfl, rfl, rfl, trivial⟩ ?_
        exact ih (wr (x2 + 1)) (inr_wr _) s46 w_s46
      refine q_if_eq d_X12_anHour_83 (inr_b h_r44) (fun c47 => ?_) (fun c47 => ?_)
      · refine q_sub (ls' := [some (vr κ a), some (vi p1), some (vi x2), none]) ⟨rfl, rfl, rfl, trivial⟩ ?_
        exact hj112 s45 w_s45
      · refine q_aload_n d_X12_anHour_86 rfl ?_
        refine q_getR (n := 1) d_X12_anHour_87 hA.1 fi_12_7 rfl (Nat.le_of_ble_eq_true rfl) ?_
        refine q_bipush d_X12_anHour_90 rfl ?_
        refine q_iload_n (x := x2) d_X12_anHour_92 rfl ?_
        refine q_iadd d_X12_anHour_93 ?_
        refine q_aload_n d_X12_anHour_94 rfl ?_
        refine q_getR (n := 1) d_X12_anHour_95 hA.1 fi_12_7 rfl (Nat.le_of_ble_eq_true rfl) ?_
        refine q_bipush d_X12_anHour_98 rfl ?_
        refine q_iload_n (x := x2) d_X12_anHour_100 rfl ?_
        refine q_iadd d_X12_anHour_101 ?_
        refine q_iaload (m := 1732) d_X12_anHour_102 hA.2.1 (by decide) rfl (fun g48 => ?_)
        refine q_iload_n (x := p1) d_X12_anHour_103 rfl ?_
        refine q_iadd d_X12_anHour_104 ?_
        refine q_iconst d_X12_anHour_105 ?_
        refine q_bipush d_X12_anHour_106 rfl ?_
        refine q_callI (R' := R_X12_held) (runS (As := [vi (wr ((s45 (a + 1) (wr (7 + x2))) + p1)), vi 0, vi 15]) (rest := [vi (wr (7 + x2)), vr κ (a + 1)]) d_X12_anHour_108.1 cv_12_307 rfl ⟨rfl, rfl, by decide, by decide⟩ (Nat.le_of_ble_eq_true rfl) w_s45 rfl) d_X12_anHour_108.2 (c_X12_held κ (wr ((s45 (a + 1) (wr (7 + x2))) + p1)) (inr_wr _) 0 (inr_b (Or.inl rfl)) 15 (inr_d rfl) s45) rfl (fun r49 s50 h_r49 w_s50 => ?_)
        refine q_iastore (m := 1732) d_X12_anHour_111 hA.2.1 (by decide) rfl h_r49 w_s50 (fun g51 s52 w_s52 => ?_)
        refine q_sub (ls' := [some (vr κ a), some (vi p1), some (vi x2), none]) ⟨rfl, rfl, rfl, trivial⟩ ?_
        exact hj112 s52 w_s52
    · refine q_sub (ls' := [some (vr κ a), none, none, none]) ⟨rfl, trivial⟩ ?_
      exact hk118 s0 w_s0
set_option maxHeartbeats 4000000 in
set_option maxRecDepth 10000 in
theorem l_X12_anHour_2 (κ : Kp) (a : Nat) (hA : At12 κ a) (k51 : Mem → Res) (hk51 : ∀ (sz : Mem) (w_sz : WF sz), EO κ M_X12_anHour R_X12_anHour 51 [some (vr κ a), none, none, none] [] sz (k51 sz)) : ∀ (n : Nat) (x1 : Int) (h_x1 : InR x1) (s0 : Mem) (w_s0 : WF s0), EO κ M_X12_anHour R_X12_anHour 2 [some (vr κ a), some (vi x1), none, none] [] s0 (f_X12_anHour_2 a k51 n x1 s0) := by
  intro n
  induction n with
  | zero => exact fun _ _ _ _ => q_none
  | succ n ih =>
    intro x1 h_x1 s0 w_s0
    rw [f_X12_anHour_2]
    refine q_iload_n (x := x1) d_X12_anHour_2 rfl ?_
    refine q_aload_n d_X12_anHour_3 rfl ?_
    refine q_getR (n := 1) d_X12_anHour_4 hA.1 fi_12_7 rfl (Nat.le_of_ble_eq_true rfl) ?_
    refine q_bipush d_X12_anHour_7 rfl ?_
    refine q_iaload (m := 1732) d_X12_anHour_9 hA.2.1 (by decide) rfl (fun g53 => ?_)
    refine q_icmp_ge d_X12_anHour_10 h_x1 (w_s0 _ _) (fun c54 => ?_) (fun c54 => ?_)
    · refine q_aload_n d_X12_anHour_13 rfl ?_
      refine q_getR (n := 1) d_X12_anHour_14 hA.1 fi_12_7 rfl (Nat.le_of_ble_eq_true rfl) ?_
      refine q_sipush d_X12_anHour_17 rfl ?_
      refine q_iconst d_X12_anHour_20 ?_
      refine q_iload_n (x := x1) d_X12_anHour_21 rfl ?_
      refine q_imul d_X12_anHour_22 ?_
      refine q_iadd d_X12_anHour_23 ?_
      refine q_iaload (m := 1732) d_X12_anHour_24 hA.2.1 (by decide) rfl (fun g55 => ?_)
      refine q_aload_n d_X12_anHour_25 rfl ?_
      refine q_getR (n := 1) d_X12_anHour_26 hA.1 fi_12_7 rfl (Nat.le_of_ble_eq_true rfl) ?_
      refine q_iconst d_X12_anHour_29 ?_
      refine q_iaload (m := 1732) d_X12_anHour_30 hA.2.1 (by decide) rfl (fun g56 => ?_)
      refine q_jn (α := Mem → Res) (fun j45 => ∀ (s57 : Mem) (w_s57 : WF s57), EO κ M_X12_anHour R_X12_anHour 45 [some (vr κ a), some (vi x1), none, none] [] s57 (j45 s57)) ?_ (fun j45 hj45 => ?_)
      · intro s57 w_s57
        refine q_iinc (x := x1) d_X12_anHour_45 rfl rfl ?_
        refine q_goto d_X12_anHour_48 ?_
        refine q_sub (ls' := [some (vr κ a), some (vi (wr (x1 + 1))), none, none]) ⟨rfl, rfl, trivial⟩ ?_
        exact ih (wr (x1 + 1)) (inr_wr _) s57 w_s57
      refine q_icmp_ne d_X12_anHour_31 (w_s0 _ _) (w_s0 _ _) (fun c58 => ?_) (fun c58 => ?_)
      · refine q_aload_n d_X12_anHour_34 rfl ?_
        refine q_sipush d_X12_anHour_35 rfl ?_
        refine q_iconst d_X12_anHour_38 ?_
        refine q_iload_n (x := x1) d_X12_anHour_39 rfl ?_
        refine q_imul d_X12_anHour_40 ?_
        refine q_iadd d_X12_anHour_41 ?_
        refine q_callV (R' := R_X12_does) (runV (As := [vi (wr (133 + (wr (4 * x1))))]) (rest := []) d_X12_anHour_42.1 cv_12_365 rfl hA.1 rfl rfl ⟨rfl, rfl, by decide, by decide⟩ (Nat.le_of_ble_eq_true rfl) w_s0 rfl) d_X12_anHour_42.2 (c_X12_does κ a hA (wr (133 + (wr (4 * x1)))) (inr_wr _) s0) rfl (fun r59 s60 w_s60 => ?_)
        refine q_sub (ls' := [some (vr κ a), some (vi x1), none, none]) ⟨rfl, rfl, trivial⟩ ?_
        exact hj45 s60 w_s60
      · refine q_sub (ls' := [some (vr κ a), some (vi x1), none, none]) ⟨rfl, rfl, trivial⟩ ?_
        exact hj45 s0 w_s0
    · refine q_sub (ls' := [some (vr κ a), none, none, none]) ⟨rfl, trivial⟩ ?_
      exact hk51 s0 w_s0
set_option maxHeartbeats 4000000 in
set_option maxRecDepth 10000 in
theorem c_X12_anHour (κ : Kp) (a : Nat) (hA : At12 κ a) (s0 : Mem) : ∀ r σ', f_X12_anHour a s0 = some (r, σ') → Ct κ M_X12_anHour R_X12_anHour [vr κ a] s0 r σ' := by
  intro r σ' ho
  refine Ct.of (by decide) (Nat.le_of_ble_eq_true rfl) (cat_ok rfl) (fun w_s0 => ?_) ⟨rfl, rfl⟩
  refine q_ent (ls' := [some (vr κ a), none, none, none]) (o := f_X12_anHour a s0) ⟨rfl, trivial⟩ ?_ ho
  unfold f_X12_anHour
  refine q_iconst d_X12_anHour_0 ?_
  refine q_istore_n d_X12_anHour_1 rfl ?_
  refine q_jn (α := Mem → Res) (fun j51 => ∀ (s1 : Mem) (w_s1 : WF s1), EO κ M_X12_anHour R_X12_anHour 51 [some (vr κ a), none, none, none] [] s1 (j51 s1)) ?_ (fun j51 hj51 => ?_)
  · intro s1 w_s1
    refine q_aload_n d_X12_anHour_51 rfl ?_
    refine q_aload_n d_X12_anHour_52 rfl ?_
    refine q_getR (n := 1) d_X12_anHour_53 hA.1 fi_12_7 rfl (Nat.le_of_ble_eq_true rfl) ?_
    refine q_iconst d_X12_anHour_56 ?_
    refine q_iaload (m := 1732) d_X12_anHour_57 hA.2.1 (by decide) rfl (fun g2 => ?_)
    refine q_bipush d_X12_anHour_58 rfl ?_
    refine q_irem d_X12_anHour_60 (w_s1 _ _) (inr_d rfl) (fun g3 => ?_)
    refine q_callI (R' := R_X12_currentAt) (runV (As := [vi (Int.tmod (s1 (a + 1) 0) 24)]) (rest := []) d_X12_anHour_61.1 cv_12_368 rfl hA.1 rfl rfl ⟨rfl, rfl, by decide, by decide⟩ (Nat.le_of_ble_eq_true rfl) w_s1 rfl) d_X12_anHour_61.2 (c_X12_currentAt κ a hA (Int.tmod (s1 (a + 1) 0) 24) (inr_tmod (w_s1 _ _) (inr_d rfl)) s1) rfl (fun r4 s5 h_r4 w_s5 => ?_)
    refine q_istore_n d_X12_anHour_64 rfl ?_
    refine q_iconst d_X12_anHour_65 ?_
    refine q_istore_n d_X12_anHour_66 rfl ?_
    refine q_jn (α := Mem → Res) (fun j118 => ∀ (s6 : Mem) (w_s6 : WF s6), EO κ M_X12_anHour R_X12_anHour 118 [some (vr κ a), none, none, none] [] s6 (j118 s6)) ?_ (fun j118 hj118 => ?_)
    · intro s6 w_s6
      refine q_iconst d_X12_anHour_118 ?_
      refine q_istore_n d_X12_anHour_119 rfl ?_
      refine q_iconst d_X12_anHour_120 ?_
      refine q_istore_n d_X12_anHour_121 rfl ?_
      refine q_jn (α := Int → Mem → Res) (fun j159 => ∀ (v7 : Int) (h_v7 : InR v7) (s8 : Mem) (w_s8 : WF s8), EO κ M_X12_anHour R_X12_anHour 159 [some (vr κ a), none, some (vi v7), none] [] s8 (j159 v7 s8)) ?_ (fun j159 hj159 => ?_)
      · intro v7 h_v7 s8 w_s8
        refine q_aload_n d_X12_anHour_159 rfl ?_
        refine q_getI (k := 26) (j := 26) d_X12_anHour_160 hA.1 fi_12_327 rfl rfl ?_
        refine q_jn (α := Int → Mem → Res) (fun j175 => ∀ (y9 : Int) (h_y9 : InR y9) (s10 : Mem) (w_s10 : WF s10), EO κ M_X12_anHour R_X12_anHour 175 [some (vr κ a), none, some (vi v7), none] [vi y9] s10 (j175 y9 s10)) ?_ (fun j175 hj175 => ?_)
        · intro y9 h_y9 s10 w_s10
          refine q_istore_n d_X12_anHour_175 rfl ?_
          refine q_iload_n (x := y9) d_X12_anHour_176 rfl ?_
          refine q_iconst d_X12_anHour_177 ?_
          refine q_jn (α := Mem → Res) (fun j209 => ∀ (s11 : Mem) (w_s11 : WF s11), EO κ M_X12_anHour R_X12_anHour 209 [some (vr κ a), none, some (vi v7), none] [] s11 (j209 s11)) ?_ (fun j209 hj209 => ?_)
          · intro s11 w_s11
            refine q_aload_n d_X12_anHour_209 rfl ?_
            refine q_getR (n := 1) d_X12_anHour_210 hA.1 fi_12_7 rfl (Nat.le_of_ble_eq_true rfl) ?_
            refine q_iconst d_X12_anHour_213 ?_
            refine q_iconst d_X12_anHour_214 ?_
            refine q_aload_n d_X12_anHour_215 rfl ?_
            refine q_getR (n := 1) d_X12_anHour_216 hA.1 fi_12_7 rfl (Nat.le_of_ble_eq_true rfl) ?_
            refine q_iconst d_X12_anHour_219 ?_
            refine q_iaload (m := 1732) d_X12_anHour_220 hA.2.1 (by decide) rfl (fun g12 => ?_)
            refine q_aload_n d_X12_anHour_221 rfl ?_
            refine q_callI (R' := R_X12_fadeNow) (runV (As := []) (rest := [vi (s11 (a + 1) 3), vi 0, vi 3, vr κ (a + 1)]) d_X12_anHour_222.1 cv_12_374 rfl hA.1 rfl rfl ⟨rfl, rfl, by decide, by decide⟩ (Nat.le_of_ble_eq_true rfl) w_s11 rfl) d_X12_anHour_222.2 (c_X12_fadeNow κ a hA s11) rfl (fun r13 s14 h_r13 w_s14 => ?_)
            refine q_isub d_X12_anHour_225 ?_
            refine q_callI (R' := R_X12_greater) (runS (As := [vi 0, vi (wr ((s11 (a + 1) 3) - r13))]) (rest := [vi 3, vr κ (a + 1)]) d_X12_anHour_226.1 cv_12_57 rfl ⟨rfl, rfl, by decide, by decide⟩ (Nat.le_of_ble_eq_true rfl) w_s14 rfl) d_X12_anHour_226.2 (c_X12_greater κ 0 (inr_b (Or.inl rfl)) (wr ((s11 (a + 1) 3) - r13)) (inr_wr _) s14) rfl (fun r15 s16 h_r15 w_s16 => ?_)
            refine q_iastore (m := 1732) d_X12_anHour_229 hA.2.1 (by decide) rfl h_r15 w_s16 (fun g17 s18 w_s18 => ?_)
            refine q_aload_n d_X12_anHour_230 rfl ?_
            refine q_getR (n := 1) d_X12_anHour_231 hA.1 fi_12_7 rfl (Nat.le_of_ble_eq_true rfl) ?_
            refine q_iconst d_X12_anHour_234 ?_
            refine q_dup2 d_X12_anHour_235 rfl rfl ?_
            refine q_iaload (m := 1732) d_X12_anHour_236 hA.2.1 (by decide) rfl (fun g19 => ?_)
            refine q_iconst d_X12_anHour_237 ?_
            refine q_iadd d_X12_anHour_238 ?_
            refine q_iastore (m := 1732) d_X12_anHour_239 hA.2.1 (by decide) rfl (inr_wr _) w_s18 (fun g20 s21 w_s21 => ?_)
            refine q_iload_n (x := v7) d_X12_anHour_240 rfl ?_
            exact q_ireti d_X12_anHour_241 rfl h_v7 w_s21
          refine q_icmp_ge d_X12_anHour_178 h_y9 (inr_d rfl) (fun c22 => ?_) (fun c22 => ?_)
          · refine q_aload_n d_X12_anHour_181 rfl ?_
            refine q_getR (n := 1) d_X12_anHour_182 hA.1 fi_12_7 rfl (Nat.le_of_ble_eq_true rfl) ?_
            refine q_iconst d_X12_anHour_185 ?_
            refine q_aload_n d_X12_anHour_186 rfl ?_
            refine q_getR (n := 1) d_X12_anHour_187 hA.1 fi_12_7 rfl (Nat.le_of_ble_eq_true rfl) ?_
            refine q_iconst d_X12_anHour_190 ?_
            refine q_iaload (m := 1732) d_X12_anHour_191 hA.2.1 (by decide) rfl (fun g23 => ?_)
            refine q_iload_n (x := y9) d_X12_anHour_192 rfl ?_
            refine q_jn (α := Int → Res) (fun j201 => ∀ (y24 : Int) (h_y24 : InR y24), EO κ M_X12_anHour R_X12_anHour 201 [some (vr κ a), none, some (vi v7), none] [vi y24, vi (s10 (a + 1) 1), vi 1, vr κ (a + 1)] s10 (j201 y24)) ?_ (fun j201 hj201 => ?_)
            · intro y24 h_y24
              refine q_iadd d_X12_anHour_201 ?_
              refine q_iconst d_X12_anHour_202 ?_
              refine q_bipush d_X12_anHour_203 rfl ?_
              refine q_callI (R' := R_X12_held) (runS (As := [vi (wr ((s10 (a + 1) 1) + y24)), vi 0, vi 9]) (rest := [vi 1, vr κ (a + 1)]) d_X12_anHour_205.1 cv_12_307 rfl ⟨rfl, rfl, by decide, by decide⟩ (Nat.le_of_ble_eq_true rfl) w_s10 rfl) d_X12_anHour_205.2 (c_X12_held κ (wr ((s10 (a + 1) 1) + y24)) (inr_wr _) 0 (inr_b (Or.inl rfl)) 9 (inr_d rfl) s10) rfl (fun r25 s26 h_r25 w_s26 => ?_)
              refine q_iastore (m := 1732) d_X12_anHour_208 hA.2.1 (by decide) rfl h_r25 w_s26 (fun g27 s28 w_s28 => ?_)
              refine q_sub (ls' := [some (vr κ a), none, some (vi v7), none]) ⟨rfl, rfl, trivial⟩ ?_
              exact hj209 s28 w_s28
            refine q_if_ne d_X12_anHour_193 h_y9 (fun c29 => ?_) (fun c29 => ?_)
            · refine q_iconst d_X12_anHour_196 ?_
              refine q_goto d_X12_anHour_197 ?_
              refine q_sub (ls' := [some (vr κ a), none, some (vi v7), none]) ⟨rfl, rfl, trivial⟩ ?_
              exact hj201 (-1) (inr_d rfl)
            · refine q_iconst d_X12_anHour_200 ?_
              refine q_sub (ls' := [some (vr κ a), none, some (vi v7), none]) ⟨rfl, rfl, trivial⟩ ?_
              exact hj201 1 (inr_b (Or.inr rfl))
          · refine q_sub (ls' := [some (vr κ a), none, some (vi v7), none]) ⟨rfl, rfl, trivial⟩ ?_
            exact hj209 s10 w_s10
        refine q_if_eq d_X12_anHour_163 (w_s8 _ _) (fun c30 => ?_) (fun c30 => ?_)
        · refine q_iconst d_X12_anHour_174 ?_
          refine q_sub (ls' := [some (vr κ a), none, some (vi v7), none]) ⟨rfl, rfl, trivial⟩ ?_
          exact hj175 3 (inr_d rfl) s8 w_s8
        · refine q_aload_n d_X12_anHour_166 rfl ?_
          refine q_iconst d_X12_anHour_167 ?_
          refine q_callI (R' := R_X12_draw) (runV (As := [vi 4]) (rest := []) d_X12_anHour_168.1 cv_12_362 rfl hA.1 rfl rfl ⟨rfl, rfl, by decide, by decide⟩ (Nat.le_of_ble_eq_true rfl) w_s8 rfl) d_X12_anHour_168.2 (c_X12_draw κ a hA 4 (inr_d rfl) s8) rfl (fun r31 s32 h_r31 w_s32 => ?_)
          refine q_goto d_X12_anHour_171 ?_
          refine q_sub (ls' := [some (vr κ a), none, some (vi v7), none]) ⟨rfl, rfl, trivial⟩ ?_
          exact hj175 r31 h_r31 s32 w_s32
      refine q_sub (ls' := [some (vr κ a), none, some (vi 0), some (vi 0)]) ⟨rfl, rfl, rfl, trivial⟩ ?_
      exact l_X12_anHour_122 κ a hA j159 hj159 FU 0 (inr_b (Or.inl rfl)) 0 (inr_b (Or.inl rfl)) s6 w_s6
    refine q_sub (ls' := [some (vr κ a), some (vi r4), some (vi 0), none]) ⟨rfl, rfl, rfl, trivial⟩ ?_
    exact l_X12_anHour_67 κ a hA r4 h_r4 j118 hj118 FU 0 (inr_b (Or.inl rfl)) s5 w_s5
  refine q_sub (ls' := [some (vr κ a), some (vi 0), none, none]) ⟨rfl, rfl, trivial⟩ ?_
  exact l_X12_anHour_2 κ a hA j51 hj51 FU 0 (inr_b (Or.inl rfl)) s0 w_s0

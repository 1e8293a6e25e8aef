/-! ===== L3: texts: THE LAW: a line ===== -/
theorem ExN.ok {E : List Sg} (h : ExN 29 E) : OkE E := ⟨h.1 0 (by decide), fun fx => by
  obtain ⟨v, e⟩ := h.2 fx []
  exact ⟨v, e⟩⟩
theorem ExB.ok {E : List Sg} (h : ExB 10 E) : OkB E := Or.inr ⟨fun z => by
  have := Dp_ne (h.1 0 (by decide))
  rw [z] at this
  exact absurd this (by decide), h.1 0 (by decide), fun fx => by
  obtain ⟨v, e0, e⟩ := h.2 fx []
  exact ⟨v, e0, e⟩⟩
theorem LA_put {f1 f2 f3 : Int → Int} {lw : List Lin} {n : Nat} {w : Int} {E Bb : List Sg} (hn : n = lw.length) (h : LA f1 f2 f3 0 0 lw) : LA (up f1 n w) (up f2 n ((cods lw ++ trs E).length : Int)) (up f3 n ((cods lw ++ trs E ++ trs Bb).length : Int)) 0 0 (lw ++ [(w + 10, E, Bb)]) := by
  refine LA_app lw 0 0 (LA_cg (f1 := f1) (f2 := f2) (f3 := f3) (hi := (n : Int)) (fun i hi => up_ne (by omega)) (fun i hi => up_ne (by omega)) (fun i hi => up_ne (by omega)) lw 0 0 (by omega) h) ?_ ?_ ?_
  · rw [up_eq (by omega)]
    show w = w + 10 - 10
    omega
  · rw [up_eq (by omega), List.length_append]
    show (((cods lw).length + (trs E).length : Nat) : Int) = 0 + ((cods lw).length : Int) + (trs E).length
    omega
  · rw [up_eq (by omega), List.length_append, List.length_append]
    show (((cods lw).length + (trs E).length + (trs Bb).length : Nat) : Int) = 0 + ((cods lw).length : Int) + (trs E).length + (trs Bb).length
    omega
theorem MA_put {f : Int → Int} {lw : List Lin} {n : Nat} {w : Int} {E Bb : List Sg} (hn : n = lw.length) (h : MA f 0 0 lw) : MA (up (up (up (up f (4 * (n : Int) + 3) w) (4 * (n : Int)) ((stps lw).length : Int)) (4 * (n : Int) + 1) ((stps lw ++ E).length : Int)) (4 * (n : Int) + 2) ((stps lw ++ E ++ Bb).length : Int)) 0 0 (lw ++ [(w, E, Bb)]) := by
  refine MA_app lw 0 0 (MA_cg (f := f) (hi := (n : Int)) (fun i hi => by rw [up_ne (by omega), up_ne (by omega), up_ne (by omega), up_ne (by omega)]) lw 0 0 (by omega) h) ?_ ?_ ?_ ?_
  · rw [up_ne (by omega), up_ne (by omega), up_ne (by omega), up_eq (by omega)]
  · rw [up_ne (by omega), up_ne (by omega), up_eq (by omega)]
    omega
  · rw [up_ne (by omega), up_eq (by omega), List.length_append]
    show (((stps lw).length + E.length : Nat) : Int) = 0 + ((stps lw).length : Int) + E.length
    omega
  · rw [up_eq (by omega), List.length_append, List.length_append]
    show (((stps lw).length + E.length + Bb.length : Nat) : Int) = 0 + ((stps lw).length : Int) + E.length + Bb.length
    omega
section
variable {T : List Tk} {B : Int → Int} {L : Nat} {s t : Mem} {x : Tk} {R : List Tk}
theorem SL.m5 {R : List Tk} {K : List Int} {G : List Sg} (h : SL T B L s t R K G) (i v : Int) : SL T B L s (mup t 5 i v) R K G := h.sc (fun _ _ => rfl) ⟨rfl, rfl, rfl⟩ (fun j _ => by rw [mup_o (by decide)]) ⟨mup_o (by decide), mup_o (by decide)⟩
theorem l_law (hc : PC T B L 0) {lw : List Lin} (h : LI T B L (x :: R) lw s t) : Two (f_X7_lawLine 236 s) (f_X12_aLine 0 t) s t (fun s1 t1 => ∃ (R' : List Tk) (l : Lin), LI T B L R' (lw ++ [l]) s1 (mup t1 0 13 ((lw.length + 1 : Nat) : Int)) ∧ R'.length ≤ R.length ∧ t1 0 13 = lw.length) := by
  obtain ⟨h1, ⟨h2, h3, h4⟩, ⟨h5, h6⟩, h7, h8, h9⟩ := h
  have hT := hc.2.2.1
  have lx : (x :: R).length = R.length + 1 := List.length_cons
  have h0 := h1.1
  have hw := law_tk (h0.ok hc).1
  unfold f_X7_lawLine f_X12_aLine
  rw [bd_e (c_next hc h0), bd_e (e_within _ _ _ _), bI_z, h0.tk, bd_e (e_isIn _ _ _ _), bI_z]
  by_cases cw : 10 ≤ x.1 ∧ x.1 ≤ 13
  · rw [if_pos cw, if_pos (hw.1.mpr cw)]
    unfold f_X7_begins
    rw [bd_e (c_next hc h0), if_pos rfl, show (236 + 1 : Nat) = 237 from rfl, h2, h5]
    by_cases c16 : lw.length = 16
    · obtain ⟨s1, t1, a1, a2, a3, a4, a5⟩ := c_refuse hc h0 3
      rw [if_neg (by omega), if_pos (by omega), bd_e a1, bd_e a2, bd_s, if_pos rfl]
      exact Or.inr ⟨s1, t1, rfl, rfl, a3, a4, a5⟩
    · obtain ⟨n, hn⟩ : ∃ n : Nat, n = lw.length := ⟨_, rfl⟩
      rw [← hn] at h2 h3 h5 c16 ⊢
      have W4 : wr (4 * (n : Int)) = 4 * n := wr_n (by omega)
      have W5 : wr (4 * (n : Int) + 3) = 4 * n + 3 := wr_n (by omega)
      have W6 : wr (4 * (n : Int) + 1) = 4 * n + 1 := wr_n (by omega)
      have W7 : wr (4 * (n : Int) + 2) = 4 * n + 2 := wr_n (by omega)
      have G5 : 0 ≤ 4 * (n : Int) + 3 ∧ 4 * (n : Int) + 3 < 64 := by omega
      have G4 : 0 ≤ 4 * (n : Int) ∧ 4 * (n : Int) < 64 := by omega
      have G6 : 0 ≤ 4 * (n : Int) + 1 ∧ 4 * (n : Int) + 1 < 64 := by omega
      have G7 : 0 ≤ 4 * (n : Int) + 2 ∧ 4 * (n : Int) + 2 < 64 := by omega
      rw [if_pos (by omega), if_neg (by omega), lm_s, lm_s]
      have e13 : mup t 0 24 0 0 13 = n := by rw [mup_n (Or.inr (by decide))]; exact h5
      have e18 : mup t 0 24 0 0 18 = x.1 + 10 := by rw [mup_n (Or.inr (by decide)), h0.tk]; exact hw.2 cw
      rw [e13, e18, W4, W5, gd_t G5, lm_s]
      have tA : SL T B L s (mup (mup t 0 24 0) 5 (4 * (n : Int) + 3) (x.1 + 10)) (x :: R) (cods lw) (stps lw) := SL.m5 (h1.sc (fun _ _ => rfl) ⟨rfl, rfl, rfl⟩ (fun i hi => mup_n (Or.inr (by omega))) ⟨mup_o (by decide), mup_o (by decide)⟩) _ _
      have r5 : mup (mup t 0 24 0) 5 (4 * (n : Int) + 3) (x.1 + 10) 5 = up (t 5) (4 * (n : Int) + 3) (x.1 + 10) := by rw [mup_row, mup_o (by decide)]
      have r13 : mup (mup t 0 24 0) 5 (4 * (n : Int) + 3) (x.1 + 10) 0 13 = n := by rw [mup_o (by decide)]; exact e13
      have r24 : mup (mup t 0 24 0) 5 (4 * (n : Int) + 3) (x.1 + 10) 0 24 = 0 := by rw [mup_o (by decide), mup_e rfl rfl]
      have rF : FM t (mup (mup t 0 24 0) 5 (4 * (n : Int) + 3) (x.1 + 10)) := ((FM.rf t).up0 (by decide) _).up7 (Or.inl rfl) _ _
      generalize mup (mup t 0 24 0) 5 (4 * (n : Int) + 3) (x.1 + 10) = t0 at tA r5 r13 r24 rF ⊢
      refine Two.fr (FC.rf s) rF ?_
      obtain ⟨tB, b1, b2, b3, b4⟩ := SL.nx hc tA (by omega)
      have eB13 : tB 0 13 = n := (b3.2 13 (by decide) (by decide) (by decide) (by decide) (by decide)).trans r13
      have eB14 : tB 0 14 = (stps lw).length := b2.2.2.2
      rw [bd_e b1, show (0 + 5 : Nat) = 5 from rfl, eB13, eB14, W4, gd_t G4, lm_s, b4, bd_s, if_neg (show ¬ (1 : Int) = 0 by decide)]
      have tC := SL.m5 b2 (4 * (n : Int)) ((stps lw).length : Int)
      have q5 : mup tB 5 (4 * (n : Int)) ((stps lw).length : Int) 5 = up (up (t 5) (4 * (n : Int) + 3) (x.1 + 10)) (4 * (n : Int)) ((stps lw).length : Int) := by rw [mup_row, b3.1 5 (by decide) (by decide), r5]
      have q13 : mup tB 5 (4 * (n : Int)) ((stps lw).length : Int) 0 13 = n := by rw [mup_o (by decide)]; exact eB13
      have q24 : mup tB 5 (4 * (n : Int)) ((stps lw).length : Int) 0 24 = 0 := by rw [mup_o (by decide), b3.2 24 (by decide) (by decide) (by decide) (by decide) (by decide)]; exact r24
      have qF : FM t0 (mup tB 5 (4 * (n : Int)) ((stps lw).length : Int)) := b3.fm.up7 (Or.inl rfl) _ _
      generalize mup tB 5 (4 * (n : Int)) ((stps lw).length : Int) = tc at tC q5 q13 q24 qF ⊢
      refine Two.fr (adv_fs s).fc qF ?_
      obtain ⟨y, R1, ey⟩ := tC.1.ne
      subst ey
      have ly : (y :: R1).length = R1.length + 1 := List.length_cons
      have k2 : adv s 237 4 = n := by rw [adv_r (by decide)]; exact h2
      have k38 : adv s 238 = s 238 := adv_r (by decide)
      have k39 : adv s 239 = s 239 := adv_r (by decide)
      have k40 : adv s 240 = s 240 := adv_r (by decide)
      generalize adv s = s0 at tC k2 k38 k39 k40 ⊢
      refine TwoL.d (l_esum hc tC (by omega) (by omega)) (fun s => if_pos rfl) (fun t => if_pos rfl) (fun s1 tD f1 g1 ⟨E, R2, p1, p2, p3, p4, p5⟩ => ?_)
      rw [if_neg (show ¬ (1 : Int) = 0 by decide), if_neg (show ¬ (1 : Int) = 0 by decide)]
      have u13 : tD 0 13 = n := (g1.2 13 (by decide) (by decide) (by decide) (by decide) (by decide)).trans q13
      have u14 : tD 0 14 = (stps lw ++ E).length := p2.2.2.2
      have u5 : s1 237 5 = (cods lw ++ trs E).length := p2.2.1.2
      have u4 : s1 237 4 = n := (f1.2.1 4 (by decide)).trans k2
      obtain ⟨z, R3, ez⟩ := p2.1.ne
      subst ez
      have lz : (z :: R3).length = R3.length + 1 := List.length_cons
      rw [u13, u14, u5, W4, W6, gd_t G6, lm_s, bd_e (c_next hc p2.1), jn_s, jn_s]
      have tE := SL.m5 p2 (4 * (n : Int) + 1) ((stps lw ++ E).length : Int)
      have v5 : mup tD 5 (4 * (n : Int) + 1) ((stps lw ++ E).length : Int) 5 = up (up (up (t 5) (4 * (n : Int) + 3) (x.1 + 10)) (4 * (n : Int)) ((stps lw).length : Int)) (4 * (n : Int) + 1) ((stps lw ++ E).length : Int) := by rw [mup_row, g1.1 5 (by decide) (by decide), q5]
      have v13 : mup tD 5 (4 * (n : Int) + 1) ((stps lw ++ E).length : Int) 0 13 = n := by rw [mup_o (by decide)]; exact u13
      have v24 : mup tD 5 (4 * (n : Int) + 1) ((stps lw ++ E).length : Int) 0 24 = 0 := by rw [mup_o (by decide), g1.2 24 (by decide) (by decide) (by decide) (by decide) (by decide)]; exact q24
      have vF : FM tD (mup tD 5 (4 * (n : Int) + 1) ((stps lw ++ E).length : Int)) := (FM.rf tD).up7 (Or.inl rfl) _ _
      generalize mup tD 5 (4 * (n : Int) + 1) ((stps lw ++ E).length : Int) = te at tE v5 v13 v24 vF ⊢
      refine Two.fr (FC.rf s1) vF ?_
      have w38 : s1 238 = s 238 := (f1.1 238 (by decide) (by decide) (by decide)).trans k38
      have w39 : s1 239 = s 239 := (f1.1 239 (by decide) (by decide) (by decide)).trans k39
      have w40 : s1 240 = s 240 := (f1.1 240 (by decide) (by decide) (by decide)).trans k40
      have fin : ∀ (s5 t5 : Mem) (Bb : List Sg) (R5 : List Tk), SL T B L s5 t5 R5 (cods lw ++ trs E ++ trs Bb) (stps lw ++ E ++ Bb) → FTc s1 s5 → FTm te t5 → OkB Bb → (cods lw ++ trs E ++ trs Bb).length + R5.length ≤ T.length → (stps lw ++ E ++ Bb).length + R5.length ≤ T.length → R5.length ≤ R3.length + 1 →
          Two (bd (f_X7_passes 236 59 s5) fun r17 s18 => if r17 = 0 then (some (0, s18)) else (bd (f_X2_closeLine (236 + 1) x.1 ((cods lw ++ trs E).length : Int) s18) fun _ s21 => some (1, s21))) (gd ((0 : Int) ≤ wr ((wr (4 * (t5 0 13))) + 2) ∧ wr ((wr (4 * (t5 0 13))) + 2) < 64) (lm (mup t5 5 (wr ((wr (4 * (t5 0 13))) + 2)) (t5 0 14)) fun s23 => bd (f_X12_need 0 159 s23) fun r24 s25 => some (r24, s25))) s5 t5 (fun s1 t1 => ∃ (R' : List Tk) (l : Lin), LI T B L R' (lw ++ [l]) s1 (mup t1 0 13 ((n + 1 : Nat) : Int)) ∧ R'.length ≤ (y :: R1).length ∧ t1 0 13 = n) := by
        intro s5 t5 Bb R5 c1 c2 c3 c4 c5 c6 c7
        have d13 : t5 0 13 = n := (c3.2 13 (by decide) (by decide) (by decide) (by decide) (by decide) (by decide)).trans v13
        have d14 : t5 0 14 = (stps lw ++ E ++ Bb).length := c1.2.2.2
        rw [d13, d14, W4, W7, gd_t G7, lm_s]
        have tH := SL.m5 c1 (4 * (n : Int) + 2) ((stps lw ++ E ++ Bb).length : Int)
        have x5 : mup t5 5 (4 * (n : Int) + 2) ((stps lw ++ E ++ Bb).length : Int) 5 = up (up (up (up (t 5) (4 * (n : Int) + 3) (x.1 + 10)) (4 * (n : Int)) ((stps lw).length : Int)) (4 * (n : Int) + 1) ((stps lw ++ E).length : Int)) (4 * (n : Int) + 2) ((stps lw ++ E ++ Bb).length : Int) := by rw [mup_row, c3.1 5 (by decide) (by decide), v5]
        have x13 : mup t5 5 (4 * (n : Int) + 2) ((stps lw ++ E ++ Bb).length : Int) 0 13 = n := by rw [mup_o (by decide)]; exact d13
        have xF : FM t5 (mup t5 5 (4 * (n : Int) + 2) ((stps lw ++ E ++ Bb).length : Int)) := (FM.rf t5).up7 (Or.inl rfl) _ _
        generalize mup t5 5 (4 * (n : Int) + 2) ((stps lw ++ E ++ Bb).length : Int) = th at tH x5 x13 xF ⊢
        refine Two.fr (FC.rf s5) xF ?_
        obtain ⟨v, R6, ev⟩ := tH.1.ne
        subst ev
        have lv : (v :: R6).length = R6.length + 1 := List.length_cons
        have y38 : s5 238 = s 238 := (c2.1 238 (by decide) (by decide) (by decide) (by decide)).trans w38
        have y39 : s5 239 = s 239 := (c2.1 239 (by decide) (by decide) (by decide) (by decide)).trans w39
        have y40 : s5 240 = s 240 := (c2.1 240 (by decide) (by decide) (by decide) (by decide)).trans w40
        have sh := l_shut hc tH (w := x.1) (mid := ((cods lw ++ trs E).length : Int)) (n := n) ((c2.2.1 4 (by decide)).trans u4) (by omega)
        rcases sh with ⟨s6, t6, z1, z2, z3, z4, a1, a2, a3, a4, a5, a6, a7⟩ | ⟨s6, t6, z1, z2, z3, z4, z5⟩
        · refine Or.inl ⟨s6, t6, z1, z2, z3, z4, R6, (x.1 + 10, E, Bb), ⟨?_, ⟨?_, ?_, ?_⟩, ⟨?_, ?_⟩, ?_, ?_, ?_⟩, by omega, a7.trans x13⟩
          · have e1 : cods (lw ++ [(x.1 + 10, E, Bb)]) = cods lw ++ trs E ++ trs Bb := by
              rw [cods_app]
              show cods lw ++ (trs E ++ (trs Bb ++ [])) = _
              rw [List.append_nil, List.append_assoc]
            have e2 : stps (lw ++ [(x.1 + 10, E, Bb)]) = stps lw ++ E ++ Bb := by
              rw [stps_app]
              show stps lw ++ (E ++ (Bb ++ [])) = _
              rw [List.append_nil, List.append_assoc]
            rw [e1, e2]
            exact a1.sc (fun _ _ => rfl) ⟨rfl, rfl, rfl⟩ (fun i hi => mup_n (Or.inr (by omega))) ⟨mup_o (by decide), mup_o (by decide)⟩
          · rw [a5, List.length_append, ← hn]
            rfl
          · rw [List.length_append, ← hn]
            show n + 1 ≤ 16
            omega
          · rw [a2, a3, a4, y38, y39, y40, hn]
            have q := LA_put (w := x.1) (E := E) (Bb := Bb) hn h4
            rw [hn] at q
            exact q
          · rw [mup_e rfl rfl, List.length_append, ← hn]
            rfl
          · rw [mup_o (by decide), a6, x5, hn]
            have q := MA_put (w := x.1 + 10) (E := E) (Bb := Bb) hn h6
            rw [hn] at q
            exact q
          · intro l hl
            rcases List.mem_append.mp hl with hl | hl
            · exact h7 l hl
            · rw [List.mem_singleton.mp hl]
              exact ⟨by show 20 ≤ x.1 + 10; omega, by show x.1 + 10 ≤ 23; omega, p1.ok, c4⟩
          · rw [cods_app]
            show (cods lw ++ (trs E ++ (trs Bb ++ []))).length + R6.length ≤ _
            rw [List.append_nil, ← List.append_assoc]
            omega
          · rw [stps_app]
            show (stps lw ++ (E ++ (Bb ++ []))).length + R6.length ≤ _
            rw [List.append_nil, ← List.append_assoc]
            omega
        · exact Or.inr ⟨s6, t6, z1, z2, z3, z4, z5⟩
      have k14 := tk_eq (c := 14) (m := 3) hc.2.2.2.2 (tE.1.ok hc).1 (by decide) rfl (by decide)
      rw [tE.1.tk]
      by_cases c14 : z.1 = 14
      · rw [if_pos c14, if_pos (k14.mpr c14)]
        obtain ⟨tF, b1', b2', b3', b4'⟩ := SL.nx hc tE (by omega)
        rw [b4', lm_s, bd_e b1']
        have o24 : tF 0 24 = 0 := (b3'.2 24 (by decide) (by decide) (by decide) (by decide) (by decide)).trans v24
        refine Two.fr (adv_fs s1).fc b3'.fm ?_
        obtain ⟨v, R4, ev⟩ := b2'.1.ne
        subst ev
        have lv : (v :: R4).length = R4.length + 1 := List.length_cons
        refine TwoT.d (l_cond hc b2' o24 (by omega) (by omega)) (fun s => if_pos rfl) (fun t => if_pos rfl) (fun s5 t5 f5 g5 ⟨Bb, R5, m1, m2, m3, m4, m5⟩ => ?_)
        rw [if_neg (show ¬ (1 : Int) = 0 by decide), if_neg (show ¬ (1 : Int) = 0 by decide)]
        exact fin s5 t5 Bb R5 m2 ((adv_fs s1).ft.tr f5) (b3'.ft.tr g5) m1.ok m3 m4 (by omega)
      · rw [if_neg c14, if_neg (fun q => c14 (k14.mp q))]
        have e1 : cods lw ++ trs E ++ trs [] = cods lw ++ trs E := List.append_nil _
        have e2 : stps lw ++ E ++ [] = stps lw ++ E := List.append_nil _
        exact fin s1 te [] (z :: R3) (by rw [e1, e2]; exact tE) (FTc.rf s1) (FTm.rf te) (Or.inl rfl) (by rw [e1]; omega) (by rw [e2]; omega) (by omega)
  · rw [if_neg cw, if_neg (fun z => cw (hw.1.mp z)), bd_id, bd_id]
    exact Two.bad hc h0 1 rfl rfl
end

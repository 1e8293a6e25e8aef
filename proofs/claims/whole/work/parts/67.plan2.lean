/-! ===== L3: texts: A PLAN, its line ===== -/
section
variable {T : List Tk} {B : Int → Int} {L : Nat} {r : Int} {s t : Mem} {x : Tk} {R : List Tk}
theorem l_plan (hc : PC T B L 2) (h : PT T B L 2 s t (x :: R)) {bo : Int} (hbo : 0 ≤ bo ∧ bo ≤ 10) {n : Nat} (hn : PlR bo s t n) : Two (f_X7_planLine 236 bo s) (lnM 10 t) s t (fun s1 t1 => ∃ R' : List Tk, PT T B L 2 s1 t1 R' ∧ R'.length ≤ R.length ∧ PlR bo s1 (mup t1 0 15 ((n + 1 : Nat) : Int)) (n + 1) ∧ t1 0 15 = n) := by
  obtain ⟨n1, n2, n3, n5, n4⟩ := hn
  have hk := tk_eq hc.2.2.2.2 (h.ok hc).1 (show TokD 20 by decide) (show tkm 2 20 = 10 by rfl) (by decide)
  obtain ⟨b1, b2, b3⟩ := l_beg hc h 20 n (by decide)
  unfold f_X7_planLine lnM
  simp only [Nat.reduceAdd]
  rw [n1, h.tk]
  by_cases c1 : x.1 = 20
  · rw [if_pos (hk.mpr c1), n2]
    by_cases c2 : n < 16
    · rw [bd_e (b1 c1 c2), if_neg (by decide), if_neg (by omega)]
      unfold f_X12_aRow f_X12_aPlan f_X12_told
      obtain ⟨p1, -⟩ := l_pass hc h (c := 20) (m := 10) (by decide) rfl (by decide) (by decide)
      obtain ⟨t1, -, d2, d3, d4⟩ := p1 c1
      have e12 : t 0 12 = 2 := h.2.2.2.2.2
      rw [jn_s, e12, if_neg (by decide), if_pos rfl, bd_e d2, if_neg (by decide), n2, wr_n (x := 4 * (n : Int)) (by omega), wr_n (x := 4 * (n : Int) + 1) (by omega), wr_n (x := 4 * (n : Int) + 2) (by omega), wr_n (x := 4 * (n : Int) + 3) (by omega)]
      have t17 : t1 7 = t 7 := d4.1 7 (by decide)
      have t11 : t1 1 = t 1 := d4.1 1 (by decide)
      have t115 : t1 0 15 = n := by rw [d4.2 15 (by decide) (by decide) (by decide) (by decide)]; exact n2
      have sa : ∀ c : Nat, c ≠ 236 → adv s c = s c := fun c hc => adv_r hc
      refine Two.fr (adv_fc s) (FM.f4 d4) ?_
      generalize adv s = s1 at d3 sa ⊢
      obtain ⟨y, R1, e1⟩ := d3.ne
      rw [e1] at d3
      rw [bd_a, bd_a]
      refine Two.b (t_num hc d3 (lo := 0) (hi := 999) (pl := 4 * n) (by omega)) (fun s => by rw [if_pos rfl]) (fun t => by rw [if_pos rfl, bd_s, if_pos rfl, bd_s, if_pos rfl]) (fun s2 t2 f2 g2 ⟨q1, q2, q3, q4, q5, q6⟩ => ?_)
      obtain ⟨z, R2, e2⟩ := q1.ne
      rw [e2] at q1
      have hz := (q1.ok hc).1
      have k11 := tk_eq hc.2.2.2.2 hz (show TokD 21 by decide) (show tkm 2 21 = 11 by rfl) (by decide)
      have k12 := tk_eq hc.2.2.2.2 hz (show TokD 1 by decide) (show tkm 2 1 = 12 by rfl) (by decide)
      have k13 := tk_eq hc.2.2.2.2 hz (show TokD 22 by decide) (show tkm 2 22 = 13 by rfl) (by decide)
      have k14 := tk_eq hc.2.2.2.2 hz (show TokD 23 by decide) (show tkm 2 23 = 14 by rfl) (by decide)
      have w13 : s2 236 13 = y.2.1 := by
        rw [q3, adv_o (Or.inr (by decide)), mup_e rfl rfl]
      have w24 : ∀ c : Nat, c ≠ 236 → s2 c = s c := fun c hc => by rw [q3, adv_r hc, mup_o hc, sa c hc]
      have w15 : t2 0 15 = n := (q6 15 (by decide) (by decide) (by decide) (by decide)).trans t115
      have w11 : t2 1 = t 1 := (q5 1 (by decide) (by decide)).trans t11
      rw [if_neg (by decide), if_neg (by decide), bd_s, if_neg (by decide), bd_e (c_next hc q1), bd_e (e_isIn _ _ _ _), bI_z, q1.tk, w13]
      by_cases ca : 11 ≤ tkm 2 z.1 ∧ tkm 2 z.1 ≤ 14
      · have hz30 : z.1 ≠ 30 := fun q => by
          rw [q] at ca
          exact absurd ca (by decide)
        have hact : z.1 = actC (tkm 2 z.1) ∧ (z.1 = 1 ∨ (21 ≤ z.1 ∧ z.1 ≤ 23)) := by
          rcases (show tkm 2 z.1 = 11 ∨ tkm 2 z.1 = 12 ∨ tkm 2 z.1 = 13 ∨ tkm 2 z.1 = 14 by omega) with q | q | q | q
          · rw [q]
            have := k11.mp q
            exact ⟨this, by omega⟩
          · rw [q]
            have := k12.mp q
            exact ⟨this, by omega⟩
          · rw [q]
            have := k13.mp q
            exact ⟨this, by omega⟩
          · rw [q]
            have := k14.mp q
            exact ⟨this, by omega⟩
        have hp3 : PT T B L 2 s2 (mup (mup t2 7 (4 * (n : Int) + 1) (tkm 2 z.1)) 7 (4 * (n : Int) + 3) 0) (z :: R2) := q1.sc (fun _ _ => rfl) ⟨rfl, rfl⟩ (fun i _ => by rw [mup_o (by decide), mup_o (by decide)]) (by rw [mup_o (by decide), mup_o (by decide)])
        obtain ⟨t3, a1, a2, a3, a4⟩ := both_adv hc hp3 hz30
        have g3 : FM t2 t3 := (((FM.rf t2).up7 (by decide) _ _).up7 (by decide) _ _).tr (FM.f4 a3)
        have v7 : t3 7 = up (up (up (t 7) (4 * (n : Int)) y.2.1) (4 * (n : Int) + 1) (tkm 2 z.1)) (4 * (n : Int) + 3) 0 := by
          rw [a3.1 7 (by decide), mup_row, mup_row, q4, t17]
        have v15 : t3 0 15 = n := (a3.2 15 (by decide) (by decide) (by decide) (by decide)).trans (by rw [mup_o (by decide), mup_o (by decide)]; exact w15)
        have v11 : t3 1 = t 1 := by rw [a3.1 1 (by decide), mup_o (by decide), mup_o (by decide), w11]
        rw [if_pos ca, gd_t (by omega), Nat.zero_add, lm_s, gd_t (by omega), lm_s, bd_e a1]
        -- the class goes on
        have cgo : ∀ (K : Mem → Res), (jn K fun j61 => if z.1 = 1 then j61 s2 else (bd (f_X11_within z.1 21 23 s2) fun r36 s37 => if r36 = 0 then (bd (f_X7_refuse 236 1 s37) fun r39 s40 => some (r39, s40)) else (j61 s37))) = K s2 := by
          intro K
          rw [jn_s]
          by_cases z1 : z.1 = 1
          · rw [if_pos z1]
          · rw [if_neg z1, bd_e (e_within _ _ _ _), bI_z, if_pos (by omega)]
        rw [cgo]
        have ead : mup s2 236 12 (wr (s2 236 12 + 1)) = adv s2 := by
          rw [a4]
          rfl
        rw [ead, lm_s]
        have wa : ∀ c : Nat, c ≠ 236 → adv s2 c = s c := fun c hc => by rw [adv_r hc, w24 c hc]
        refine Two.fr (adv_fc s2) g3 ?_
        generalize adv s2 = s3 at a2 wa ⊢
        obtain ⟨u, R3, e3⟩ := a2.ne
        rw [e3] at a2
        have hlen : R3.length + 2 ≤ R.length := by
          rw [e1, e2, e3]
          simp only [List.length_cons]
          omega
        have m18 : (mup t2 7 (4 * (n : Int) + 1) (tkm 2 z.1)) 0 18 = tkm 2 z.1 := by
          rw [mup_o (by decide)]
          exact q1.tk
        have x24 : ∀ (s4 : Mem) (v : Int), s4 = adv (mup s3 236 13 v) → (∀ c : Nat, c ≠ 236 → s4 c = s c) ∧ s4 236 13 = v := fun s4 v q => ⟨fun c hc => by rw [q, adv_r hc, mup_o hc, wa c hc], by rw [q, adv_o (Or.inr (by decide)), mup_e rfl rfl]⟩
        have n4' := n4
        have r7 : ∀ (f : Int → Int) (a2 : Int), f = up (t3 7) (4 * (n : Int) + 2) a2 → (∀ i : Int, 0 ≤ i → i < 4 * n → f i = t 7 i) ∧ f (4 * n) = y.2.1 ∧ f (4 * n + 1) = tkm 2 z.1 ∧ f (4 * n + 2) = a2 ∧ f (4 * n + 3) = 0 := by
          intro f a2 hf
          rw [hf, v7]
          refine ⟨fun i i1 i2 => ?_, ?_, ?_, up_eq rfl, ?_⟩
          · rw [up_ne (by omega), up_ne (by omega), up_ne (by omega), up_ne (by omega)]
          · rw [up_ne (by omega), up_ne (by omega), up_ne (by omega), up_eq rfl]
          · rw [up_ne (by omega), up_ne (by omega), up_eq rfl]
          · rw [up_ne (by omega), up_eq rfl]
        by_cases z1 : z.1 = 1
        · have t12 := k12.mpr z1
          rw [jn_s, if_pos z1]
          show Two (jn _ _) _ s3 t3 _
          rw [jn_s, if_pos z1, jn_s, if_pos t12]
          show Two _ (bd (bd _ _) _) s3 t3 _
          rw [bd_a]
          refine Two.b (t_num hc a2 (lo := 0) (hi := 9) (pl := 4 * n + 2) (by omega)) (fun s => by rw [if_pos rfl]) (fun t => by rw [if_pos rfl, bd_s, if_pos rfl]) (fun s4 t4 f4 g4 ⟨r1, r2, r3, r4, r5, r6⟩ => ?_)
          obtain ⟨x1, x2⟩ := x24 s4 _ r3
          obtain ⟨h1, h2, h3, h4, h5⟩ := r7 (t4 7) _ r4
          have hE := p_end (R := R3) (bo := bo) (hour := y.2.1) (act := tkm 2 z.1) (boat := -1) (a2 := u.2.1) (a3 := 0) (f7 := t 7) (s0 := s) (k := R.length) hc r1 c2 x1 ((r6 15 (by decide) (by decide) (by decide) (by decide)).trans v15) (by rw [r5 1 (by decide) (by decide), v11]; exact n5) h1 n1 n4' h2 h3 h4 h5 ca (fun q => absurd t12 q) (fun _ => ⟨x2, r2⟩) (fun q => absurd (t12.symm.trans q) (by decide)) (by omega)
          rw [← hact.1] at hE
          rw [if_neg (by decide), if_neg (by decide)]
          show Two (jn _ _) _ s4 t4 _
          rw [jn_s, if_neg (show ¬ z.1 = 23 by omega), if_neg (show ¬ tkm 2 z.1 = 14 by omega), bd_s, if_neg (by decide)]
          show Two (bd _ _) (bd _ _) s4 t4 _
          exact hE
        · have t12 : ¬ tkm 2 z.1 = 12 := fun q => z1 (k12.mp q)
          rw [jn_s, if_neg z1, jn_s, if_neg t12, gd_t (by decide), Nat.zero_add, v11, n5, wr_n (x := bo - 1) (by omega)]
          show Two _ (bd (bd _ _) _) s3 t3 _
          rw [bd_a]
          refine Two.b (t_num hc a2 (lo := 0) (hi := bo - 1) (pl := 4 * n + 2) (by omega)) (fun s => by rw [if_pos rfl]) (fun t => by rw [if_pos rfl, bd_s, if_pos rfl]) (fun s4 t4 f4 g4 ⟨r1, r2, r3, r4, r5, r6⟩ => ?_)
          obtain ⟨x1, x2⟩ := x24 s4 _ r3
          obtain ⟨h1, h2, h3, h4, h5⟩ := r7 (t4 7) _ r4
          have y15 := (r6 15 (by decide) (by decide) (by decide) (by decide)).trans v15
          have y11 : t4 1 58 = bo := by rw [r5 1 (by decide) (by decide), v11]; exact n5
          rw [if_neg (by decide), if_neg (by decide), x2]
          show Two (jn _ _) _ s4 t4 _
          rw [jn_s, if_neg z1]
          show Two (jn _ _) _ s4 t4 _
          rw [jn_s]
          by_cases z23 : z.1 = 23
          · have t14 := k14.mpr z23
            obtain ⟨u2, R4, e4⟩ := r1.ne
            rw [e4] at r1
            rw [if_pos z23, if_pos t14, bd_a, bd_a]
            refine Two.b (t_pass hc r1 (c := 24) (m := 15) (by decide) rfl (by decide) (by decide)) (fun s => by rw [if_pos rfl]) (fun t => by rw [if_pos rfl, bd_s, if_pos rfl, bd_s, if_pos rfl]) (fun s5 t5 f5 g5 ⟨w1, w2, w3⟩ => ?_)
            obtain ⟨u3, R5, e5⟩ := w1.ne
            rw [e5] at w1
            rw [if_neg (by decide), if_neg (by decide), bd_a]
            refine Two.b (t_num hc w1 (lo := 0) (hi := 15) (pl := 4 * n + 3) (by omega)) (fun s => by rw [if_pos rfl]) (fun t => by rw [if_pos rfl, bd_s, if_pos rfl, bd_s, if_pos rfl]) (fun s6 t6 f6 g6 ⟨l1, l2, l3, l4, l5, l6⟩ => ?_)
            have o24 : ∀ c : Nat, c ≠ 236 → s6 c = s c := fun c hc => by rw [l3, adv_r hc, mup_o hc, w2, adv_r hc, x1 c hc]
            have o13 : s6 236 13 = u3.2.1 := by rw [l3, adv_o (Or.inr (by decide)), mup_e rfl rfl]
            have t57 : t5 7 = t4 7 := w3.1 7 (by decide)
            have o15 : t6 0 15 = n := (l6 15 (by decide) (by decide) (by decide) (by decide)).trans ((w3.2 15 (by decide) (by decide) (by decide) (by decide)).trans y15)
            have o11 : t6 1 58 = bo := by rw [l5 1 (by decide) (by decide), w3.1 1 (by decide)]; exact y11
            have hE := p_end (R := R5) (bo := bo) (hour := y.2.1) (act := tkm 2 z.1) (boat := u.2.1) (a2 := u.2.1) (a3 := u3.2.1) (f7 := t 7) (s0 := s) (k := R.length) hc l1 c2 o24 o15 o11 (fun i i1 i2 => by rw [l4, t57, up_ne (by omega)]; exact h1 i i1 i2) n1 n4' (by rw [l4, t57, up_ne (by omega)]; exact h2) (by rw [l4, t57, up_ne (by omega)]; exact h3) (by rw [l4, t57, up_ne (by omega)]; exact h4) (by rw [l4, t57, up_eq rfl]) ca (fun _ => rfl) (fun q => absurd q t12) (fun _ => ⟨o13, l2⟩) (by
              have e6 : R3.length = R4.length + 1 := by rw [e4]; exact List.length_cons
              have e7 : R4.length = R5.length + 1 := by rw [e5]; exact List.length_cons
              omega)
            rw [← hact.1] at hE
            rw [if_neg (by decide), if_neg (by decide), bd_s, if_neg (by decide), bd_s, if_neg (by decide)]
            exact hE
          · have t14 : ¬ tkm 2 z.1 = 14 := fun q => z23 (k14.mp q)
            have hE := p_end (R := R3) (bo := bo) (hour := y.2.1) (act := tkm 2 z.1) (boat := u.2.1) (a2 := u.2.1) (a3 := 0) (f7 := t 7) (s0 := s) (k := R.length) hc r1 c2 x1 y15 y11 h1 n1 n4' h2 h3 h4 h5 ca (fun _ => rfl) (fun q => absurd q t12) (fun q => absurd q t14) (by omega)
            rw [← hact.1] at hE
            rw [if_neg z23, if_neg t14, bd_s, if_neg (by decide)]
            exact hE
      · have z1 : ¬ z.1 = 1 := fun q => ca (by rw [k12.mpr q]; decide)
        have z2 : ¬ (21 ≤ z.1 ∧ z.1 ≤ 23) := fun q => by
          rcases (show z.1 = 21 ∨ z.1 = 22 ∨ z.1 = 23 by omega) with w | w | w
          · exact ca (by rw [k11.mpr w]; decide)
          · exact ca (by rw [k13.mpr w]; decide)
          · exact ca (by rw [k14.mpr w]; decide)
        obtain ⟨s9, t9, a1, a2, a3, a4, a5⟩ := c_refuse hc q1 1
        rw [jn_s, if_neg z1, bd_e (e_within _ _ _ _), bI_z, if_neg z2, bd_e a1, if_neg ca, bd_e a2, bd_s, if_pos rfl]
        exact Or.inr ⟨s9, t9, rfl, rfl, a3, a4, a5⟩
    · obtain ⟨s1, t1, a1, a2, a3, a4, a5⟩ := b2 c1 c2
      rw [bd_e a1, if_pos rfl, if_pos (by omega), a2]
      exact Or.inr ⟨s1, t1, rfl, rfl, a3, a4, a5⟩
  · obtain ⟨s1, t1, a1, a2, a3, a4, a5⟩ := b3 c1
    rw [if_neg (fun z => c1 (hk.mp z)), bd_e a1, if_pos rfl, a2]
    exact Or.inr ⟨s1, t1, rfl, rfl, a3, a4, a5⟩
end

/-! ===== L3: texts: a line of CURRENTS ===== -/
section
variable {T : List Tk} {B : Int → Int} {L : Nat} {r : Int} {s t : Mem} {x : Tk} {R : List Tk}
theorem l_beg (hc : PC T B L r) (h : PT T B L r s t (x :: R)) (c : Int) (n : Nat) (h30 : c ≠ 30) : (x.1 = c → n < 16 → f_X7_begins 236 c n s = some (1, adv s)) ∧ (x.1 = c → ¬ n < 16 → ∃ s1 t1 : Mem, f_X7_begins 236 c n s = some (0, s1) ∧ f_X12_bad 0 3 t = some (0, t1) ∧ Er s1 t1 ∧ FD s s1 ∧ FM t t1) ∧ (x.1 ≠ c → ∃ s1 t1 : Mem, f_X7_begins 236 c n s = some (0, s1) ∧ f_X12_bad 0 1 t = some (0, t1) ∧ Er s1 t1 ∧ FD s s1 ∧ FM t t1) := by
  unfold f_X7_begins
  rw [bd_e (c_next hc h)]
  refine ⟨fun q1 q2 => ?_, fun q1 q2 => ?_, fun q1 => ?_⟩
  · obtain ⟨t1, a1, a2, a3, a4⟩ := both_adv hc h (by rw [q1]; exact h30)
    rw [if_pos q1, if_pos (by omega), a4, lm_s]
    rfl
  · obtain ⟨s1, t1, a1, a2, a3, a4, a5⟩ := c_refuse hc h 3
    rw [if_pos q1, if_neg (by omega), bd_e a1]
    exact ⟨s1, t1, rfl, a2, a3, a4, a5⟩
  · obtain ⟨s1, t1, a1, a2, a3, a4, a5⟩ := c_refuse hc h 1
    rw [if_neg q1, bd_e a1]
    exact ⟨s1, t1, rfl, a2, a3, a4, a5⟩
theorem PT.ne (h : PT T B L r s t R) : ∃ (y : Tk) (R' : List Tk), R = y :: R' := by
  cases R with
  | nil => exact absurd h.2.2.1 (fun q => q)
  | cons y R => exact ⟨y, R, rfl⟩
/-- what a line of the model's is, behind the test of its first word -/
noncomputable def lnM (m : Int) (t : Mem) : Res := if t 0 18 = m then (if t 0 15 = 16 then f_X12_bad 0 3 t else f_X12_aRow 0 t) else f_X12_bad 0 1 t
theorem adv_fc2 {s0 s : Mem} (h : FC s0 s) : FC s0 (adv s) := h.tr (adv_fc s)
theorem FM.nm {t t1 : Mem} (q : ∀ c : Nat, c ≠ 0 → c ≠ 7 → t1 c = t c) (q0 : ∀ i : Int, i ≠ 17 → i ≠ 18 → i ≠ 19 → i ≠ 20 → t1 0 i = t 0 i) : FM t t1 := ⟨fun c a _ _ d => q c a d, fun i hi => q0 i (by omega) (by omega) (by omega) (by omega)⟩
theorem bd_a (o : Res) (f g : Int → Mem → Res) : bd (bd o f) g = bd o (fun r s => bd (f r s) g) := by
  cases o with
  | none => rfl
  | some q => rfl
theorem Two.b {o1 o2 : Res} {k1 k2 : Int → Mem → Res} {P Q : Mem → Mem → Prop} (h : Two o1 o2 s t P) (h1 : ∀ s1 : Mem, k1 0 s1 = some (0, s1)) (h2 : ∀ t1 : Mem, k2 0 t1 = some (0, t1)) (hk : ∀ s1 t1 : Mem, FC s s1 → FM t t1 → P s1 t1 → Two (k1 1 s1) (k2 1 t1) s1 t1 Q) : Two (bd o1 k1) (bd o2 k2) s t Q := by
  rcases h with ⟨s1, t1, a1, a2, a3, a4, a5⟩ | ⟨s1, t1, a1, a2, a3, a4, a5⟩
  · rw [bd_e a1, bd_e a2]
    rcases hk s1 t1 a3 a4 a5 with ⟨s2, t2, b1, b2, b3, b4, b5⟩ | ⟨s2, t2, b1, b2, b3, b4, b5⟩
    · exact Or.inl ⟨s2, t2, b1, b2, a3.tr b3, a4.tr b4, b5⟩
    · exact Or.inr ⟨s2, t2, b1, b2, b3, a3.tl b4, a4.tr b5⟩
  · rw [bd_e a1, bd_e a2]
    exact Or.inr ⟨s1, t1, h1 s1, h2 t1, a3, a4, a5⟩
theorem Two.ok {o1 o2 : Res} {s1 t1 : Mem} {Q : Mem → Mem → Prop} (h1 : o1 = some (1, s1)) (h2 : o2 = some (1, t1)) (f : FC s s1) (g : FM t t1) (q : Q s1 t1) : Two o1 o2 s t Q := Or.inl ⟨s1, t1, h1, h2, f, g, q⟩
theorem Two.bad (hc : PC T B L r) (h : PT T B L r s t (x :: R)) (why : Int) {Q : Mem → Mem → Prop} {o1 o2 : Res} (h1 : o1 = f_X7_refuse 236 why s) (h2 : o2 = f_X12_bad 0 why t) : Two o1 o2 s t Q := by
  obtain ⟨s1, t1, a1, a2, a3, a4, a5⟩ := c_refuse hc h why
  exact Or.inr ⟨s1, t1, h1.trans a1, h2.trans a2, a3, a4, a5⟩
theorem t_pass (hc : PC T B L r) (h : PT T B L r s t (x :: R)) {c m : Int} (hd : TokD c) (hm : tkm r c = m) (h1 : m ≠ 1) (h30 : c ≠ 30) : Two (f_X7_passes 236 c s) (f_X12_need 0 m t) s t (fun s1 t1 => PT T B L r s1 t1 R ∧ s1 = adv s ∧ Fr4 t t1) := by
  obtain ⟨a, b⟩ := l_pass hc h hd hm h1 h30
  by_cases q : x.1 = c
  · obtain ⟨t1, d1, d2, d3, d4⟩ := a q
    exact Two.ok d1 d2 (adv_fc s) (FM.f4 d4) ⟨d3, rfl, d4⟩
  · obtain ⟨s1, t1, d⟩ := b q
    exact Or.inr ⟨s1, t1, d⟩
theorem t_num (hc : PC T B L r) (h : PT T B L r s t (x :: R)) {lo hi pl : Int} (hp : 0 ≤ pl ∧ pl < 64) : Two (f_X7_passesNumber 236 lo hi s) (f_X12_number 0 pl lo hi t) s t (fun s1 t1 => PT T B L r s1 t1 R ∧ (lo ≤ x.2.1 ∧ x.2.1 ≤ hi) ∧ s1 = adv (mup s 236 13 x.2.1) ∧ t1 7 = up (t 7) pl x.2.1 ∧ (∀ c : Nat, c ≠ 0 → c ≠ 7 → t1 c = t c) ∧ ∀ i : Int, i ≠ 17 → i ≠ 18 → i ≠ 19 → i ≠ 20 → t1 0 i = t 0 i) := by
  obtain ⟨a, b⟩ := l_num hc h (lo := lo) (hi := hi) hp
  by_cases q : x.1 = 31 ∧ lo ≤ x.2.1 ∧ x.2.1 ≤ hi
  · obtain ⟨t1, d1, d2, d3, d4, d5, d6⟩ := a q
    exact Two.ok d1 d2 (adv_fc2 ((FC.rf s).up (by decide) (Or.inr (by decide)))) (FM.nm d5 d6) ⟨d3, q.2, rfl, d4, d5, d6⟩
  · obtain ⟨s1, t1, d⟩ := b q
    exact Or.inr ⟨s1, t1, d⟩
theorem k0 (f g : Int → Mem → Res) (s : Mem) (h : f 0 s = some (0, s)) (hg : g 0 s = some (0, s)) : bd (f 0 s) g = some (0, s) := by rw [h]; exact hg
theorem adv_o {a : Nat} {i : Int} (h : a ≠ 236 ∨ i ≠ 12) : adv s a i = s a i := mup_n h
theorem adv_r {a : Nat} (h : a ≠ 236) : adv s a = s a := mup_o h
theorem l_curr (hc : PC T B L 1) (h : PT T B L 1 s t (x :: R)) {n : Nat} (hn : CuR s t n) : Two (f_X7_currentLine 236 s) (lnM 7 t) s t (fun s1 t1 => ∃ R' : List Tk, PT T B L 1 s1 t1 R' ∧ R'.length ≤ R.length ∧ CuR s1 (mup t1 0 15 ((n + 1 : Nat) : Int)) (n + 1) ∧ t1 0 15 = n) := by
  obtain ⟨n1, n2, n3, n4⟩ := hn
  have hk := tk_eq hc.2.2.2.2 (h.ok hc).1 (show TokD 7 by decide) (show tkm 1 7 = 7 by rfl) (by decide)
  obtain ⟨b1, b2, b3⟩ := l_beg hc h 7 n (by decide)
  unfold f_X7_currentLine lnM
  simp only [Nat.reduceAdd]
  rw [n1, h.tk]
  by_cases c1 : x.1 = 7
  · rw [if_pos (hk.mpr c1), n2]
    by_cases c2 : n < 16
    · rw [bd_e (b1 c1 c2), if_neg (by decide), if_neg (by omega)]
      unfold f_X12_aRow f_X12_aCurrent f_X12_told
      obtain ⟨p1, -⟩ := l_pass hc h (c := 7) (m := 7) (by decide) rfl (by decide) (by decide)
      obtain ⟨t1, -, d2, d3, d4⟩ := p1 c1
      have e12 : t 0 12 = 1 := h.2.2.2.2.2
      rw [jn_s, if_pos e12, bd_e d2, if_neg (by decide), n2, wr_n (x := 2 * (n : Int)) (by omega), wr_n (x := 2 * (n : Int) + 1) (by omega)]
      have t17 : t1 7 = t 7 := d4.1 7 (by decide)
      have t115 : t1 0 15 = n := by rw [d4.2 15 (by decide) (by decide) (by decide) (by decide)]; exact n2
      have sa : ∀ c : Nat, c ≠ 236 → adv s c = s c := fun c hc => adv_r hc
      have f1 : FC s (adv s) := adv_fc s
      have g1 : FM t t1 := FM.f4 d4
      suffices hx : Two (bd (f_X7_passesNumber 236 0 23 (adv s)) _) _ (adv s) t1 _ by
        rcases hx with ⟨s2, t2, z1, z2, z3, z4, z5⟩ | ⟨s2, t2, z1, z2, z3, z4, z5⟩
        · exact Or.inl ⟨s2, t2, z1, z2, f1.tr z3, g1.tr z4, z5⟩
        · exact Or.inr ⟨s2, t2, z1, z2, z3, f1.tl z4, g1.tr z5⟩
      generalize adv s = s1 at d3 sa f1 ⊢
      obtain ⟨y, R1, e1⟩ := d3.ne
      rw [e1] at d3
      rw [bd_a, bd_a]
      refine Two.b (t_num hc d3 (lo := 0) (hi := 23) (pl := 2 * n) (by omega)) (fun s => by rw [if_pos rfl]) (fun t => by rw [if_pos rfl, bd_s, if_pos rfl, bd_s, if_pos rfl]) (fun s2 t2 f2 g2 ⟨q1, q2, q3, q4, q5, q6⟩ => ?_)
      obtain ⟨z, R2, e2⟩ := q1.ne
      rw [e2] at q1
      have hk8 := tk_eq hc.2.2.2.2 (q1.ok hc).1 (show TokD 18 by decide) (show tkm 1 18 = 8 by rfl) (by decide)
      have hk9 := tk_eq hc.2.2.2.2 (q1.ok hc).1 (show TokD 19 by decide) (show tkm 1 19 = 9 by rfl) (by decide)
      have w13 : s2 236 13 = y.2.1 := by
        rw [q3, adv_o (Or.inr (by decide)), mup_e rfl rfl]
      have w24 : ∀ c : Nat, c ≠ 236 → s2 c = s c := fun c hc => by rw [q3, adv_r hc, mup_o hc, sa c hc]
      have w15 : t2 0 15 = n := (q6 15 (by decide) (by decide) (by decide) (by decide)).trans t115
      rw [if_neg (by decide), if_neg (by decide), bd_s, if_neg (by decide), bd_e (c_next hc q1), jn_s, jn_s, q1.tk, w13]
      have fin : ∀ eb : Int, (eb = 1 ∧ z.1 = 19) ∨ (eb = 0 ∧ z.1 = 18) → Two (lm (mup s2 236 12 (wr ((s2 236 12) + 1))) fun s9 => bd (f_X7_passesNumber 236 0 5 s9) fun r10 s11 => if r10 = 0 then (some (0, s11)) else (bd (f_X7_passes 236 59 s11) fun r13 s14 => if r13 = 0 then (some (0, s14)) else (jn (fun (y16 : Int) => bd (f_X1_enter 244 y.2.1 y16 s14) fun r17 s18 => some (1, s18)) fun j110 => if z.1 = 18 then (j110 (s11 236 13)) else (j110 (wr (-(s11 236 13)))))))
          (bd (bd (f_X12_next0 0 t2) fun r5 s6 => bd (f_X12_number 0 (2 * (n : Int) + 1) 0 5 s6) fun r7 s8 => if r7 = 0 then (some (0, s8)) else (jn (fun (y10 : Int) => gd ((0 : Int) ≤ 2 * (n : Int) + 1 ∧ 2 * (n : Int) + 1 < 64) (lm (mup s8 (0 + 7) (2 * (n : Int) + 1) y10) fun s12 => some (1, s12))) fun j105 => if eb = 0 then (gd ((0 : Int) ≤ 2 * (n : Int) + 1 ∧ 2 * (n : Int) + 1 < 64) (j105 (s8 (0 + 7) (2 * (n : Int) + 1)))) else (gd ((0 : Int) ≤ 2 * (n : Int) + 1 ∧ 2 * (n : Int) + 1 < 64) (j105 (wr (-(s8 (0 + 7) (2 * (n : Int) + 1)))))))) fun r6 s7 => if r6 = 0 then some (0, s7) else bd (f_X12_need 0 159 s7) fun r2 s3 => if r2 = 0 then some (0, s3) else some (1, s3))
          s2 t2 (fun s1 t1 => ∃ R', PT T B L 1 s1 t1 R' ∧ R'.length ≤ R.length ∧ CuR s1 (mup t1 0 15 ((n + 1 : Nat) : Int)) (n + 1) ∧ t1 0 15 = n) := by
        intro eb heb
        obtain ⟨t3, a1, a2, a3, a4⟩ := both_adv hc q1 (by omega)
        rw [a4, lm_s, bd_e a1, bd_a]
        have fa : FC s2 (adv s2) := adv_fc s2
        have ga : FM t2 t3 := FM.f4 a3
        have wa : ∀ c : Nat, c ≠ 236 → adv s2 c = s c := fun c hc => by rw [adv_r hc, w24 c hc]
        have v7 : t3 7 = up (t 7) (2 * (n : Int)) y.2.1 := by rw [a3.1 7 (by decide), q4, t17]
        have v15 : t3 0 15 = n := (a3.2 15 (by decide) (by decide) (by decide) (by decide)).trans w15
        have ead : mup s2 236 12 (s2 236 12 + 1) = adv s2 := rfl
        rw [ead]
        suffices hx : Two (bd (f_X7_passesNumber 236 0 5 (adv s2)) _) _ (adv s2) t3 _ by
          rcases hx with ⟨s9, t9, z1, z2, z3, z4, z5⟩ | ⟨s9, t9, z1, z2, z3, z4, z5⟩
          · exact Or.inl ⟨s9, t9, z1, z2, fa.tr z3, ga.tr z4, z5⟩
          · exact Or.inr ⟨s9, t9, z1, z2, z3, fa.tl z4, ga.tr z5⟩
        generalize adv s2 = s3 at a2 wa ⊢
        obtain ⟨u, R3, e3⟩ := a2.ne
        rw [e3] at a2
        refine Two.b (t_num hc a2 (lo := 0) (hi := 5) (pl := 2 * n + 1) (by omega)) (fun s => by rw [if_pos rfl]) (fun t => by rw [if_pos rfl, bd_s, if_pos rfl]) (fun s4 t4 f4 g4 ⟨r1, r2, r3, r4, r5, r6⟩ => ?_)
        have x13 : s4 236 13 = u.2.1 := by
          rw [r3, adv_o (Or.inr (by decide)), mup_e rfl rfl]
        have x24 : ∀ c : Nat, c ≠ 236 → s4 c = s c := fun c hc => by rw [r3, adv_r hc, mup_o hc, wa c hc]
        have x15 : t4 0 15 = n := (r6 15 (by decide) (by decide) (by decide) (by decide)).trans v15
        have x7 : t4 (0 + 7) (2 * (n : Int) + 1) = u.2.1 := by
          rw [Nat.zero_add, r4, up_eq rfl]
        rw [if_neg (by decide), if_neg (by decide), jn_s, x7, x13, wr_n (x := -u.2.1) (by omega), gd_t (by omega), gd_t (by omega)]
        have fin2 : ∀ v : Int, (-5 ≤ v ∧ v ≤ 5) → ((z.1 = 18 ∧ v = u.2.1) ∨ (z.1 ≠ 18 ∧ v = -u.2.1)) → Two (bd (f_X7_passes 236 59 s4) fun r13 s14 => if r13 = 0 then (some (0, s14)) else (jn (fun (y16 : Int) => bd (f_X1_enter 244 y.2.1 y16 s14) fun r17 s18 => some (1, s18)) fun j110 => if z.1 = 18 then (j110 u.2.1) else (j110 (-u.2.1)))) (bd (gd ((0 : Int) ≤ 2 * (n : Int) + 1 ∧ 2 * (n : Int) + 1 < 64) (lm (mup t4 (0 + 7) (2 * (n : Int) + 1) v) fun s12 => some (1, s12))) fun r6 s7 => if r6 = 0 then some (0, s7) else bd (f_X12_need 0 159 s7) fun r2 s3 => if r2 = 0 then some (0, s3) else some (1, s3)) s4 t4 (fun s1 t1 => ∃ R', PT T B L 1 s1 t1 R' ∧ R'.length ≤ R.length ∧ CuR s1 (mup t1 0 15 ((n + 1 : Nat) : Int)) (n + 1) ∧ t1 0 15 = n) := by
          intro v hv hz
          obtain ⟨o, R4, e4⟩ := r1.ne
          rw [e4] at r1
          have hp5 : PT T B L 1 s4 (mup t4 7 (2 * (n : Int) + 1) v) (o :: R4) := r1.sc (fun _ _ => rfl) ⟨rfl, rfl⟩ (fun i _ => by rw [mup_o (by decide)]) (mup_o (by decide))
          have gq : FM t4 (mup t4 7 (2 * (n : Int) + 1) v) := (FM.rf t4).up7 (by decide) _ _
          rw [gd_t (by omega), lm_s, bd_s, if_neg (by decide), Nat.zero_add]
          have hh : Two (bd (f_X7_passes 236 59 s4) fun r13 s14 => if r13 = 0 then (some (0, s14)) else (jn (fun (y16 : Int) => bd (f_X1_enter 244 y.2.1 y16 s14) fun r17 s18 => some (1, s18)) fun j110 => if z.1 = 18 then (j110 u.2.1) else (j110 (-u.2.1)))) (bd (f_X12_need 0 159 (mup t4 7 (2 * (n : Int) + 1) v)) fun r2 s3 => if r2 = 0 then some (0, s3) else some (1, s3)) s4 (mup t4 7 (2 * (n : Int) + 1) v) (fun s1 t1 => ∃ R', PT T B L 1 s1 t1 R' ∧ R'.length ≤ R.length ∧ CuR s1 (mup t1 0 15 ((n + 1 : Nat) : Int)) (n + 1) ∧ t1 0 15 = n) := by
            refine Two.b (t_pass hc hp5 (c := 59) (m := 159) (by decide) rfl (by decide) (by decide)) (fun s => by rw [if_pos rfl]) (fun t => by rw [if_pos rfl]) (fun s6 t6 f6 g6 ⟨k1, k2, k3⟩ => ?_)
            have y24 : ∀ c : Nat, c ≠ 236 → s6 c = s c := fun c hc => by rw [k2, adv_r hc, x24 c hc]
            have y2 : s6 244 2 = n := by rw [y24 244 (by decide)]; exact n1
            have y15 : t6 0 15 = n := (k3.2 15 (by decide) (by decide) (by decide) (by decide)).trans (by rw [mup_o (by decide)]; exact x15)
            have y7 : t6 7 = up (up (up (t 7) (2 * (n : Int)) y.2.1) (2 * (n : Int) + 1) u.2.1) (2 * (n : Int) + 1) v := by
              rw [k3.1 7 (by decide), mup_row, r4, v7]
            have hj : (if z.1 = 18 then (fun (y16 : Int) => bd (f_X1_enter 244 y.2.1 y16 s6) fun r17 s18 => some (1, s18)) u.2.1 else (fun (y16 : Int) => bd (f_X1_enter 244 y.2.1 y16 s6) fun r17 s18 => some (1, s18)) (-u.2.1)) = bd (f_X1_enter 244 y.2.1 v s6) fun r17 s18 => some (1, s18) := by
              rcases hz with ⟨h1, h2⟩ | ⟨h1, h2⟩
              · rw [if_pos h1, h2]
              · rw [if_neg h1, h2]
            rw [if_neg (by decide), if_neg (by decide), jn_s, hj]
            unfold f_X1_enter
            simp only [Nat.reduceAdd]
            rw [y2, if_pos (by omega), gd_t (by omega), lm_s, mup_o (a := 245) (by decide), y2, gd_t (by omega), lm_s, mup_o (a := 246) (by decide), mup_o (a := 245) (by decide), y2, wr_n (x := (n : Int) + 1) (by omega), lm_s, bd_s]
            refine Two.ok rfl rfl ((((FC.rf s6).up (by decide) (Or.inl (by decide))).up (by decide) (Or.inl (by decide))).up (by decide) (Or.inl (by decide))) (FM.rf t6) ⟨R4, ?_, ?_, ?_, y15⟩
            · exact k1.sc (fun c hc => by rw [mup_o (by omega), mup_o (by omega), mup_o (by omega)]) ⟨by rw [mup_o (by decide), mup_o (by decide), mup_o (by decide)], by rw [mup_o (by decide), mup_o (by decide), mup_o (by decide)]⟩ (fun _ _ => rfl) rfl
            · rw [e1, e2, e3, e4]
              simp only [List.length_cons]
              omega
            · refine ⟨by rw [mup_e rfl rfl]; omega, by rw [mup_e rfl rfl], by omega, fun i g1 g2 => ?_⟩
              have et : mup t6 0 15 ((n + 1 : Nat) : Int) 7 = t6 7 := mup_o (by decide)
              rw [et, y7, mup_o (a' := 245) (by decide), mup_o (a' := 246) (by decide), mup_o (a' := 245) (by decide), mup_row, mup_row, mup_o (a' := 246) (by decide), y24 245 (by decide), y24 246 (by decide)]
              by_cases ci : i = n
              · subst ci
                rw [up_eq rfl, up_eq rfl, up_ne (j := 2 * (n : Int)) (by omega), up_ne (j := 2 * (n : Int)) (by omega), up_eq rfl, up_eq rfl]
                exact ⟨rfl, rfl, q2, hv⟩
              · have := n4 i g1 (by omega)
                rw [up_ne ci, up_ne ci, up_ne (by omega), up_ne (by omega), up_ne (by omega), up_ne (by omega), up_ne (by omega), up_ne (by omega)]
                exact this
          rcases hh with ⟨s9, t9, z1, z2, z3, z4, z5⟩ | ⟨s9, t9, z1, z2, z3, z4, z5⟩
          · exact Or.inl ⟨s9, t9, z1, z2, z3, gq.tr z4, z5⟩
          · exact Or.inr ⟨s9, t9, z1, z2, z3, z4, gq.tr z5⟩
        rcases heb with ⟨h1, h2⟩ | ⟨h1, h2⟩
        · rw [if_neg (show ¬ eb = 0 by omega)]
          exact fin2 (-u.2.1) (by omega) (Or.inr ⟨by omega, rfl⟩)
        · rw [if_pos h1]
          exact fin2 u.2.1 (by omega) (Or.inl ⟨h2, rfl⟩)
      by_cases z8 : z.1 = 18
      · rw [if_pos z8, if_neg (by rw [z8]; decide)]
        show Two _ (bd (jn _ _) _) s2 t2 _
        rw [jn_s, if_pos rfl, if_pos (hk8.mpr z8)]
        exact fin 0 (Or.inr ⟨rfl, z8⟩)
      · rw [if_neg z8]
        by_cases z9 : z.1 = 19
        · rw [if_pos z9, if_pos (hk9.mpr z9)]
          show Two _ (bd (jn _ _) _) s2 t2 _
          rw [jn_s, if_neg (by decide)]
          exact fin 1 (Or.inl ⟨rfl, z9⟩)
        · rw [if_neg z9, if_neg (fun q => z9 (hk9.mp q))]
          show Two _ (bd (jn _ _) _) s2 t2 _
          obtain ⟨s9, t9, a1, a2, a3, a4, a5⟩ := c_refuse hc q1 1
          rw [jn_s, if_pos rfl, if_neg (fun q => z8 (hk8.mp q)), bd_e a1, bd_e a2, bd_s, if_pos rfl]
          exact Or.inr ⟨s9, t9, rfl, rfl, a3, a4, a5⟩
    · obtain ⟨s1, t1, a1, a2, a3, a4, a5⟩ := b2 c1 c2
      rw [bd_e a1, if_pos rfl, if_pos (by omega), a2]
      exact Or.inr ⟨s1, t1, rfl, rfl, a3, a4, a5⟩
  · obtain ⟨s1, t1, a1, a2, a3, a4, a5⟩ := b3 c1
    rw [if_neg (fun z => c1 (hk.mp z)), bd_e a1, if_pos rfl, a2]
    exact Or.inr ⟨s1, t1, rfl, rfl, a3, a4, a5⟩
end

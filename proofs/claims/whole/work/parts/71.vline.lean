/-! ===== L3: texts: a line of VILLAGES ===== -/
def VlM (f A Z : Int → Int) (n : Nat) : Prop := (∀ i : Int, 0 ≤ i → i < n → (0 ≤ f (3 * i) ∧ f (3 * i) < 12) ∧ 0 < f (3 * i + 1) ∧ A (f (3 * i)) = f (3 * i + 1) ∧ Z (f (3 * i)) = f (3 * i + 2)) ∧ ∀ v : Int, 0 ≤ v → v < 12 → 0 < A v → ∃ i : Int, 0 ≤ i ∧ i < n ∧ f (3 * i) = v
def VlR (s t : Mem) (n : Nat) : Prop := VlC s n ∧ VlF (s 254) (s 253) (s 255) ∧ t 0 15 = n ∧ VlM (t 7) (s 253) (s 255) n
theorem VlC.le {s : Mem} {n : Nat} (h : VlC s n) : n ≤ 12 := by
  rw [h.2.1]
  exact cn_le _ _
theorem m_20 {k63 k51 : Unit → Res} {t : Mem} {n : Nat} (hn : t 0 15 = n) (hn12 : n ≤ 12) : ∀ (j fu : Nat) (i : Int), j < fu → 0 ≤ i → i + j = n → ((t 0 18 = 2 ∧ ∃ q : Int, i ≤ q ∧ q < n ∧ t 7 (3 * q) = t 0 20) ∧ f_X12_aVillage_20 0 k63 k51 t fu i = k51 ()) ∨ (¬ (t 0 18 = 2 ∧ ∃ q : Int, i ≤ q ∧ q < n ∧ t 7 (3 * q) = t 0 20) ∧ f_X12_aVillage_20 0 k63 k51 t fu i = k63 ()) := by
  intro j
  induction j with
  | zero =>
    intro fu i h1 h2 h3
    cases fu with
    | zero => exact absurd h1 (Nat.not_lt_zero _)
    | succ fu =>
      rw [f_X12_aVillage_20, hn, if_neg (by omega)]
      exact Or.inr ⟨fun ⟨_, q, q1, q2, _⟩ => by omega, rfl⟩
  | succ j ih =>
    intro fu i h1 h2 h3
    cases fu with
    | zero => exact absurd h1 (Nat.not_lt_zero _)
    | succ fu =>
      rw [f_X12_aVillage_20, hn, if_pos (by omega), jn_s, wr_n (x := 3 * i) (by omega), wr_n (x := i + 1) (by omega), Nat.zero_add]
      have nx := ih fu (i + 1) (by omega) (by omega) (by omega)
      by_cases c2 : t 0 18 = 2
      · rw [if_pos c2, gd_t (by omega)]
        by_cases c3 : t 7 (3 * i) = t 0 20
        · rw [if_pos c3]
          exact Or.inl ⟨⟨c2, i, Int.le_refl i, by omega, c3⟩, rfl⟩
        · rw [if_neg c3]
          rcases nx with ⟨⟨p1, q, q1, q2, q3⟩, p2⟩ | ⟨p1, p2⟩
          · exact Or.inl ⟨⟨c2, q, by omega, q2, q3⟩, p2⟩
          · refine Or.inr ⟨fun ⟨_, q, q1, q2, q3⟩ => p1 ⟨c2, q, ?_, q2, q3⟩, p2⟩
            by_cases e : q = i
            · rw [e] at q3
              exact absurd q3 c3
            · omega
      · rw [if_neg c2]
        rcases nx with ⟨⟨p1, _⟩, p2⟩ | ⟨p1, p2⟩
        · exact absurd p1 c2
        · exact Or.inr ⟨fun z => c2 z.1, p2⟩
theorem m20_two {k63 k51 : Unit → Res} {K : Int → Mem → Res} {o1 : Res} {s t : Mem} {Q : Mem → Mem → Prop} {n : Nat} (hn : t 0 15 = n) (hn12 : n ≤ 12) (h1 : (t 0 18 = 2 ∧ ∃ q : Int, 0 ≤ q ∧ q < n ∧ t 7 (3 * q) = t 0 20) → Two o1 (bd (k51 ()) K) s t Q) (h2 : ¬ (t 0 18 = 2 ∧ ∃ q : Int, 0 ≤ q ∧ q < n ∧ t 7 (3 * q) = t 0 20) → Two o1 (bd (k63 ()) K) s t Q) : Two o1 (bd (f_X12_aVillage_20 0 k63 k51 t FU 0) K) s t Q := by
  rcases m_20 (k63 := k63) (k51 := k51) hn hn12 n FU 0 (fu_lt (by omega)) (by decide) (by omega) with ⟨a, b⟩ | ⟨a, b⟩
  · rw [b]
    exact h1 a
  · rw [b]
    exact h2 a
theorem jn18 {c : Prop} [Decidable c] (F : (Mem → Res) → Int → Res) (k : Mem → Res) : (jn (fun (y12 : Int) => jn k fun j150 => F j150 y12) fun j114 => if c then j114 1 else j114 0) = F k (bI c) := by
  rw [jn_s]
  by_cases h : c
  · rw [if_pos h, bI_t h]
    rfl
  · rw [if_neg h, bI_f h]
    rfl
section
variable {T : List Tk} {B : Int → Int} {L : Nat} {s t : Mem} {x : Tk} {R : List Tk}
theorem l_vil (hc : PC T B L 3) (h : PT T B L 3 s t (x :: R)) {n : Nat} (hn : VlR s t n) : Two (f_X7_villageLine 236 s) (lnM 16 t) s t (fun s1 t1 => ∃ R' : List Tk, PT T B L 3 s1 t1 R' ∧ R'.length ≤ R.length ∧ VlR s1 (mup t1 0 15 ((n + 1 : Nat) : Int)) (n + 1) ∧ t1 0 15 = n) := by
  obtain ⟨hC, hF, n2, m1, m2⟩ := hn
  have n3 := hC.le
  have n1 := hC.1
  have hk := tk_eq hc.2.2.2.2 (h.ok hc).1 (show TokD 25 by decide) (show tkm 3 25 = 16 by rfl) (by decide)
  obtain ⟨b1, b2, b3⟩ := l_beg hc h 25 n (by decide)
  unfold f_X7_villageLine lnM
  simp only [Nat.reduceAdd]
  rw [n1, h.tk]
  by_cases c1 : x.1 = 25
  · rw [if_pos (hk.mpr c1), n2, bd_e (b1 c1 (by omega)), if_neg (by decide), if_neg (by omega)]
    unfold f_X12_aRow f_X12_aVillage f_X12_told
    obtain ⟨p1, -⟩ := l_pass hc h (c := 25) (m := 16) (by decide) rfl (by decide) (by decide)
    obtain ⟨t1, -, d2, d3, d4⟩ := p1 c1
    have e12 : t 0 12 = 3 := h.2.2.2.2.2
    rw [jn_s, e12, if_neg (by decide), if_neg (by decide), bd_e d2, if_neg (by decide), n2, wr_n (x := 3 * (n : Int)) (by omega), wr_n (x := 3 * (n : Int) + 1) (by omega), wr_n (x := 3 * (n : Int) + 2) (by omega)]
    have t17 : t1 7 = t 7 := d4.1 7 (by decide)
    have t115 : t1 0 15 = n := by rw [d4.2 15 (by decide) (by decide) (by decide) (by decide)]; exact n2
    have sa : ∀ c : Nat, c ≠ 236 → adv s c = s c := fun c hc => adv_r hc
    refine Two.fr (adv_fc s) (FM.f4 d4) ?_
    generalize adv s = s1 at d3 sa ⊢
    obtain ⟨y, R1, e1⟩ := d3.ne
    subst e1
    have lR : (y :: R1).length = R1.length + 1 := List.length_cons
    have hk31 := tk_eq hc.2.2.2.2 (d3.ok hc).1 (show TokD 31 by decide) (num_tk hc.2.2.2.2) (by decide)
    have y12 : s1 252 3 = n := by rw [sa 252 (by decide)]; exact n1
    rw [jn_s, jn_s]
    dsimp only
    refine m20_two t115 n3 (fun hz => ?_) (fun hz => ?_)
    · obtain ⟨z1, q, q1, q2, q3⟩ := hz
      rw [d3.tk] at z1
      have y31 := hk31.mp z1
      obtain ⟨w1, w2, w3, w4⟩ := m1 q q1 q2
      rw [d3.val y31, t17] at q3
      rw [q3] at w1 w3
      obtain ⟨t9, k1, -⟩ := (l_num hc d3 (lo := 0) (hi := 11) (pl := 0) (by decide)).1 ⟨y31, by omega, by omega⟩
      obtain ⟨s8, t8, v1, v2, v3, v4, v5⟩ := c_refuse hc (back_pt (t1 := t1) hc d3 y.2.1) 2
      have e13 : adv (mup s1 236 13 y.2.1) 236 13 = y.2.1 := by rw [adv_o (Or.inr (by decide)), mup_e rfl rfl]
      have e253 : adv (mup s1 236 13 y.2.1) 253 = s 253 := by rw [adv_r (by decide), mup_o (by decide), sa 253 (by decide)]
      rw [bd_e k1, if_neg (by decide), e13, bd_e (c_told0 w1), e253, bI_z, if_pos (by omega), lm_s, bd_e v1, bd_e v2, bd_s, if_pos rfl]
      refine Or.inr ⟨s8, t8, rfl, rfl, v3, FC.tl ?_ v4, v5⟩
      exact (((FC.rf s1).up (by decide) (Or.inr (by decide))).tr (adv_fc _)).up (by decide) (Or.inr (by decide))
    · rw [bd_a]
      by_cases y31 : y.1 = 31
      · refine Two.b (t_num hc d3 (lo := 0) (hi := 11) (pl := 3 * n) (by omega)) (fun s => by rw [if_pos rfl]) (fun t => by rw [if_pos rfl, bd_s, if_pos rfl]) (fun s2 t2 f2 g2 ⟨q1, q2, q3, q4, q5, q6⟩ => ?_)
        have y20 := d3.val y31
        have nt : ¬ 0 < s 253 y.2.1 := by
          intro hp
          obtain ⟨i, i1, i2, i3⟩ := m2 y.2.1 q2.1 (by omega) hp
          exact hz ⟨by rw [d3.tk]; exact hk31.mpr y31, i, i1, i2, by rw [t17, y20]; exact i3⟩
        have w24 : ∀ c : Nat, c ≠ 236 → s2 c = s c := fun c hc => by rw [q3, adv_r hc, mup_o hc, sa c hc]
        have w13 : s2 236 13 = y.2.1 := by
          rw [q3, adv_o (Or.inr (by decide)), mup_e rfl rfl]
        have w7 : t2 7 = up (t 7) (3 * (n : Int)) y.2.1 := by rw [q4, t17]
        have w15 : t2 0 15 = n := (q6 15 (by decide) (by decide) (by decide) (by decide)).trans t115
        obtain ⟨z, R2, e2⟩ := q1.ne
        subst e2
        have lR1 : (z :: R2).length = R2.length + 1 := List.length_cons
        rw [if_neg (by decide), if_neg (by decide), w13, bd_e (c_told0 (by omega)), w24 253 (by decide), bI_z, if_neg nt, bd_a, bd_a]
        refine Two.b (t_pass hc q1 (c := 4) (m := 17) (by decide) rfl (by decide) (by decide)) (fun s => by rw [if_pos rfl]) (fun t => by rw [if_pos rfl, bd_s, if_pos rfl, bd_s, if_pos rfl]) (fun s3 t3 f3 g3 ⟨r1, r2, r3⟩ => ?_)
        have x24 : ∀ c : Nat, c ≠ 236 → s3 c = s c := fun c hc => by rw [r2, adv_r hc, w24 c hc]
        obtain ⟨u, R3, e3⟩ := r1.ne
        subst e3
        have lR2 : (u :: R3).length = R3.length + 1 := List.length_cons
        rw [if_neg (by decide), if_neg (by decide), bd_a]
        refine Two.b (t_num hc r1 (lo := 1) (hi := 99) (pl := 3 * n + 1) (by omega)) (fun s => by rw [if_pos rfl]) (fun t => by rw [if_pos rfl, bd_s, if_pos rfl, bd_s, if_pos rfl]) (fun s4 t4 f4 g4 ⟨u1, u2, u3, u4, u5, u6⟩ => ?_)
        have v24 : ∀ c : Nat, c ≠ 236 → s4 c = s c := fun c hc => by rw [u3, adv_r hc, mup_o hc, x24 c hc]
        have v13 : s4 236 13 = u.2.1 := by rw [u3, adv_o (Or.inr (by decide)), mup_e rfl rfl]
        have v7 : t4 7 = up (up (t 7) (3 * (n : Int)) y.2.1) (3 * (n : Int) + 1) u.2.1 := by rw [u4, r3.1 7 (by decide), w7]
        have v15 : t4 0 15 = n := (u6 15 (by decide) (by decide) (by decide) (by decide)).trans ((r3.2 15 (by decide) (by decide) (by decide) (by decide)).trans w15)
        rw [if_neg (by decide), if_neg (by decide), bd_s, if_neg (by decide), gd_t (by omega), Nat.zero_add, lm_s, jn_s, jn_s, v13]
        obtain ⟨o, R4, e4⟩ := u1.ne
        subst e4
        have lR3 : (o :: R4).length = R4.length + 1 := List.length_cons
        have hk18 := tk_eq hc.2.2.2.2 (u1.ok hc).1 (show TokD 26 by decide) (show tkm 3 26 = 18 by rfl) (by decide)
        have hM : PT T B L 3 s4 (mup t4 7 (3 * (n : Int) + 2) 0) (o :: R4) := u1.sc (fun _ _ => rfl) ⟨rfl, rfl⟩ (fun i _ => by rw [mup_o (by decide)]) (mup_o (by decide))
        have M7 : mup t4 7 (3 * (n : Int) + 2) 0 7 = up (up (up (t 7) (3 * (n : Int)) y.2.1) (3 * (n : Int) + 1) u.2.1) (3 * (n : Int) + 2) 0 := by rw [mup_row, v7]
        have M15 : mup t4 7 (3 * (n : Int) + 2) 0 0 15 = n := by rw [mup_o (by decide)]; exact v15
        have gM : FM t4 (mup t4 7 (3 * (n : Int) + 2) 0) := (FM.rf t4).up7 (by decide) _ _
        rw [jn18, hM.tk]
        have eb : bI (tkm 3 o.1 = 18) = bI (o.1 = 26) := bI_cg hk18
        rw [eb]
        generalize mup t4 7 (3 * (n : Int) + 2) 0 = t5 at hM M7 M15 gM ⊢
        have hlen := hM.at hc
        obtain ⟨i', j1, j2, -⟩ := hlen
        have hT := hc.2.2.1
        have htk := l_talk hc (v := y.2.1) (pl := 3 * n) (by omega) (by omega)
          (k177 := fun v16 s17 => bd (f_X7_passes 236 59 s17) fun r18 s19 => if r18 = 0 then some (0, s19) else bd (f_X9_enter 252 y.2.1 u.2.1 v16 s19) fun r21 s22 => some (1, s22))
          (k142 := fun s23 => lm (mup s23 236 12 (wr (s23 236 12 - 1))) fun s24 => bd (f_X7_refuse 236 2 s24) fun r25 s26 => some (r25, s26))
          (k150 := fun s13 => some (1, s13)) (fun _ => rfl) R4.length FU FU 0 26 0 s4 t5 o R4 (Nat.le_refl _) (fu_lt (by omega)) (fu_lt (by omega)) (by omega) hM (Or.inl rfl) (by rw [M7, up_ne (by omega), up_ne (by omega), up_eq rfl]) (by rw [M7, up_eq rfl]) (by decide) (bt_0 (by omega))
        rcases htk with ⟨s6, t6, X, R5, z1, z2, z3, z4, z5, z6, z7, z8, z9, z10, z11, z12⟩ | ⟨s6, t6, z1, z2, z3, z4, z5⟩
        · have z1' : f_X7_villageLine_94 236 y.2.1 (fun v16 s17 => bd (f_X7_passes 236 59 s17) fun r18 s19 => if r18 = 0 then some (0, s19) else bd (f_X9_enter 252 y.2.1 u.2.1 v16 s19) fun r21 s22 => some (1, s22)) (fun s23 => lm (mup s23 236 12 (wr (s23 236 12 - 1))) fun s24 => bd (f_X7_refuse 236 2 s24) fun r25 s26 => some (r25, s26)) FU 0 26 0 s4 = (bd (f_X7_passes 236 59 s6) fun r18 s19 => if r18 = 0 then some (0, s19) else bd (f_X9_enter 252 y.2.1 u.2.1 X s19) fun r21 s22 => some (1, s22)) := z1
          rw [z1', bd_e z2, if_neg (by decide)]
          obtain ⟨o2, R6, e6⟩ := z5.ne
          subst e6
          have lR5 : (o2 :: R6).length = R6.length + 1 := List.length_cons
          refine Two.fr z3 (gM.tr z4) ?_
          refine Two.b (t_pass hc z5 (c := 59) (m := 159) (by decide) rfl (by decide) (by decide)) (fun s => by rw [if_pos rfl]) (fun t => by rw [if_pos rfl]) (fun s7 t7 f7 g7 ⟨k1, k2, k3⟩ => ?_)
          have a24 : ∀ c : Nat, c ≠ 236 → s7 c = s c := fun c hc => by rw [k2, adv_r hc, z12 c hc, v24 c hc]
          have hC7 : VlC s7 n := ⟨by rw [a24 252 (by decide)]; exact n1, by rw [a24 253 (by decide)]; exact hC.2.1, fun v g1 g2 => by rw [a24 253 (by decide), a24 255 (by decide)]; exact hC.2.2 v g1 g2⟩
          have hF7 : VlF (s7 254) (s7 253) (s7 255) := by
            rw [a24 253 (by decide), a24 254 (by decide), a24 255 (by decide)]
            exact hF
          obtain ⟨s9, b1, b2, b3, b4, b5, b6⟩ := c_enter hC7 hF7 (v := y.2.1) (x2 := u.2.1) (x3 := X) (by omega) (by rw [a24 253 (by decide)]; exact nt) (by omega) z7 z8
          rw [if_neg (by decide), if_neg (by decide), bd_e b1]
          have c7 : t7 7 = t6 7 := k3.1 7 (by decide)
          have c15 : t7 0 15 = n := (k3.2 15 (by decide) (by decide) (by decide) (by decide)).trans (z11.trans M15)
          refine Two.ok rfl rfl ⟨fun c hc => b6 c (by omega), by rw [b6 236 (by decide)], by rw [b6 236 (by decide)], by rw [b6 236 (by decide)]⟩ (FM.rf t7) ⟨R6, ?_, by omega, ⟨b4, b5, mup_e rfl rfl, ?_, ?_⟩, c15⟩
          · exact k1.sc (fun c hc => b6 c (by omega)) ⟨by rw [b6 236 (by decide)], by rw [b6 236 (by decide)]⟩ (fun _ _ => rfl) rfl
          · have e7 : mup t7 0 15 ((n + 1 : Nat) : Int) 7 = t6 7 := (mup_o (by decide)).trans c7
            rw [e7, b2, b3, a24 253 (by decide), a24 255 (by decide)]
            intro i i1 i2
            by_cases ei : i = n
            · subst ei
              rw [z9 _ (by omega), z9 _ (by omega), z10, M7, up_ne (by omega), up_ne (by omega), up_eq rfl, up_ne (by omega), up_eq rfl, up_eq rfl, up_eq rfl]
              exact ⟨by omega, by omega, rfl, rfl⟩
            · obtain ⟨m3, m4, m5, m6⟩ := m1 i i1 (by omega)
              have ne : t 7 (3 * i) ≠ y.2.1 := fun q => nt (by rw [← q, m5]; exact m4)
              have hq : ∀ k : Int, k < 3 * n → t6 7 k = t 7 k := fun k hk => by rw [z9 k (by omega), M7, up_ne (by omega), up_ne (by omega), up_ne (by omega)]
              rw [hq _ (by omega), hq _ (by omega), hq _ (by omega), up_ne ne, up_ne ne]
              exact ⟨m3, m4, m5, m6⟩
          · have e7 : mup t7 0 15 ((n + 1 : Nat) : Int) 7 = t6 7 := (mup_o (by decide)).trans c7
            rw [e7, b2, a24 253 (by decide)]
            intro v g1 g2 g3
            by_cases ev : v = y.2.1
            · refine ⟨n, by omega, by omega, ?_⟩
              rw [z9 _ (by omega), M7, up_ne (by omega), up_ne (by omega), up_eq rfl, ev]
            · rw [up_ne ev] at g3
              obtain ⟨i, i1, i2, i3⟩ := m2 v g1 g2 g3
              refine ⟨i, i1, by omega, ?_⟩
              rw [z9 _ (by omega), M7, up_ne (by omega), up_ne (by omega), up_ne (by omega)]
              exact i3
        · rw [bd_e z2, if_pos rfl]
          exact Or.inr ⟨s6, t6, z1, rfl, z3, z4, gM.tr z5⟩
      · obtain ⟨s8, t8, v1, v2, v3, v4, v5⟩ := (l_num hc d3 (lo := 0) (hi := 11) (pl := 3 * n) (by omega)).2 (fun z => y31 z.1)
        rw [bd_e v1, bd_e v2, if_pos rfl, if_pos rfl, bd_s, if_pos rfl]
        exact Or.inr ⟨s8, t8, rfl, rfl, v3, v4, v5⟩
  · obtain ⟨s1, t1, a1, a2, a3, a4, a5⟩ := b3 c1
    rw [if_neg (fun z => c1 (hk.mp z)), bd_e a1, if_pos rfl, a2]
    exact Or.inr ⟨s1, t1, rfl, rfl, a3, a4, a5⟩
end

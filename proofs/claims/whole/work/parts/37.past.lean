/-! ===== L3: loops that copy; what can be undone ===== -/
theorem cpl {F : Nat → Int → Mem → Res} {k : Mem → Res} {a b : Nat} {N o p : Int} {G : Mem → Prop} (hab : a ≠ b ∨ o ≤ p) (hF : ∀ (n : Nat) (x : Int) (s : Mem), G s → 0 ≤ x → x < N → F (n + 1) x s = F n (x + 1) (mup s a (o + x) (s b (p + x)))) (hE : ∀ (n : Nat) (x : Int) (s : Mem), G s → ¬ x < N → F (n + 1) x s = k s) (hG : ∀ (s : Mem) (x v : Int), G s → G (mup s a x v)) :
    ∀ (j fu : Nat) (x : Int) (s : Mem), G s → j < fu → 0 ≤ x → x + j = N → F fu x s = k (sr s a (fun i => if o + x ≤ i ∧ i < o + N then s b (p + (i - o)) else s a i)) := by
  intro j
  induction j with
  | zero =>
    intro fu x s hg hfu hx hj
    cases fu with
    | zero => exact absurd hfu (Nat.not_lt_zero _)
    | succ fu =>
      rw [hE fu x s hg (by omega)]
      congr 1
      funext c
      by_cases hc : c = a
      · subst hc
        rw [sr_e]
        funext i
        rw [if_neg (by omega)]
      · rw [sr_o hc]
  | succ j ih =>
    intro fu x s hg hfu hx hj
    cases fu with
    | zero => exact absurd hfu (Nat.not_lt_zero _)
    | succ fu =>
      rw [hF fu x s hg hx (by omega), ih fu (x + 1) _ (hG s _ _ hg) (by omega) (by omega) (by omega)]
      congr 1
      funext c
      by_cases hc : c = a
      · subst hc
        rw [sr_e, sr_e]
        funext i
        by_cases h1 : i = o + x
        · subst h1
          rw [if_neg (by omega), if_pos (by omega), mup_e rfl rfl]
          congr 1
          omega
        · by_cases h2 : o + (x + 1) ≤ i ∧ i < o + N
          · rw [if_pos h2, if_pos (by omega), mup_n]
            rcases hab with hab | hab
            · exact Or.inl (Ne.symm hab)
            · exact Or.inr (by omega)
          · rw [if_neg h2, if_neg (by omega), mup_n (Or.inr h1)]
      · rw [sr_o hc, sr_o hc, mup_o hc]
theorem Sim.rf {s t : Mem} (h : IV s t) (r : Int) : Sim (some (r, s)) (some (r, t)) := ⟨r, s, t, rfl, rfl, h⟩
theorem Sim.eq {o1 o2 : Res} {r r' : Int} {s t : Mem} (h1 : o1 = some (r, s)) (h2 : o2 = some (r', t)) (hr : r = r') (h : IV s t) : Sim o1 o2 := ⟨r, s, t, h1, by rw [hr]; exact h2, h⟩
/-! the model keeps a night -/
def kApp (t3 w : Int → Int) (m : Int) : Int → Int := fun i => if 57 * m ≤ i ∧ i < 57 * m + 57 then w (i - 57 * m) else t3 i
def kShf (t3 : Int → Int) : Int → Int := fun i => if 0 ≤ i ∧ i < 285 then t3 (i + 57) else t3 i
def kT3 (t3 w : Int → Int) (m : Int) : Int → Int := if m = 6 then kApp (kShf t3) w 5 else kApp t3 w m
def kM (m : Int) : Int := if m = 6 then 6 else m + 1
theorem m_app {k : Mem → Res} {m : Int} {t : Mem} (hm : 0 ≤ m ∧ m ≤ 5) (h : t 0 4 = m) : f_X12_keeps0_51 0 k FU 0 t = k (sr t 3 (kApp (t 3) (t 1) m)) := by
  have q := cpl (F := f_X12_keeps0_51 0 k) (k := k) (a := 3) (b := 1) (N := 57) (o := 57 * m) (p := 0) (G := fun s => s 0 4 = m) (Or.inl (by decide)) (fun n x s hg h1 h2 => by
    rw [f_X12_keeps0_51, if_pos h2, gd_t (by omega), hg, wr_n (x := 57 * m) (by omega), wr_n (x := 57 * m + x) (by omega), gd_t (by omega), lm_s, wr_n (x := x + 1) (by omega), Nat.zero_add, Nat.zero_add, Int.zero_add]) (fun n x s hg h1 => by
    rw [f_X12_keeps0_51, if_neg h1]) (fun s x v hg => by rw [mup_o (by decide)]; exact hg) 57 FU 0 t h (by decide) (by decide) (by decide)
  rw [q]
  refine congrArg (fun f => k (sr t 3 f)) (funext fun i => ?_)
  unfold kApp
  rw [Int.add_zero, Int.zero_add]
theorem m_shf {k : Mem → Res} {t : Mem} : f_X12_keeps0_11 0 k FU 0 t = k (sr t 3 (kShf (t 3))) := by
  have q := cpl (F := f_X12_keeps0_11 0 k) (k := k) (a := 3) (b := 3) (N := 285) (o := 0) (p := 57) (G := fun _ => True) (Or.inr (by decide)) (fun n x s hg h1 h2 => by
    rw [f_X12_keeps0_11, if_pos h2, wr_n (x := x + 57) (by omega), gd_t (by omega), gd_t (by omega), lm_s, wr_n (x := x + 1) (by omega), Nat.zero_add, Int.zero_add, Int.add_comm x 57]) (fun n x s hg h1 => by
    rw [f_X12_keeps0_11, if_neg h1]) (fun s x v hg => trivial) 285 FU 0 t trivial (by decide) (by decide) (by decide)
  rw [q]
  refine congrArg (fun f => k (sr t 3 f)) (funext fun i => ?_)
  unfold kShf
  simp only [Int.zero_add, Int.sub_zero, Int.add_comm 57 i]
theorem m_keep {t : Mem} (hm : 0 ≤ t 0 4 ∧ t 0 4 ≤ 6) : ∃ t1 : Mem, f_X12_keeps0 0 t = some (0, t1) ∧ t1 3 = kT3 (t 3) (t 1) (t 0 4) ∧ t1 0 = up (up (t 0) 4 (kM (t 0 4))) 26 1 ∧ ∀ c : Nat, c ≠ 0 → c ≠ 3 → t1 c = t c := by
  have fin : ∀ (u : Mem) (m : Int), 0 ≤ m ∧ m ≤ 5 → u 0 4 = m → f_X12_keeps0_51 0 (fun s2 => lm (mup s2 0 4 (wr ((s2 0 4) + 1))) fun s3 => lm (mup s3 0 26 1) fun s4 => some (0, s4)) FU 0 u = some (0, mup (mup (sr u 3 (kApp (u 3) (u 1) m)) 0 4 (m + 1)) 0 26 1) := by
    intro u m h1 h2
    rw [m_app h1 h2, lm_s, lm_s, sr_o (by decide), h2, wr_n (by omega)]
  unfold f_X12_keeps0 kT3 kM
  rw [jn_s]
  by_cases h6 : t 0 4 = 6
  · have e51 : (6 : Int) - 1 = 5 := rfl
    have e56 : (5 : Int) + 1 = 6 := rfl
    have hf := fin (mup (sr t 3 (kShf (t 3))) 0 4 5) 5 (by decide) (mup_e rfl rfl)
    rw [if_pos h6, if_pos h6, if_pos h6, jn_s, m_shf, sr_o (by decide), h6, e51, wr_n (x := 5) (by decide), lm_s]
    show ∃ t1 : Mem, jn _ _ = some (0, t1) ∧ _
    rw [jn_s, hf]
    refine ⟨_, rfl, ?_, ?_, fun c h0 h3 => ?_⟩
    · rw [mup_o (by decide), mup_o (by decide), sr_e, mup_o (by decide), sr_e, mup_o (by decide), sr_o (by decide)]
    · rw [mup_row, mup_row, sr_o (by decide), mup_row, sr_o (by decide), e56]
      refine congrArg (fun f => up f 26 1) (funext fun i => ?_)
      unfold up
      split
      · rfl
      · rfl
    · rw [mup_o h0, mup_o h0, sr_o h3, mup_o h0, sr_o h3]
  · have hf := fin t (t 0 4) (by omega) rfl
    rw [if_neg h6, if_neg h6, if_neg h6]
    show ∃ t1 : Mem, jn _ _ = some (0, t1) ∧ _
    rw [jn_s, hf]
    refine ⟨_, rfl, ?_, ?_, fun c h0 h3 => ?_⟩
    · rw [mup_o (by decide), mup_o (by decide), sr_e]
    · rw [mup_row, mup_row, sr_o (by decide)]
    · rw [mup_o h0, mup_o h0, sr_o h3]
/-! the class -/
theorem PastC.app {s s' : Mem} {m : Int} {t3 w : Int → Int} (h : PastC s m t3 w) (hm : m ≤ 5) (hN : NR s 2 w) (hW : WN w) (h0 : w 0 ≤ 9999) (e77 : s' 77 = up (s 77) 2 (m + 1)) (q : ∀ c : Nat, 78 ≤ c → c ≤ 132 → s' c = cpN s 2 (slot (s 77 1) m) c) : PastC s' (m + 1) (kApp t3 w m) w := by
  obtain ⟨h1, h2, h3, h4⟩ := h
  have hs := slot_in h3 (i := m) (by omega)
  have e1 : s' 77 1 = s 77 1 := by rw [e77, up_ne (by decide)]
  refine ⟨by rw [e77, up_eq rfl], by omega, by rw [e1]; exact h3, fun i g1 g2 => ?_⟩
  have hi := slot_in h3 (i := i) (by omega)
  rw [e1]
  by_cases hc : i = m
  · subst hc
    have e : ∀ j : Int, (0 ≤ j ∧ j < 59) ∨ (65 ≤ j ∧ j < 101) → kr (kApp t3 w i) w i j = w j := by
      intro j hj
      by_cases hj2 : 0 ≤ j ∧ j < 57
      · rw [kr_lo hj2]
        unfold kApp
        rw [if_pos (by omega)]
        congr 1
        omega
      · rw [kr_hi hj2]
    have n1 := hN.cp (y := slot (s 77 1) i) (by omega)
    exact ⟨(n1.of (fun c q1 q2 => q c (by omega) (by omega))).cg2 e, hW.cg2 e, by rw [e 0 (by decide)]; exact h0⟩
  · obtain ⟨k1, k2, k3⟩ := h4 i g1 (by omega)
    have e := kr_cg (t3 := t3) (t3' := kApp t3 w m) (w := w) (w' := w) (i := i) (fun j q3 q4 => by unfold kApp; rw [if_neg (by omega)]) (fun _ _ => rfl)
    have hd : slot (s 77 1) i + 8 < slot (s 77 1) m ∨ slot (s 77 1) m + 8 < slot (s 77 1) i := by
      unfold slot
      rw [Int.tmod_eq_emod_of_nonneg (by omega), Int.tmod_eq_emod_of_nonneg (by omega)]
      omega
    exact ⟨(k1.of (fun c q3 q4 => by rw [q c (by omega) (by omega), cpN_fr (by omega)])).cg2 e, k2.cg2 e, by rw [e 0 (by decide)]; exact k3⟩
theorem PastC.drp {s s' : Mem} {t3 w : Int → Int} (h : PastC s 6 t3 w) (e2 : s' 77 2 = 5) (e1 : s' 77 1 = (s 77 1 + 1).tmod 6) (q : ∀ c : Nat, 78 ≤ c → c ≤ 132 → s' c = s c) : PastC s' 5 (kShf t3) w := by
  obtain ⟨h1, h2, h3, h4⟩ := h
  have f6 : 0 ≤ (s 77 1 + 1).tmod 6 ∧ (s 77 1 + 1).tmod 6 ≤ 5 := by
    rw [Int.tmod_eq_emod_of_nonneg (by omega)]
    omega
  refine ⟨e2, by decide, by rw [e1]; exact f6, fun i g1 g2 => ?_⟩
  obtain ⟨k1, k2, k3⟩ := h4 (i + 1) (by omega) (by omega)
  have hi := slot_in h3 (i := i + 1) (by omega)
  have es : slot (s' 77 1) i = slot (s 77 1) (i + 1) := by
    rw [e1]
    unfold slot
    rw [Int.tmod_eq_emod_of_nonneg (show 0 ≤ s 77 1 + 1 by omega), Int.tmod_eq_emod_of_nonneg (by omega), Int.tmod_eq_emod_of_nonneg (by omega)]
    have : (s 77 1 + 1).emod 6 = (s 77 1 + 1) % 6 := rfl
    omega
  rw [es]
  have e : ∀ j : Int, (0 ≤ j ∧ j < 59) ∨ (65 ≤ j ∧ j < 101) → kr (kShf t3) w i j = kr t3 w (i + 1) j := by
    intro j hj
    by_cases hj2 : 0 ≤ j ∧ j < 57
    · rw [kr_lo hj2, kr_lo hj2]
      unfold kShf
      rw [if_pos (by omega)]
      congr 1
      omega
    · rw [kr_hi hj2, kr_hi hj2]
  exact ⟨(k1.of (fun c q3 q4 => q c (by omega) (by omega))).cg2 e, k2.cg2 e, by rw [e 0 (by decide)]; exact k3⟩
theorem c_keep1 {s : Mem} {m : Int} (h2 : s 77 2 = m) (hm : 0 ≤ m ∧ m ≤ 5) (h1 : 0 ≤ s 77 1 ∧ s 77 1 ≤ 5) : gd ((6 : Int) ≠ 0) (gd ((0 : Int) ≤ Int.tmod (wr ((s 77 1) + (s 77 2))) 6 ∧ Int.tmod (wr ((s 77 1) + (s 77 2))) 6 < 6) (bd (f_X4_become ((77 + 1) + 1 + 9 * (Int.tmod (wr ((s 77 1) + (s 77 2))) 6).toNat) 2 s) fun r4 s5 => lm (mup s5 77 2 (wr ((s5 77 2) + 1))) fun s6 => some (0, s6))) = some (0, mup (cpN s 2 (slot (s 77 1) m)) 77 2 (m + 1)) := by
  have hs := slot_in h1 (i := m) (by omega)
  have ht : 0 ≤ (s 77 1 + m).tmod 6 ∧ (s 77 1 + m).tmod 6 < 6 := by
    rw [Int.tmod_eq_emod_of_nonneg (by omega)]
    omega
  have e : (77 + 1) + 1 + 9 * ((s 77 1 + m).tmod 6).toNat = slot (s 77 1) m := rfl
  rw [h2, gd_t (by decide), wr_n (by omega), gd_t ht, e, bd_e (bec4_e (by omega)), cpN_fr (by omega), h2, wr_n (by omega), lm_s]
theorem k_keep {s t : Mem} (h : IV s t) : ∃ s1 t1 : Mem, f_X5_keep 77 2 s = some (0, s1) ∧ f_X12_keeps0 0 t = some (0, t1) ∧ IV s1 t1 ∧ t1 0 26 = 1 ∧ t1 1 = t 1 := by
  have hP := h.2.2.1
  obtain ⟨p1, p2, p3, p4⟩ := hP
  obtain ⟨t1, a1, a2, a3, a4⟩ := m_keep (t := t) p2
  have e1 : t1 1 = t 1 := a4 1 (by decide) (by decide)
  have e26 : t1 0 26 = 1 := by rw [a3, up_eq rfl]
  have e4 : t1 0 4 = kM (t 0 4) := by rw [a3, up_ne (by decide), up_eq rfl]
  have fin : ∀ s1 : Mem, f_X5_keep 77 2 s = some (0, s1) → PastC s1 (kM (t 0 4)) (kT3 (t 3) (t 1) (t 0 4)) (t 1) → (∀ c : Nat, ¬ (77 ≤ c ∧ c ≤ 132) → s1 c = s c) → ∃ s1 t1 : Mem, f_X5_keep 77 2 s = some (0, s1) ∧ f_X12_keeps0 0 t = some (0, t1) ∧ IV s1 t1 ∧ t1 0 26 = 1 ∧ t1 1 = t 1 := by
    intro s1 b1 b2 b3
    refine ⟨s1, t1, b1, a1, ?_, e26, e1⟩
    refine h.nt ?_ ?_ ?_ ?_ ?_ (fun c _ _ _ q1 _ => b3 c q1) (fun i _ => by rw [e1]) (fun c q0 q1 q3 _ _ => a4 c q0 q3) (fun i hi => by rw [a3, up_ne (by omega), up_ne (by omega)])
    · rw [e1]
      exact h.nr.of (fun c q1 q2 => b3 c (by omega))
    · rw [e1]
      exact h.bk.of (b3 11 (by decide)) (fun _ _ _ => rfl)
    · rw [e1]
      exact h.wn
    · rw [e1]
      exact h.h0
    · rw [e4, a2, e1]
      exact b2
  unfold f_X5_keep
  simp only [jn_s]
  by_cases h6 : t 0 4 = 6
  · have hk : kM (t 0 4) = 6 := if_pos h6
    have hT : kT3 (t 3) (t 1) (t 0 4) = kApp (kShf (t 3)) (t 1) 5 := if_pos h6
    have f6 : 0 ≤ (s 77 1 + 1).tmod 6 ∧ (s 77 1 + 1).tmod 6 ≤ 5 := by
      rw [Int.tmod_eq_emod_of_nonneg (by omega)]
      omega
    have hP6 : PastC s 6 (t 3) (t 1) := by
      have := h.2.2.1
      rw [h6] at this
      exact this
    have d1 := hP6.drp (s' := mup (mup s 77 1 ((s 77 1 + 1).tmod 6)) 77 2 5) (mup_e rfl rfl) (by rw [mup_n (Or.inr (by decide)), mup_e rfl rfl]) (fun c q1 q2 => by rw [mup_o (by omega), mup_o (by omega)])
    have n2 : NR (mup (mup s 77 1 ((s 77 1 + 1).tmod 6)) 77 2 5) 2 (t 1) := h.nr.of (fun c q1 q2 => by rw [mup_o (by omega), mup_o (by omega)])
    have hs := slot_in d1.2.2.1 (i := 5) (by omega)
    refine fin (mup (cpN (mup (mup s 77 1 ((s 77 1 + 1).tmod 6)) 77 2 5) 2 (slot ((mup (mup s 77 1 ((s 77 1 + 1).tmod 6)) 77 2 5) 77 1) 5)) 77 2 (5 + 1)) ?_ ?_ (fun c hc => by rw [mup_o (by omega), cpN_fr (by omega), mup_o (by omega), mup_o (by omega)])
    · unfold f_X5_keep
      simp only [jn_s]
      rw [if_pos (by rw [p1, h6]), gd_t (by decide), wr_n (by omega), lm_s, mup_n (Or.inr (by decide)), p1, h6, wr_n (x := 6 - 1) (by decide), lm_s]
      exact c_keep1 (m := 5) (mup_e rfl rfl) (by decide) d1.2.2.1
    · rw [hk, hT]
      exact d1.app (by decide) n2 h.wn h.h0 (by rw [mup_row, cpN_fr (by omega)]) (fun c q1 q2 => mup_o (by omega))
  · have hk : kM (t 0 4) = t 0 4 + 1 := if_neg h6
    have hT : kT3 (t 3) (t 1) (t 0 4) = kApp (t 3) (t 1) (t 0 4) := if_neg h6
    have hs := slot_in p3 (i := t 0 4) (by omega)
    refine fin (mup (cpN s 2 (slot (s 77 1) (t 0 4))) 77 2 (t 0 4 + 1)) ?_ ?_ (fun c hc => by rw [mup_o (by omega), cpN_fr (by omega)])
    · unfold f_X5_keep
      simp only [jn_s]
      rw [if_neg (by rw [p1]; exact h6)]
      exact c_keep1 (m := t 0 4) p1 (by omega) p3
    · rw [hk, hT]
      exact h.2.2.1.app (by omega) h.nr h.wn h.h0 (by rw [mup_row, cpN_fr (by omega)]) (fun c q1 q2 => mup_o (by omega))
/-! undo -/
theorem m_unl {k : Mem → Res} {m : Int} {t : Mem} (hm : 0 ≤ m ∧ m ≤ 5) (h : t 0 4 = m) : f_X12_undo_21 0 k FU 0 t = k (sr t 1 (kr (t 3) (t 1) m)) := by
  have q := cpl (F := f_X12_undo_21 0 k) (k := k) (a := 1) (b := 3) (N := 57) (o := 0) (p := 57 * m) (G := fun s => s 0 4 = m) (Or.inl (by decide)) (fun n x s hg h1 h2 => by
    rw [f_X12_undo_21, if_pos h2, hg, wr_n (x := 57 * m) (by omega), wr_n (x := 57 * m + x) (by omega), gd_t (by omega), gd_t (by omega), lm_s, wr_n (x := x + 1) (by omega), Nat.zero_add, Nat.zero_add, Int.zero_add]) (fun n x s hg h1 => by
    rw [f_X12_undo_21, if_neg h1]) (fun s x v hg => by rw [mup_o (by decide)]; exact hg) 57 FU 0 t h (by decide) (by decide) (by decide)
  rw [q]
  refine congrArg (fun f => k (sr t 1 f)) (funext fun i => ?_)
  unfold kr
  simp only [Int.zero_add, Int.sub_zero]
theorem k_undo {s t : Mem} (h : IV s t) : Sim (f_X11_undo 0 s) (f_X12_undo 0 t) := by
  have hP := h.2.2.1
  obtain ⟨p1, p2, p3, p4⟩ := hP
  unfold f_X11_undo f_X12_undo f_X5_bringBack
  simp only [Nat.zero_add, Nat.reduceAdd]
  by_cases h0 : t 0 4 = 0
  · rw [if_pos (by omega), if_pos h0, bd_s]
    exact Sim.rf h 0
  · rw [if_neg (by omega), if_neg h0, p1, wr_n (by omega), lm_s, lm_s, jn_s, mup_n (Or.inr (by decide)), mup_e rfl rfl, wr_n (by omega), gd_t (by decide)]
    have ht : 0 ≤ (s 77 1 + (t 0 4 - 1)).tmod 6 ∧ (s 77 1 + (t 0 4 - 1)).tmod 6 < 6 := by
      rw [Int.tmod_eq_emod_of_nonneg (by omega)]
      omega
    have e : 79 + 9 * ((s 77 1 + (t 0 4 - 1)).tmod 6).toNat = slot (s 77 1) (t 0 4 - 1) := rfl
    have hs := slot_in p3 (i := t 0 4 - 1) (by omega)
    rw [gd_t ht, e, bd_e (bec4_e (by omega)), bd_s, m_unl (m := t 0 4 - 1) (by omega) (mup_e rfl rfl), mup_o (by decide), mup_o (by decide)]
    obtain ⟨k1, k2, k3⟩ := p4 (t 0 4 - 1) (by omega) (by omega)
    refine Sim.eq rfl rfl rfl ?_
    have n1 : NR (mup s 77 2 (t 0 4 - 1)) (slot (s 77 1) (t 0 4 - 1)) (kr (t 3) (t 1) (t 0 4 - 1)) := k1.of (fun c q1 q2 => mup_o (by omega))
    have n2 := n1.cp (y := 2) (by omega)
    refine h.nt ?_ ?_ ?_ ?_ ?_ (fun c q1 _ _ q2 _ => by rw [cpN_fr (by omega), mup_o (by omega)]) (fun i hi => by rw [sr_e, kr_hi (by omega)]) (fun c q0 q1 _ _ _ => by rw [sr_o q1, mup_o q0]) (fun i hi => by rw [sr_o (by decide), mup_n (Or.inr (by omega))])
    · rw [sr_e]
      exact n2
    · rw [sr_e]
      exact h.bk.of (by rw [cpN_fr (by omega), mup_o (by omega)]) (fun i g1 g2 => kr_hi (by omega))
    · rw [sr_e]
      exact k2
    · rw [sr_e]
      exact k3
    · rw [sr_o (by decide), mup_e rfl rfl, sr_o (by decide), mup_o (by decide), sr_e]
      refine ⟨by rw [cpN_fr (by omega), mup_e rfl rfl], by omega, by rw [cpN_fr (by omega), mup_n (Or.inr (by decide))]; exact p3, fun i g1 g2 => ?_⟩
      obtain ⟨k1, k2, k3⟩ := p4 i g1 (by omega)
      have hi := slot_in p3 (i := i) (by omega)
      have e := kr_cg (t3 := t 3) (t3' := t 3) (w := t 1) (w' := kr (t 3) (t 1) (t 0 4 - 1)) (i := i) (fun _ _ _ => rfl) (fun j hj => kr_hi (by omega))
      have e1 : cpN (mup s 77 2 (t 0 4 - 1)) (slot (s 77 1) (t 0 4 - 1)) 2 77 1 = s 77 1 := by rw [cpN_fr (by omega), mup_n (Or.inr (by decide))]
      rw [e1]
      exact ⟨(k1.of (fun c q3 q4 => by rw [cpN_fr (by omega), mup_o (by omega)])).cg2 e, k2.cg2 e, by rw [e 0 (by decide)]; exact k3⟩

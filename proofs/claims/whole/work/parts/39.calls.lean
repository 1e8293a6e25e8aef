/-! ===== L3: calls one by one, more ===== -/
section
variable {s t : Mem}
/-- after what is done to a BOAT, or an HOUR -/
theorem IV.act {s1 t1 : Mem} {w' : Int → Int} (h : IV s t) (hB : NB 1 s1 2 w') (f : FrH s s1 2 1) (hW : WN w') (h0 : w' 0 ≤ 9999) (hs : ∀ i : Int, 57 ≤ i → (i < 248 ∨ 848 ≤ i) → w' i = t 1 i) (e1 : t1 1 = w') (q : ∀ c : Nat, c ≠ 1 → c ≠ 9 → c ≠ 10 → t1 c = t c) : IV s1 t1 := by
  refine h.nt ?_ ?_ ?_ ?_ ?_ (fun c a1 a2 a3 _ _ => f c (by omega) a2 a3 (Or.inr (by omega))) (fun i hi => by rw [e1]; exact hs i (by omega) (by omega)) (fun c a0 a1 a3 a4 a9 => q c a1 (by omega) (by omega)) (fun i _ => by rw [q 0 (by decide) (by decide) (by decide)])
  · rw [e1]
    exact hB.1
  · rw [e1]
    exact hB.2 (by decide)
  · rw [e1]
    exact hW
  · rw [e1]
    exact h0
  · rw [q 0 (by decide) (by decide) (by decide), q 3 (by decide) (by decide) (by decide), e1]
    exact h.2.2.1.of (fun c a1 a2 => f c (by omega) (by omega) (by omega) (Or.inr (by omega))) (fun _ _ _ => rfl) (fun j hj => hs j (by omega) (Or.inl (by omega)))
theorem IV.nb (h : IV s t) (real : Int) : NB real s 2 (t 1) := ⟨h.nr, fun _ => h.bk⟩
theorem k_turn (h : IV s t) (b : Int) : Sim (f_X11_turn 0 b s) (f_X12_turn 0 b t) := by
  unfold f_X11_turn f_X12_turn
  simp only [Nat.zero_add, Nat.reduceAdd]
  rw [bd_e (e_afloat h.nr h.wn b), bd_e (e_isAfloat h.wn b), bI_z, bI_z]
  by_cases c : afl (t 1) b
  · have hb := afl_10 h.wn c
    rw [if_pos c, if_pos c]
    obtain ⟨s1, t1, a1, a2, a3, a4, a5⟩ := k_keep h
    obtain ⟨s2, b1, b2, b3⟩ := c_turnAbout (a3.nb 1) a3.wn (Or.inl rfl) hb
    have m := m_turns0 a3.wn hb
    rw [a4] at m
    rw [bd_e a1, bd_e a2, bd_e b1, bd_e m]
    refine Sim.eq rfl rfl rfl ?_
    have st := St_turn (St.rf 1 (t1 1)) a3.wn hb
    refine a3.act b2 b3 (WN_turn a3.wn hb) ?_ (fun i g1 g2 => st i (Or.inr g1) (Or.inr g2)) (sr_e _ _ _) (fun c g1 _ _ => sr_o g1)
    rw [st 0 (Or.inl (Int.le_refl 0)) (Or.inr (Or.inl (by decide)))]
    exact a3.h0
  · rw [if_neg c, if_neg c]
    exact Sim.rf h _
theorem k_home (h : IV s t) (b : Int) : Sim (f_X11_home 0 b s) (f_X12_home 0 b t) := by
  unfold f_X11_home f_X12_home
  simp only [Nat.zero_add, Nat.reduceAdd]
  rw [bd_e (e_afloat h.nr h.wn b), bd_e (e_isAfloat h.wn b), bI_z, bI_z]
  by_cases c : afl (t 1) b
  · have hb := afl_10 h.wn c
    rw [if_pos c, if_pos c]
    obtain ⟨s1, t1, a1, a2, a3, a4, a5⟩ := k_keep h
    obtain ⟨s2, b1, b2, b3⟩ := c_bringHome (a3.nb 1) a3.wn (Or.inl rfl) hb
    have m := m_brings a3.wn hb
    rw [a4] at m
    rw [bd_e a1, bd_e a2, bd_e b1, bd_e m]
    refine Sim.eq rfl rfl rfl ?_
    have st := St_home (St.rf 1 (t1 1)) a3.wn hb
    refine a3.act b2 b3 (WN_home a3.wn hb) ?_ (fun i g1 g2 => st i (Or.inr g1) (Or.inr g2)) (sr_e _ _ _) (fun c g1 _ _ => sr_o g1)
    rw [st 0 (Or.inl (Int.le_refl 0)) (Or.inr (Or.inl (by decide)))]
    exact a3.h0
  · rw [if_neg c, if_neg c]
    exact Sim.rf h _
theorem k_move (h : IV s t) (b r : Int) : Sim (f_X11_move 0 b r s) (f_X12_move 0 b r t) := by
  unfold f_X11_move f_X12_move
  simp only [Nat.zero_add, Nat.reduceAdd]
  rw [bd_e (e_afloat h.nr h.wn b), bd_e (e_isAfloat h.wn b), bI_z, bI_z]
  by_cases c : afl (t 1) b
  · have hb := afl_10 h.wn c
    rw [if_pos c, if_pos c, bd_e (e_within _ _ _ _), bd_e (e_isReach _ _), bI_z, bI_z]
    by_cases cr : 0 ≤ r ∧ r ≤ 15
    · rw [if_pos cr, if_pos cr]
      obtain ⟨s1, t1, a1, a2, a3, a4, a5⟩ := k_keep h
      obtain ⟨s2, b1, b2, b3⟩ := c_bringTo (a3.nb 1) a3.wn (Or.inl rfl) hb cr
      have m := m_movesTo a3.wn hb cr
      rw [a4] at m
      rw [bd_e a1, bd_e a2, bd_e b1, bd_e m]
      refine Sim.eq rfl rfl rfl ?_
      have st := St_move (St.rf 1 (t1 1)) a3.wn hb cr
      refine a3.act b2 b3 (WN_move a3.wn hb cr) ?_ (fun i g1 g2 => st i (Or.inr g1) (Or.inr g2)) (sr_e _ _ _) (fun c g1 _ _ => sr_o g1)
      rw [st 0 (Or.inl (Int.le_refl 0)) (Or.inr (Or.inl (by decide)))]
      exact a3.h0
    · rw [if_neg cr, if_neg cr]
      exact Sim.rf h _
  · rw [if_neg c, if_neg c]
    exact Sim.rf h _
/-- one real HOUR on both sides -/
theorem k_hour (h : IV s t) (h26 : t 0 26 = 1) (h0 : t 1 0 ≤ 9998) : ∃ (r : Int) (s1 t1 : Mem), f_X10_pass 1 2 1 s = some (r, s1) ∧ f_X12_anHour 0 t = some (r, t1) ∧ IV s1 t1 ∧ t1 1 0 = t 1 0 + 1 := by
  obtain ⟨lw, hX, hW⟩ := h.1
  obtain ⟨s1, a1, a2, a3, a4, a5, a6⟩ := c_pass (real := 1) (Or.inl rfl) (h.nb 1) h.wn ⟨hX.2.2.1, hX.2.2.2.1, hX.2.2.2.2.1⟩ h.cur.2 h.plan.2 hW.2.2.2.1 (by omega)
  obtain ⟨t1, b1, b2, b3⟩ := m_pass (t := t) rfl h.wn hW.2.2.1 h.cur.2 h.plan.2 hW.2.2.2.1 (by omega)
  rw [h26] at b1 b2
  refine ⟨_, s1, t1, a1, b1, ?_, by rw [b2, a6]⟩
  exact h.act a2 a4 a3 (by rw [a6]; omega) (fun i g1 g2 => a5 i (Or.inr g1) (Or.inr g2)) b2 b3
theorem hours_l {n : Int} (hn : n ≤ 60) : ∀ (j f1 f2 : Nat) (m i : Int) (s t : Mem), j < f1 → j < f2 → 0 ≤ i → i + j = n → IV s t → t 1 0 + j ≤ 9999 → Sim (f_X11_hours_34 0 n (fun v5 s6 => some (v5, s6)) f1 m i s) (f_X12_hours_30 0 n (fun v6 s7 => some (v6, s7)) f2 m i t) := by
  intro j
  induction j with
  | zero =>
    intro f1 f2 m i s t g1 g2 hi hj h h0
    cases f1 with
    | zero => exact absurd g1 (Nat.not_lt_zero _)
    | succ f1 =>
      cases f2 with
      | zero => exact absurd g2 (Nat.not_lt_zero _)
      | succ f2 =>
        rw [f_X11_hours_34, f_X12_hours_30, if_neg (by omega), if_neg (by omega)]
        exact Sim.rf h m
  | succ j ih =>
    intro f1 f2 m i s t g1 g2 hi hj h h0
    cases f1 with
    | zero => exact absurd g1 (Nat.not_lt_zero _)
    | succ f1 =>
      cases f2 with
      | zero => exact absurd g2 (Nat.not_lt_zero _)
      | succ f2 =>
        obtain ⟨s1, t1, a1, a2, a3, a4, a5⟩ := k_keep h
        obtain ⟨r, s2, t2, b1, b2, b3, b4⟩ := k_hour a3 a4 (by rw [a5]; omega)
        rw [f_X11_hours_34, f_X12_hours_30, if_pos (by omega), if_pos (by omega), bd_e a1, bd_e a2, bd_e b1, bd_e b2, wr_n (x := i + 1) (by omega)]
        exact ih f1 f2 (wr (m + r)) (i + 1) s2 t2 (by omega) (by omega) (by omega) (by omega) b3 (by rw [b4, a5]; omega)
theorem k_hours (h : IV s t) (n : Int) : Sim (f_X11_hours 0 n s) (f_X12_hours 0 n t) := by
  have hh := h.wn.hour
  have h9 := h.h0
  unfold f_X11_hours f_X12_hours
  simp only [Nat.zero_add, Nat.reduceAdd]
  rw [bd_e (e_within _ _ _ _), bd_e (e_isIn _ _ _ _), bI_z, bI_z]
  by_cases c : 1 ≤ n ∧ n ≤ 60
  · rw [if_pos c, if_pos c, gd_t (by decide), h.nr.hour, wr_n (by omega), wr_n (by omega)]
    by_cases c2 : 9999 - n < t 1 0
    · rw [if_pos c2, if_pos (by omega)]
      exact Sim.rf h _
    · rw [if_neg c2, if_neg (by omega), jn_s, jn_s]
      exact hours_l c.2 n.toNat FU FU 0 0 s t (fu_lt (by omega)) (fu_lt (by omega)) (by decide) (by omega) h (by omega)
  · rw [if_neg c, if_neg c]
    exact Sim.rf h _
theorem k_end (h : IV s t) (n : Int) : Sim (f_X11_end 0 n s) (f_X12_end 0 n t) := by
  have hR := h.2.2.2.1
  unfold f_X11_end f_X12_end
  simp only [Nat.zero_add, Nat.reduceAdd]
  rw [bd_e (e_within _ _ _ _), bd_e (e_isIn _ _ _ _), bI_z, bI_z, hR.1]
  by_cases c : 0 ≤ n ∧ n ≤ t 0 16
  · rw [if_pos c, if_pos c, lm_s, lm_s]
    refine Sim.eq rfl rfl rfl ?_
    obtain ⟨⟨lw, hX, hW⟩, hI, hP, -, hT⟩ := h
    have e1 : mup t 0 16 n 1 = t 1 := mup_o (by decide)
    refine ⟨⟨lw, ?_, ?_⟩, ?_, ?_, ?_, ?_⟩
    · rw [e1]
      exact hX.of hW (fun c q1 q2 => mup_o (by omega))
    · rw [e1]
      exact hW
    · exact hI.of (mup_n (Or.inl (by decide))) (mup_n (Or.inr (by decide))) (mup_o (by decide)) (fun c q1 q2 => mup_o (by omega))
    · rw [e1, mup_o (a' := 3) (by decide), mup_n (a' := 0) (Or.inr (by decide))]
      exact hP.of (fun c q1 q2 => mup_o (by omega)) (fun _ _ _ => rfl) (fun _ _ => rfl)
    · obtain ⟨r1, r2, r3, r4, r5⟩ := hR
      refine ⟨by rw [mup_e rfl rfl, mup_e rfl rfl], by rw [mup_e rfl rfl]; omega, ?_, by rw [mup_n (Or.inr (by decide)), mup_n (Or.inr (by decide))]; exact r4, by rw [mup_n (Or.inr (by decide)), mup_n (Or.inr (by decide))]; exact r5⟩
      rw [mup_e rfl rfl]
      intro i g1 g2
      rw [mup_o (by decide), mup_o (by decide)]
      exact r3 i g1 (by omega)
    · unfold ThC at hT ⊢
      rw [mup_o (by decide)]
      exact hT
  · rw [if_neg c, if_neg c]
    exact Sim.rf h _
theorem k_fault (h : IV s t) (k : Int) : Sim (f_X11_fault 0 k s) (f_X12_fault 0 k t) := by
  obtain ⟨r1, r2, r3, r4, r5⟩ := h.2.2.2.1
  unfold f_X11_fault f_X12_fault
  simp only [Nat.zero_add, r4, r5]
  by_cases c : k = 0
  · rw [if_pos c, if_pos c]
    exact Sim.rf h _
  · rw [if_neg c, if_neg c]
    by_cases c2 : k = 1
    · rw [if_pos c2, if_pos c2]
      exact Sim.rf h _
    · rw [if_neg c2, if_neg c2]
      exact Sim.rf h _
theorem IV.sc2 {s1 t1 : Mem} (h : IV s t) (q : ∀ c : Nat, c ≠ 17 → c ≠ 18 → s1 c = s c) (q2 : ∀ c : Nat, c ≠ 9 → c ≠ 10 → t1 c = t c) : IV s1 t1 :=
  h.sc (fun c a1 a2 _ _ _ => q c a1 a2) (fun c _ _ a9 => q2 c (by omega) (by omega)) (fun i _ => by rw [q2 0 (by decide) (by decide)])
theorem k_of (h : IV s t) (b k : Int) : Sim (f_X11_of 0 b k s) (f_X12_of 0 b k t) := by
  obtain ⟨lw, hX, hW⟩ := h.1
  have hC : LawC s 12 lw := hX.2.2.1
  have hM := hW.2.2.1
  have hO := hW.2.2.2.1
  have h58 := h.wn.boats
  unfold f_X11_of f_X12_of
  simp only [Nat.zero_add, Nat.reduceAdd]
  rw [bd_e (e_has h.nr b), bd_e (e_isBoat h.wn b), bI_z, bI_z]
  by_cases c : hasB (t 1) b
  · have hb : 0 ≤ b ∧ b < 10 := by
      have := c.1
      have := c.2
      omega
    rw [if_pos c, if_pos c, wr_n (x := 65 + b) (by omega), wr_n (x := 75 + b) (by omega), wr_n (x := 7 + b) (by omega), wr_n (x := 17 + b) (by omega), wr_n (x := 27 + b) (by omega), wr_n (x := 37 + b) (by omega), wr_n (x := 47 + b) (by omega)]
    by_cases k0 : k = 0
    · rw [if_pos k0, if_pos k0, gd_t hb, gd_t (by omega), h.nr.straw hb]
      exact Sim.rf h _
    rw [if_neg k0, if_neg k0]
    by_cases k0 : k = 1
    · rw [if_pos k0, if_pos k0, gd_t hb, gd_t (by omega), h.nr.kind hb]
      exact Sim.rf h _
    rw [if_neg k0, if_neg k0]
    by_cases k0 : k = 2
    · rw [if_pos k0, if_pos k0, gd_t hb, gd_t (by omega), h.nr.reach hb]
      exact Sim.rf h _
    rw [if_neg k0, if_neg k0]
    by_cases k0 : k = 3
    · rw [if_pos k0, if_pos k0, gd_t hb, gd_t (by omega), h.nr.left hb]
      exact Sim.rf h _
    rw [if_neg k0, if_neg k0]
    by_cases k0 : k = 4
    · rw [if_pos k0, if_pos k0, gd_t hb, gd_t (by omega), h.nr.right hb]
      exact Sim.rf h _
    rw [if_neg k0, if_neg k0]
    by_cases k0 : k = 5
    · rw [if_pos k0, if_pos k0, gd_t hb, gd_t (by omega), h.nr.turned hb]
      exact Sim.rf h _
    rw [if_neg k0, if_neg k0]
    by_cases k0 : k = 6
    · rw [if_pos k0, if_pos k0, gd_t hb, gd_t (by omega), h.nr.lost hb]
      exact Sim.rf h _
    rw [if_neg k0, if_neg k0]
    by_cases k0 : k = 7
    · rw [if_pos k0, if_pos k0]
      obtain ⟨s1, a1, a2⟩ := e_shot h.nr h.wn (Or.inl rfl) hC hO c
      obtain ⟨t1, b1, b2⟩ := e_shotAt h.wn hM hO c
      rw [bd_e a1, bd_e b1]
      exact Sim.rf (h.sc2 a2 b2) _
    rw [if_neg k0, if_neg k0]
    by_cases k0 : k = 8
    · rw [if_pos k0, if_pos k0]
      obtain ⟨s1, a1, a2⟩ := e_stick h.nr h.wn (Or.inl rfl) hC hO c
      obtain ⟨t1, b1, b2⟩ := e_mStick h.wn hM hO c
      rw [bd_e a1, bd_e b1]
      exact Sim.rf (h.sc2 a2 b2) _
    rw [if_neg k0, if_neg k0]
    by_cases k0 : k = 9
    · rw [if_pos k0, if_pos k0]
      obtain ⟨s1, a1, a2⟩ := e_list h.nr h.wn (Or.inl rfl) hC hO c
      obtain ⟨t1, b1, b2⟩ := e_listOf h.wn hM hO c
      rw [bd_e a1, bd_e b1]
      exact Sim.rf (h.sc2 a2 b2) _
    rw [if_neg k0, if_neg k0]
    exact Sim.rf h _
  · rw [if_neg c, if_neg c]
    exact Sim.rf h _
theorem k_river (h : IV s t) (k what : Int) : Sim (f_X11_river 0 k what s) (f_X12_river 0 k what t) := by
  unfold f_X11_river f_X12_river
  simp only [Nat.zero_add, Nat.reduceAdd]
  rw [jn_s, jn_s]
  by_cases c : what = 0
  · rw [if_pos c, if_pos c, bd_e (e_within _ _ _ _), bd_e (e_isReach _ _), bI_z, bI_z]
    by_cases c2 : 0 ≤ k ∧ k ≤ 15
    · rw [if_pos c2, if_pos c2, wr_n (by omega), gd_t (by omega), gd_t (by omega), h.nr.archers (by omega)]
      exact Sim.rf h _
    · rw [if_neg c2, if_neg c2]
      show Sim (ite (what = 1) _ _) (ite (what = 1) _ _)
      rw [if_neg (by omega), if_neg (by omega)]
      exact Sim.rf h _
  · rw [if_neg c, if_neg c]
    show Sim (ite (what = 1) _ _) (ite (what = 1) _ _)
    by_cases c1 : what = 1
    · rw [if_pos c1, if_pos c1, bd_e (e_within _ _ _ _), bd_e (e_isIn _ _ _ _), bI_z, bI_z]
      by_cases c2 : 0 ≤ k ∧ k ≤ 23
      · rw [if_pos c2, if_pos c2, bd_e (c_goesAt h.cur.1 h.cur.2 k), bd_e (m_currentAt h.cur.2 c2)]
        exact Sim.rf h _
      · rw [if_neg c2, if_neg c2]
        exact Sim.rf h _
    · rw [if_neg c1, if_neg c1]
      exact Sim.rf h _
/-- a village that is told -/
abbrev isV (w : Int → Int) (v : Int) : Prop := (0 ≤ v ∧ v ≤ 11) ∧ 0 < w (198 + v)
theorem c_isTold (h : IV s t) (v : Int) : f_X9_isTold 27 v s = some (bI (isV (t 1) v), s) := by
  unfold f_X9_isTold
  rw [bd_e (e_within _ _ _ _), bI_z]
  by_cases c : 0 ≤ v ∧ v ≤ 11
  · rw [if_pos c, gd_t (by omega), (h.vil.1.2 v (by omega) (by omega)).1]
    by_cases c2 : 0 < t 1 (198 + v)
    · rw [if_pos c2, bI_t ⟨c, c2⟩]
    · rw [if_neg c2, bI_f (fun q => c2 q.2)]
  · rw [if_neg c, bI_f (fun q => c q.1)]
theorem m_isTold (h : IV s t) (v : Int) : f_X12_isTold 0 v t = some (bI (isV (t 1) v), t) := by
  unfold f_X12_isTold
  rw [bd_e (e_isIn _ _ _ _), bI_z]
  by_cases c : 0 ≤ v ∧ v ≤ 11
  · have hv : (iand (ishr (t 1 197) v) 1 = 1 ↔ 0 < t 1 (198 + v)) := (h.vil.2.2.2 v (by omega) (by omega)).2.1
    rw [if_pos c, gd_t (by decide), Nat.zero_add]
    by_cases c2 : 0 < t 1 (198 + v)
    · rw [if_pos (hv.mpr c2), bI_t ⟨c, c2⟩]
    · rw [if_neg (fun q => c2 (hv.mp q)), bI_f (fun q => c2 q.2)]
  · rw [if_neg c, bI_f (fun q => c q.1)]
theorem k_village (h : IV s t) (v what : Int) : Sim (f_X11_village 0 v what s) (f_X12_village 0 v what t) := by
  unfold f_X11_village f_X12_village
  simp only [Nat.zero_add, Nat.reduceAdd]
  rw [bd_e (c_isTold h v), bd_e (m_isTold h v), bI_z, bI_z]
  by_cases c : isV (t 1) v
  · have hv := c.1
    have e := h.vil.1.2 v (by omega) (by omega)
    rw [if_pos c, if_pos c]
    by_cases k0 : what = 0
    · rw [if_pos k0, if_pos k0, gd_t (by omega), wr_n (by omega), gd_t (by omega)]
      exact Sim.eq rfl rfl e.1 h
    · rw [if_neg k0, if_neg k0]
      by_cases k1 : what = 1
      · rw [if_pos k1, if_pos k1, gd_t (by omega), wr_n (x := 210 + v) (by omega), gd_t (by omega)]
        exact Sim.eq rfl rfl e.2 h
      · rw [if_neg k1, if_neg k1]
        exact Sim.rf h _
  · rw [if_neg c, if_neg c]
    exact Sim.rf h _
theorem k_book (h : IV s t) (i what : Int) : Sim (f_X11_book 0 i what s) (f_X12_book 0 i what t) := by
  have h6 := h.wn.written
  unfold f_X11_book f_X12_book
  simp only [Nat.zero_add, Nat.reduceAdd]
  rw [gd_t (by decide), bd_e (e_within _ _ _ _), bd_e (e_isIn _ _ _ _), bI_z, bI_z, h.nr.written, wr_n (x := t 1 6 - 1) (by omega)]
  by_cases c : 0 ≤ i ∧ i ≤ t 1 6 - 1
  · rw [if_pos c, if_pos c, bd_e (e_within _ _ _ _), bd_e (e_isIn _ _ _ _), bI_z, bI_z]
    by_cases c2 : 0 ≤ what ∧ what ≤ 3
    · have e : 248 + (4 * i + what) = 248 + 4 * i + what := by omega
      have hb := h.bk (4 * i + what) (by omega) (by omega)
      rw [if_pos c2, if_pos c2, wr_n (x := 4 * i) (by omega), wr_n (x := 248 + 4 * i) (by omega), wr_n (x := 4 * i + what) (by omega), wr_n (x := 248 + 4 * i + what) (by omega), gd_t (by omega), gd_t (by omega)]
      exact Sim.eq rfl rfl (by rw [hb, e]) h
    · rw [if_neg c2, if_neg c2]
      exact Sim.rf h _
  · rw [if_neg c, if_neg c]
    exact Sim.rf h _
theorem k_bank (h : IV s t) (k v : Int) : Sim (f_X11_bank 0 k v s) (f_X12_bank 0 k v t) := by
  unfold f_X11_bank f_X12_bank
  simp only [Nat.zero_add, Nat.reduceAdd]
  rw [bd_e (e_within _ _ _ _), bd_e (e_isIn _ _ _ _), bI_z, bI_z]
  by_cases c : 0 ≤ k ∧ k ≤ 3
  · rw [if_pos c, if_pos c, bd_e (e_within _ _ _ _), bd_e (e_isIn _ _ _ _), bI_z, bI_z]
    by_cases c2 : 0 ≤ v ∧ v ≤ 99
    · rw [if_pos c2, if_pos c2, gd_t (by omega), wr_n (by omega), gd_t (by omega), lm_s, lm_s]
      refine Sim.eq rfl rfl rfl ?_
      obtain ⟨lw, hX, hW⟩ := h.1
      obtain ⟨l1, l2, l3⟩ := h.led.1
      obtain ⟨m1, m2, m3⟩ := h.led.2
      have e1 : mup t 1 (238 + k) v 1 = up (t 1) (238 + k) v := mup_row _ _ _ _
      have hh := hX.led (s' := mup s 37 k v) (w' := up (t 1) (238 + k) v) hW ⟨by rw [mup_o (by decide), up_ne (by omega)]; exact l1, fun i g1 g2 => ?_, fun i g1 g2 => by rw [mup_o (by decide), up_ne (by omega)]; exact l3 i g1 g2⟩ ⟨by rw [up_ne (by omega)]; exact m1, fun i g1 g2 => ?_, fun i g1 g2 => ?_⟩ (fun c _ q _ => mup_o q) (fun i q1 q2 => up_ne (by omega))
      · exact h.wo (by rw [e1]; exact hh.1) (by rw [e1]; exact hh.2) (fun c q => mup_o (by omega)) (fun i q => by rw [e1, up_ne (by omega)]) (fun c q => mup_o q)
      · by_cases e : i = k
        · rw [mup_e rfl e, up_eq (by omega)]
        · rw [mup_n (Or.inr e), up_ne (by omega)]
          exact l2 i g1 g2
      · by_cases e : i = k
        · rw [up_eq (by omega)]
          exact c2
        · rw [up_ne (by omega)]
          exact m2 i g1 g2
      · rw [up_ne (by omega)]
        rw [up_ne (by omega)] at g2
        exact m3 i g1 g2
    · rw [if_neg c2, if_neg c2]
      exact Sim.rf h _
  · rw [if_neg c, if_neg c]
    exact Sim.rf h _
theorem k_mark (h : IV s t) (n : Int) : Sim (f_X11_mark 0 n s) (f_X12_mark 0 n t) := by
  obtain ⟨lw, hX, hW⟩ := h.1
  obtain ⟨l1, l2, l3⟩ := h.led.1
  obtain ⟨m1, m2, m3⟩ := h.led.2
  unfold f_X11_mark f_X12_mark f_X3_enter
  simp only [Nat.zero_add, Nat.reduceAdd]
  by_cases c : n = -1
  · rw [if_pos c, if_pos c, gd_t (by decide), lm_s, lm_s]
    refine Sim.eq rfl rfl rfl ?_
    have e1 : mup t 1 64 0 1 = up (t 1) 64 0 := mup_row _ _ _ _
    have hh := hX.led (s' := mup s 36 2 0) (w' := up (t 1) 64 0) hW ⟨by rw [mup_e rfl rfl, up_eq rfl], fun i g1 g2 => by rw [mup_o (by decide), up_ne (by omega)]; exact l2 i g1 g2, fun i g1 g2 => by rw [mup_o (by decide), up_ne (by omega)]; exact l3 i g1 g2⟩ ⟨by rw [up_eq rfl]; decide, fun i g1 g2 => by rw [up_ne (by omega)]; exact m2 i g1 g2, fun i g1 g2 => by rw [up_eq rfl] at g2; omega⟩ (fun c q _ _ => mup_o q) (fun i q1 q2 => up_ne q1)
    exact h.wo (by rw [e1]; exact hh.1) (by rw [e1]; exact hh.2) (fun c q => mup_o (by omega)) (fun i q => by rw [e1, up_ne (by omega)]) (fun c q => mup_o q)
  · rw [if_neg c, if_neg c, bd_e (e_within _ _ _ _), bd_e (e_isIn _ _ _ _), bI_z, bI_z]
    by_cases c1 : 1 ≤ n ∧ n ≤ 999
    · rw [if_pos c1, if_pos c1, gd_t (by decide), bd_e (e_within _ _ _ _), bI_z, l1]
      by_cases c2 : t 1 64 = 6
      · rw [if_neg (by omega), if_pos c2, bd_s]
        exact Sim.rf h _
      · rw [if_pos (by omega), if_neg c2, gd_t (by omega), lm_s, mup_o (by decide), l1, wr_n (x := t 1 64 + 1) (by omega), lm_s, bd_s]
        rw [gd_t (by decide), wr_n (x := 242 + t 1 64) (by omega), gd_t (by omega), lm_s, gd_t (by decide), gd_t (by decide), mup_n (a := 1) (i' := 64) (Or.inr (by omega)), wr_n (x := t 1 64 + 1) (by omega), lm_s, gd_t (by decide), mup_e rfl rfl, mup_e rfl rfl]
        refine Sim.eq rfl rfl rfl ?_
        have e1 : mup (mup t 1 (242 + t 1 64) n) 1 64 (t 1 64 + 1) 1 = up (up (t 1) (242 + t 1 64) n) 64 (t 1 64 + 1) := by rw [mup_row, mup_row]
        have hh := hX.led (s' := mup (mup s 38 (t 1 64) n) 36 2 (t 1 64 + 1)) (w' := up (up (t 1) (242 + t 1 64) n) 64 (t 1 64 + 1)) hW ⟨by rw [mup_e rfl rfl, up_eq rfl], fun i g1 g2 => by rw [mup_o (by decide), mup_o (by decide), up_ne (by omega), up_ne (by omega)]; exact l2 i g1 g2, fun i g1 g2 => ?_⟩ ⟨by rw [up_eq rfl]; omega, fun i g1 g2 => by rw [up_ne (by omega), up_ne (by omega)]; exact m2 i g1 g2, fun i g1 g2 => ?_⟩ (fun c q1 q2 q3 => by rw [mup_o q1, mup_o q3]) (fun i q1 q2 => by rw [up_ne q1, up_ne (by omega)])
        · exact h.wo (by rw [e1]; exact hh.1) (by rw [e1]; exact hh.2) (fun c q => by rw [mup_o (by omega), mup_o (by omega)]) (fun i q => by rw [e1, up_ne (by omega), up_ne (by omega)]) (fun c q => by rw [mup_o q, mup_o q])
        · rw [mup_o (by decide), up_ne (by omega)]
          by_cases e : i = t 1 64
          · rw [mup_e rfl e, up_eq (by omega)]
          · rw [mup_n (Or.inr e), up_ne (by omega)]
            exact l3 i g1 g2
        · rw [up_eq rfl] at g2
          rw [up_ne (by omega)]
          by_cases e : i = t 1 64
          · rw [up_eq (by omega)]
            exact c1
          · rw [up_ne (by omega)]
            exact m3 i g1 (by omega)
    · rw [if_neg c1, if_neg c1, bd_s]
      exact Sim.rf h _
end

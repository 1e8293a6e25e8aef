/-! ===== L3: calls one by one ===== -/
section
variable {s t : Mem}
theorem k_state (h : IV s t) {v : Int} (hv : InR v) : Sim (f_X11_state 0 v s) (f_X12_state 0 v t) := by
  unfold f_X11_state f_X12_state f_X5_forget f_X12_forgets
  simp only [Nat.zero_add, Nat.reduceAdd]
  rw [gd_t (by decide), gd_t (by decide), lm_s, lm_s, lm_s, lm_s, bd_s, bd_s]
  refine Sim.eq rfl rfl h.nr.draws ?_
  have e : (mup (mup t 1 5 v) 0 4 0) 1 = up (t 1) 5 v := by rw [mup_o (by decide), mup_row]
  refine h.fg ?_ ?_ ?_ ?_ ?_ ?_ (fun c q1 q2 => by rw [mup_o q2, mup_o (by omega)]) (fun i hi => by rw [e, up_ne (by omega)]) (fun c q1 q2 => by rw [mup_o q1, mup_o q2])
  · rw [e]
    exact (h.nr.u_draws v).of (fun c q1 q2 => mup_o (by omega))
  · rw [e]
    exact h.bk.of (by rw [mup_o (by decide), mup_o (by decide)]) (fun i q1 q2 => up_ne (by omega))
  · rw [e]
    exact h.wn.u_draws hv
  · rw [e, up_ne (by decide)]
    exact h.h0
  · rw [mup_row, mup_o (by decide)]
  · rw [mup_row, mup_o (by decide)]
theorem k_boat (h : IV s t) (x1 x2 x3 : Int) : Sim (f_X11_boat 0 x1 x2 x3 s) (f_X12_boat 0 x1 x2 x3 t) := by
  unfold f_X11_boat f_X12_boat f_X5_forget f_X12_forgets f_X4_launch
  simp only [Nat.zero_add, Nat.reduceAdd, e_within, e_isIn, e_isReach, bd_s, bI_z]
  by_cases c1 : 1 ≤ x1 ∧ x1 ≤ 40
  · rw [if_pos c1, if_pos c1]
    by_cases c2 : 0 ≤ x2 ∧ x2 ≤ 2
    · rw [if_pos c2, if_pos c2]
      by_cases c3 : 0 ≤ x3 ∧ x3 ≤ 15
      · rw [if_pos c3, if_pos c3, gd_t (by decide), h.nr.boats]
        have h58 := h.wn.boats
        by_cases c4 : t 1 58 = 10
        · rw [if_neg (by omega), if_pos c4]
          exact Sim.rf h _
        · have hb : 0 ≤ t 1 58 ∧ t 1 58 < 10 := by omega
          rw [if_pos (by omega), if_neg c4, lm_s, bd_s, mup_o (by decide), h.nr.boats, if_pos (by omega), gd_t hb, lm_s, gd_t hb, lm_s, gd_t hb, lm_s, gd_t hb, lm_s, gd_t hb, lm_s, gd_t hb, lm_s, gd_t hb, lm_s, lm_s, bd_s]
          rw [gd_t (by decide), wr_n (x := 65 + t 1 58) (by omega), wr_n (x := 75 + t 1 58) (by omega), wr_n (x := 7 + t 1 58) (by omega), wr_n (x := 17 + t 1 58) (by omega), wr_n (x := 27 + t 1 58) (by omega), wr_n (x := 37 + t 1 58) (by omega), wr_n (x := 47 + t 1 58) (by omega), gd_t (by omega), lm_s, gd_t (by omega), lm_s, gd_t (by omega), lm_s, gd_t (by omega), lm_s, gd_t (by omega), lm_s, gd_t (by omega), lm_s, gd_t (by omega), lm_s, gd_t (by decide), gd_t (by decide)]
          have n0 : NR (mup s 77 2 0) 2 (t 1) := h.nr.of (fun c q1 q2 => mup_o (by omega))
          have n7 := ((((((n0.u_straw hb x1).u_kind hb x2).u_reach hb x3).u_left hb 0).u_right hb 0).u_turned hb 0).u_lost hb 0
          have w7 := ((((((h.wn.u_straw hb (v := x1) (by omega)).u_kind hb (v := x2) c2).u_reach hb (v := x3) c3).u_left hb (v := 0) (by decide)).u_right hb (v := 0) (by decide)).u_turned hb (v := 0) (by decide)).u_lost hb (v := 0) (by decide)
          have e58 : up (up (up (up (up (up (up (t 1) (65 + t 1 58) x1) (75 + t 1 58) x2) (7 + t 1 58) x3) (17 + t 1 58) 0) (27 + t 1 58) 0) (37 + t 1 58) 0) (47 + t 1 58) 0 58 = t 1 58 := by
            rw [up_ne (by omega), up_ne (by omega), up_ne (by omega), up_ne (by omega), up_ne (by omega), up_ne (by omega), up_ne (by omega)]
          have n8 := n7.u_boats (t 1 58 + 1)
          have w8 := w7.u_boats (v := t 1 58 + 1) (by omega)
          have em : mup (mup (mup (mup (mup (mup (mup t 1 (65 + t 1 58) x1) 1 (75 + t 1 58) x2) 1 (7 + t 1 58) x3) 1 (17 + t 1 58) 0) 1 (27 + t 1 58) 0) 1 (37 + t 1 58) 0) 1 (47 + t 1 58) 0 = sr t 1 (up (up (up (up (up (up (up (t 1) (65 + t 1 58) x1) (75 + t 1 58) x2) (7 + t 1 58) x3) (17 + t 1 58) 0) (27 + t 1 58) 0) (37 + t 1 58) 0) (47 + t 1 58) 0) := by
            rw [mup_to_sr t 1, mup_sr, mup_sr, mup_sr, mup_sr, mup_sr, mup_sr]
          rw [em, sr_e, e58, mup_sr, n7.boats, e58, wr_n (by omega), lm_s, lm_s, bd_s]
          refine Sim.eq rfl rfl rfl ?_
          have e : ∀ f : Int → Int, (mup (sr t 1 f) 0 4 0) 1 = f := fun f => by rw [mup_o (by decide), sr_e]
          refine h.fg ?_ ?_ ?_ ?_ ?_ ?_ (fun c q1 q2 => ?_) (fun i hi => ?_) (fun c q1 q2 => by rw [mup_o q1, sr_o q2])
          · rw [e]
            exact n8
          · rw [e]
            refine h.bk.of (by rw [mup_o (by decide), mup_o (by decide), mup_o (by decide), mup_o (by decide), mup_o (by decide), mup_o (by decide), mup_o (by decide), mup_o (by decide), mup_o (by decide)]) (fun i q1 q2 => ?_)
            rw [up_ne (by omega), up_ne (by omega), up_ne (by omega), up_ne (by omega), up_ne (by omega), up_ne (by omega), up_ne (by omega), up_ne (by omega)]
          · rw [e]
            exact w8
          · rw [e, up_ne (by omega), up_ne (by omega), up_ne (by omega), up_ne (by omega), up_ne (by omega), up_ne (by omega), up_ne (by omega), up_ne (by omega)]
            exact h.h0
          · rw [mup_o (by decide), mup_o (by decide), mup_o (by decide), mup_o (by decide), mup_o (by decide), mup_o (by decide), mup_o (by decide), mup_o (by decide), mup_row]
          · rw [mup_row, sr_o (by decide)]
          · rw [mup_o (by omega), mup_o (by omega), mup_o (by omega), mup_o (by omega), mup_o (by omega), mup_o (by omega), mup_o (by omega), mup_o (by omega), mup_o q2]
          · rw [e, up_ne (by omega), up_ne (by omega), up_ne (by omega), up_ne (by omega), up_ne (by omega), up_ne (by omega), up_ne (by omega), up_ne (by omega)]
      · rw [if_neg c3, if_neg c3]
        exact Sim.rf h _
    · rw [if_neg c2, if_neg c2]
      exact Sim.rf h _
  · rw [if_neg c1, if_neg c1]
    exact Sim.rf h _
/-- one number of the night is told anew -/
theorem set_fin (h : IV s t) {a : Nat} {i k v : Int} (ha : 2 ≤ a ∧ a ≤ 10) (hk : 0 ≤ k ∧ k < 101 ∧ k ≠ 0 ∧ ¬ (59 ≤ k ∧ k < 65)) (hN : NR (mup s a i v) 2 (up (t 1) k v)) (hW : WN (up (t 1) k v)) : Sim (bd (lm (mup s a i v) fun s6 => some ((1 : Int), s6)) fun r1 s2 => if r1 = 0 then (some (0, s2)) else (bd (f_X5_forget 77 s2) fun r4 s5 => some (1, s5))) (gd ((0 : Int) ≤ k ∧ k < 1732) (lm (mup t 1 k v) fun s7 => bd (f_X12_forgets 0 s7) fun r8 s9 => some (1, s9))) := by
  rw [gd_t (by omega), lm_s, bd_s, if_neg (by decide), lm_s]
  unfold f_X5_forget f_X12_forgets
  rw [lm_s, lm_s, bd_s, bd_s]
  refine Sim.eq rfl rfl rfl ?_
  have e : (mup (mup t 1 k v) 0 4 0) 1 = up (t 1) k v := by rw [mup_o (by decide), mup_row]
  refine h.fg ?_ ?_ ?_ ?_ ?_ ?_ (fun c q1 q2 => by rw [mup_o q2, mup_o (by omega)]) (fun i hi => by rw [e, up_ne (by omega)]) (fun c q1 q2 => by rw [mup_o q1, mup_o q2])
  · rw [e]
    exact hN.of (fun c q1 q2 => mup_o (by omega))
  · rw [e]
    exact h.bk.of (by rw [mup_o (by decide), mup_o (by omega)]) (fun i q1 q2 => up_ne (by omega))
  · rw [e]
    exact hW
  · rw [e, up_ne (by omega)]
    exact h.h0
  · rw [mup_row, mup_o (by omega)]
  · rw [mup_row, mup_o (by decide)]
theorem e_boatM (h : IV s t) (b : Int) : f_X12_isBoat 0 b t = some (bI (hasB (t 1) b), t) := e_isBoat h.wn b
theorem k_set (h : IV s t) (x1 x2 x3 : Int) : Sim (f_X11_set 0 x1 x2 x3 s) (f_X12_set 0 x1 x2 x3 t) := by
  have h58 := h.wn.boats
  unfold f_X11_set f_X12_set f_X4_tell f_X12_canSet f_X4_most f_X12_placeOf
  simp only [Nat.zero_add, Nat.reduceAdd, e_within, e_isIn, e_isReach, e_boatM h, e_has h.nr, bd_s, bI_z]
  by_cases c0 : x3 < 0
  · rw [if_pos c0, bd_s, if_pos rfl]
    have e : ∀ o : Res, o = some (0, t) → Sim (some (0, s)) (bd o fun r1 s2 => if r1 = 0 then some (0, s2) else bd (if x1 = 0 then some (1, s2) else if x1 = 1 then some (2, s2) else if x1 = 2 then some (3, s2) else if x1 = 3 then some (57, s2) else if x1 = 4 then some (wr (85 + x2), s2) else if x1 = 5 then some (wr (17 + x2), s2) else some (wr (27 + x2), s2)) fun r4 s5 => gd ((0 : Int) ≤ r4 ∧ r4 < 1732) (lm (mup s5 1 r4 x3) fun s7 => bd (f_X12_forgets 0 s7) fun r8 s9 => some (1, s9))) := by
      intro o ho
      rw [ho, bd_s, if_pos rfl]
      exact Sim.rf h 0
    refine e _ ?_
    have b1 : ∀ m : Int, bI (0 ≤ x3 ∧ x3 ≤ m) = 0 := fun m => bI_f (by omega)
    have b2 : ∀ m : Int, ¬ (0 ≤ x3 ∧ x3 ≤ m) := fun m => by omega
    simp only [b1, if_neg (b2 _)]
    repeat' split
    all_goals rfl
  · rw [if_neg c0]
    by_cases e0 : x1 = 0
    · subst e0
      simp only [bd_s, bI_z, reduceIte]
      by_cases c : x3 ≤ 9
      · rw [if_neg (by omega), if_pos (by omega)]
        exact set_fin h (by decide) (by decide) (h.nr.u_fog x3) (h.wn.u_fog (by omega))
      · rw [if_pos (by omega), if_neg (by omega), bd_s, if_pos rfl]
        exact Sim.rf h 0
    by_cases e1 : x1 = 1
    · subst e1
      simp only [bd_s, bI_z, reduceIte, if_neg e0]
      by_cases c : x3 ≤ 9
      · rw [if_neg (by omega), if_pos (by omega)]
        exact set_fin h (by decide) (by decide) (h.nr.u_drums x3) (h.wn.u_drums (by omega))
      · rw [if_pos (by omega), if_neg (by omega), bd_s, if_pos rfl]
        exact Sim.rf h 0
    by_cases e2 : x1 = 2
    · subst e2
      simp only [bd_s, bI_z, reduceIte, if_neg e0, if_neg e1]
      by_cases c : x3 ≤ 99
      · rw [if_neg (by omega), if_pos (by omega)]
        exact set_fin h (by decide) (by decide) (h.nr.u_alarm x3) (h.wn.u_alarm (by omega))
      · rw [if_pos (by omega), if_neg (by omega), bd_s, if_pos rfl]
        exact Sim.rf h 0
    by_cases e3 : x1 = 3
    · subst e3
      simp only [bd_s, bI_z, reduceIte, if_neg e0, if_neg e1, if_neg e2]
      by_cases c : x3 ≤ 1000
      · rw [if_neg (by omega), if_pos (by omega)]
        exact set_fin h (by decide) (by decide) (h.nr.u_fire x3) (h.wn.u_fire (by omega))
      · rw [if_pos (by omega), if_neg (by omega), bd_s, if_pos rfl]
        exact Sim.rf h 0
    by_cases e4 : x1 = 4
    · subst e4
      simp only [bd_s, bI_z, reduceIte, if_neg e0, if_neg e1, if_neg e2, if_neg e3]
      by_cases c5 : 0 ≤ x2 ∧ x2 ≤ 15
      · simp only [if_pos c5, bd_s]
        by_cases c : x3 ≤ 99
        · rw [if_neg (by omega), if_pos (show 0 ≤ x3 ∧ x3 ≤ 99 by omega), gd_t (by omega), bd_s, if_neg (by decide), wr_n (by omega)]
          exact set_fin h (by decide) (by omega) (h.nr.u_archers (by omega) x3) (h.wn.u_archers (by omega) (by omega))
        · rw [if_pos (by omega), if_neg (show ¬ (0 ≤ x3 ∧ x3 ≤ 99) by omega), bd_s, if_pos rfl, bd_s, if_pos rfl]
          exact Sim.rf h 0
      · simp only [if_neg c5, bd_s]
        rw [if_pos (by omega), bd_s, if_pos rfl, if_pos trivial]
        exact Sim.rf h 0
    by_cases e5 : x1 = 5
    · subst e5
      simp only [bd_s, bI_z, reduceIte, if_neg e0, if_neg e1, if_neg e2, if_neg e3, if_neg e4]
      by_cases c5 : hasB (t 1) x2
      · have hb : 0 ≤ x2 ∧ x2 < 10 := by
          have := c5.1
          have := c5.2
          omega
        simp only [if_pos c5, bd_s]
        by_cases c : x3 ≤ 999
        · rw [if_neg (by omega), if_pos (show 0 ≤ x3 ∧ x3 ≤ 999 by omega), gd_t hb, bd_s, if_neg (by decide), wr_n (by omega)]
          exact set_fin h (by decide) (by omega) (h.nr.u_left hb x3) (h.wn.u_left hb (by omega))
        · rw [if_pos (by omega), if_neg (show ¬ (0 ≤ x3 ∧ x3 ≤ 999) by omega), bd_s, if_pos rfl, bd_s, if_pos rfl]
          exact Sim.rf h 0
      · simp only [if_neg c5, bd_s]
        rw [if_pos (by omega), bd_s, if_pos rfl, if_pos trivial]
        exact Sim.rf h 0
    by_cases e6 : x1 = 6
    · subst e6
      simp only [bd_s, bI_z, reduceIte, if_neg e0, if_neg e1, if_neg e2, if_neg e3, if_neg e4, if_neg e5]
      by_cases c5 : hasB (t 1) x2
      · have hb : 0 ≤ x2 ∧ x2 < 10 := by
          have := c5.1
          have := c5.2
          omega
        simp only [if_pos c5, bd_s]
        by_cases c : x3 ≤ 999
        · rw [if_neg (by omega), if_pos (show 0 ≤ x3 ∧ x3 ≤ 999 by omega), gd_t hb, bd_s, if_neg (by decide), wr_n (by omega)]
          exact set_fin h (by decide) (by omega) (h.nr.u_right hb x3) (h.wn.u_right hb (by omega))
        · rw [if_pos (by omega), if_neg (show ¬ (0 ≤ x3 ∧ x3 ≤ 999) by omega), bd_s, if_pos rfl, bd_s, if_pos rfl]
          exact Sim.rf h 0
      · simp only [if_neg c5, bd_s]
        rw [if_pos (by omega), bd_s, if_pos rfl, if_pos trivial]
        exact Sim.rf h 0
    · simp only [if_neg e0, if_neg e1, if_neg e2, if_neg e3, if_neg e4, if_neg e5, if_neg e6, bd_s]
      rw [if_pos (by omega), bd_s, if_pos rfl, if_pos trivial]
      exact Sim.rf h 0
end

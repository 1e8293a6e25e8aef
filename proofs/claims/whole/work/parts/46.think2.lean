/-! ===== L3: goes, stays, keeps, lies ===== -/
section
variable {s t s0 t0 : Mem} {w0 : Int → Int} {lw : List Lin}
theorem e137 : (137 : Int).toNat = 137 := rfl
theorem c_behind (hN : NR s 2 w0) (hw : WN w0) (hh : HW s w0 lw) {n : Int} (hn : 1 ≤ n ∧ n ≤ 99) : ∃ s1 : Mem, f_X8_behind 133 1 n s = some (137, s1) ∧ NR s1 137 (sItr lw n.toNat w0) ∧ WT w0 (sItr lw n.toNat w0) n ∧ FrT s s1 := by
  obtain ⟨e1, e2, e3⟩ := th_begin hN
  unfold f_X8_behind
  rw [bd_e e1, gd_t isN137, jn_s, e137]
  obtain ⟨s1, a1, a2, a3, a4⟩ := th_itr (F := f_X8_behind_9 1 n 137 (fun s4 => some (((137 : Nat) : Int), s4))) (k := fun s4 => some (((137 : Nat) : Int), s4)) (N := n) (n := 137) hh (by decide) (by omega) (fun m i r s s1 hi hp => by rw [f_X8_behind_9, if_pos hi, bd_e hp]) (fun m i s hi => by rw [f_X8_behind_9, if_neg hi]) n.toNat FU 0 _ w0 (fu_lt (by omega)) (by decide) (by omega) e2 (WT.rf hw) e3
  exact ⟨s1, a1, a2, a3, a4⟩
theorem k_goes (h : IV s t) (n what : Int) : Sim (f_X11_goes 0 n what s) (f_X12_goes 0 n what t) := by
  obtain ⟨lw, hh⟩ := h.hw
  unfold f_X11_goes f_X12_goes
  simp only [Nat.zero_add]
  rw [bd_e (e_within _ _ _ _), bd_e (e_isIn _ _ _ _), bI_z, bI_z]
  by_cases c : 1 ≤ n ∧ n ≤ 99
  · rw [if_pos c, if_pos c, bd_e (e_within _ _ _ _), bd_e (e_isIn _ _ _ _), bI_z, bI_z]
    by_cases c2 : 0 ≤ what ∧ what ≤ 2
    · rw [if_pos c2, if_pos c2]
      obtain ⟨s1, a1, a2, a3, a4⟩ := c_behind h.nr h.wn hh c
      obtain ⟨t1, l1, l2⟩ := m_lays (t := t)
      rw [bd_e a1, gd_t isN137, e137, bd_e l1, jn_s]
      have hb : ∀ y : Int, ∀ t2 : Mem, TM t t2 (sItr lw n.toNat (t 1)) → ∃ t3 : Mem, bd (f_X12_putsBack 0 t2) (fun r12 s13 => some (y, s13)) = some (y, t3) ∧ IV s1 t3 := by
        intro y t2 hT
        obtain ⟨t3, b1, b2, b3, b4⟩ := m_back hT a3
        exact ⟨t3, bd_e b1, th_end h a4 b2 b3 b4⟩
      have fin : ∀ t2 : Mem, TM t t2 (sItr lw n.toNat (t 1)) → Sim (if what = 0 then (bd (f_X4_had 137 s1) fun r11 s12 => some (r11, s12)) else (if what = 1 then (bd (f_X4_howManyLost 137 s1) fun r14 s15 => some (r14, s15)) else (some (s1 137 10, s1)))) (if what = 0 then (bd (f_X12_allArrows 0 t2) fun r15 s16 => bd (f_X12_putsBack 0 s16) fun r12 s13 => some (r15, s13)) else (if what = 1 then (bd (f_X12_lostMany 0 t2) fun r18 s19 => bd (f_X12_putsBack 0 s19) fun r12 s13 => some (r18, s13)) else (gd ((0 : Int) ≤ 3 ∧ (3 : Int) < 1732) (bd (f_X12_putsBack 0 t2) fun r12 s13 => some (t2 (0 + 1) 3, s13))))) := by
        intro t2 hT
        have hw2 : WN (t2 1) := by
          rw [hT.1]
          exact a3.2.2
        have e1 := m_allArrows hw2
        have e2 := m_lostMany hw2
        rw [hT.1] at e1 e2
        by_cases k0 : what = 0
        · rw [if_pos k0, if_pos k0, bd_e (c_had a2 a3.2.2), bd_e e1]
          obtain ⟨t3, b1, b2⟩ := hb (sHad (sItr lw n.toNat (t 1))) t2 hT
          rw [b1]
          exact Sim.rf b2 _
        · rw [if_neg k0, if_neg k0]
          by_cases k1 : what = 1
          · rw [if_pos k1, if_pos k1, bd_e (c_howMany a2 a3.2.2), bd_e e2]
            obtain ⟨t3, b1, b2⟩ := hb (sMany (sItr lw n.toNat (t 1))) t2 hT
            rw [b1]
            exact Sim.rf b2 _
          · rw [if_neg k1, if_neg k1, gd_t (by decide), a2.alarm, Nat.zero_add, hT.1]
            obtain ⟨t3, b1, b2⟩ := hb (sItr lw n.toNat (t 1) 3) t2 hT
            rw [b1]
            exact Sim.rf b2 _
      obtain ⟨t2, b1, b2, b3⟩ := tm_itr (t0 := t) (F := f_X12_goes_27 0 n (fun (s9 : Mem) => jn (fun (y10 : Int) (s11 : Mem) => bd (f_X12_putsBack 0 s11) fun r12 s13 => some (y10, s13)) fun j72 => if what = 0 then (bd (f_X12_allArrows 0 s9) fun r15 s16 => j72 r15 s16) else (if what = 1 then (bd (f_X12_lostMany 0 s9) fun r18 s19 => j72 r18 s19) else (gd ((0 : Int) ≤ 3 ∧ (3 : Int) < 1732) (j72 (s9 (0 + 1) 3) s9))))) (k := fun (s9 : Mem) => jn (fun (y10 : Int) (s11 : Mem) => bd (f_X12_putsBack 0 s11) fun r12 s13 => some (y10, s13)) fun j72 => if what = 0 then (bd (f_X12_allArrows 0 s9) fun r15 s16 => j72 r15 s16) else (if what = 1 then (bd (f_X12_lostMany 0 s9) fun r18 s19 => j72 r18 s19) else (gd ((0 : Int) ≤ 3 ∧ (3 : Int) < 1732) (j72 (s9 (0 + 1) 3) s9)))) (N := n) hh (by omega) (fun m i r s s1 hi hp => by rw [f_X12_goes_27, if_pos hi, bd_e hp]) (fun m i s hi => by rw [f_X12_goes_27, if_neg hi]) n.toNat FU 0 t1 (t 1) (fu_lt (by omega)) (by decide) (by omega) l2 (WT.rf h.wn)
      exact b1 ▸ fin t2 b2
    · rw [if_neg c2, if_neg c2]
      exact Sim.rf h _
  · rw [if_neg c, if_neg c]
    exact Sim.rf h _
/-! stays -/
def sLB (lw : List Lin) (b : Int) : Nat → Int → (Int → Int) → Int
  | 0, _, _ => -1
  | j + 1, i, w => if afl (sHour 0 w lw) b then sLB lw b j (i + 1) (sHour 0 w lw) else i
theorem c_lb (hh : HW s0 w0 lw) {b : Int} : ∀ (j fu : Nat) (i : Int) (s : Mem) (w : Int → Int), j < fu → 1 ≤ i → i + j = 100 → NR s 137 w → WT w0 w (i - 1) → FrT s0 s → ∃ s1 : Mem, f_X8_lostBehind_9 1 b 137 (fun s4 => some (-1, s4)) fu i s = some (sLB lw b j i w, s1) ∧ FrT s0 s1 := by
  intro j
  induction j with
  | zero =>
    intro fu i s w h1 h2 h3 h4 h5 h6
    cases fu with
    | zero => exact absurd h1 (Nat.not_lt_zero _)
    | succ fu =>
      rw [f_X8_lostBehind_9, if_pos (by omega)]
      exact ⟨s, rfl, h6⟩
  | succ j ih =>
    intro fu i s w h1 h2 h3 h4 h5 h6
    cases fu with
    | zero => exact absurd h1 (Nat.not_lt_zero _)
    | succ fu =>
      obtain ⟨r, s1, a1, a2, a3, a4, a5⟩ := th_pass hh (n := 137) (by decide) (k := i - 1) (by omega) h4 h5 h6
      have e : i - 1 + 1 = i + 1 - 1 := by omega
      rw [e] at a3
      rw [f_X8_lostBehind_9, if_neg (by omega), bd_e a1, bd_e (e_afloat a2 a3.2.2 b), bI_z, wr_n (x := i + 1) (by omega)]
      have hs : sLB lw b (j + 1) i w = if afl (sHour 0 w lw) b then sLB lw b j (i + 1) (sHour 0 w lw) else i := rfl
      rw [hs]
      by_cases c : afl (sHour 0 w lw) b
      · rw [if_pos c, if_pos c]
        exact ih fu (i + 1) s1 _ (by omega) (by omega) (by omega) a2 a3 a4
      · rw [if_neg c, if_neg c]
        exact ⟨s1, rfl, a4⟩
theorem m_lb (hh : HW s0 (t0 1) lw) {b : Int} {k : Int → Mem → Res} : ∀ (j fu : Nat) (i : Int) (t : Mem) (w : Int → Int), j + 1 < fu → 1 ≤ i → i + j = 100 → TM t0 t w → WT (t0 1) w (i - 1) → ∃ (t1 : Mem) (w1 : Int → Int) (k1 : Int), f_X12_stays_18 0 b k fu (-1) i t = k (sLB lw b j i w) t1 ∧ TM t0 t1 w1 ∧ WT (t0 1) w1 k1 := by
  intro j
  induction j with
  | zero =>
    intro fu i t w h1 h2 h3 h4 h5
    cases fu with
    | zero => exact absurd h1 (Nat.not_lt_zero _)
    | succ fu =>
      rw [f_X12_stays_18, if_pos (by omega)]
      exact ⟨t, w, _, rfl, h4, h5⟩
  | succ j ih =>
    intro fu i t w h1 h2 h3 h4 h5
    cases fu with
    | zero => exact absurd h1 (Nat.not_lt_zero _)
    | succ fu =>
      obtain ⟨r, t1, a1, a2⟩ := tm_pass hh (k := i - 1) (by omega) h5 h4
      have a3 := WT_hour hh (k := i - 1) (by omega) h5
      have e : i - 1 + 1 = i + 1 - 1 := by omega
      rw [e] at a3
      have ea := e_isAfloat (t := t1) (by rw [a2.1]; exact a3.2.2) b
      rw [a2.1] at ea
      rw [f_X12_stays_18, if_neg (by omega), if_pos rfl, bd_e a1, bd_e ea, jn_s, bI_z, wr_n (x := i + 1) (by omega)]
      have hs : sLB lw b (j + 1) i w = if afl (sHour 0 w lw) b then sLB lw b j (i + 1) (sHour 0 w lw) else i := rfl
      rw [hs]
      by_cases c : afl (sHour 0 w lw) b
      · rw [if_pos c, if_pos c]
        exact ih fu (i + 1) t1 _ (by omega) (by omega) (by omega) a2 a3
      · rw [if_neg c, if_neg c]
        cases fu with
        | zero => omega
        | succ fu =>
          show ∃ (t1' : Mem) (w1 : Int → Int) (k1 : Int), f_X12_stays_18 0 b k (fu + 1) i (i + 1) t1 = k i t1' ∧ TM t0 t1' w1 ∧ WT (t0 1) w1 k1
          rw [f_X12_stays_18]
          refine ⟨t1, _, _, ?_, a2, a3⟩
          by_cases c9 : 99 < i + 1
          · rw [if_pos c9]
          · rw [if_neg c9, if_neg (by omega)]
theorem k_stays (h : IV s t) (b : Int) : Sim (f_X11_stays 0 b s) (f_X12_stays 0 b t) := by
  obtain ⟨lw, hh⟩ := h.hw
  unfold f_X11_stays f_X12_stays
  simp only [Nat.zero_add, Nat.reduceAdd]
  rw [bd_e (e_afloat h.nr h.wn b), bd_e (e_isAfloat h.wn b), bI_z, bI_z]
  by_cases c : afl (t 1) b
  · obtain ⟨e1, e2, e3⟩ := th_begin h.nr
    obtain ⟨s1, a1, a2⟩ := c_lb hh (b := b) 99 FU 1 _ (t 1) (fu_lt (by omega)) (by decide) (by decide) e2 (WT.rf h.wn) e3
    have ec : f_X8_lostBehind 133 1 b s = some (sLB lw b 99 1 (t 1), s1) := by
      unfold f_X8_lostBehind
      rw [bd_e e1, gd_t isN137, jn_s, e137]
      exact a1
    obtain ⟨t1, l1, l2⟩ := m_lays (t := t)
    obtain ⟨t2, w1, k1, b1, b2, b3⟩ := m_lb (t0 := t) (k := fun (v6 : Int) (s7 : Mem) => bd (f_X12_putsBack 0 s7) fun r8 s9 => some (v6, s9)) hh (b := b) 99 FU 1 t1 (t 1) (by decide) (by decide) (by decide) l2 (WT.rf h.wn)
    obtain ⟨t3, d1, d2, d3, d4⟩ := m_back b2 b3
    rw [if_pos c, if_pos c, bd_e ec, bd_e l1, jn_s, b1, bd_e d1]
    exact Sim.rf (th_end h a2 d2 d3 d4) _
  · rw [if_neg c, if_neg c]
    exact Sim.rf h _
/-! keeps -/
def sKB (lw : List Lin) (m : Int) : Nat → Int → (Int → Int) → Int
  | 0, _, _ => -1
  | j + 1, i, w => if sHad w < m then sKB lw m j (i + 1) (sHour 0 w lw) else i
theorem c_kb (hh : HW s0 w0 lw) {m : Int} : ∀ (j fu : Nat) (i : Int) (s : Mem) (w : Int → Int), j < fu → 0 ≤ i → i + j = 100 → NR s 137 w → WT w0 w i → FrT s0 s → ∃ s1 : Mem, f_X8_hadBehind_9 1 m 137 (fun s4 => some (-1, s4)) fu i s = some (sKB lw m j i w, s1) ∧ FrT s0 s1 := by
  intro j
  induction j with
  | zero =>
    intro fu i s w h1 h2 h3 h4 h5 h6
    cases fu with
    | zero => exact absurd h1 (Nat.not_lt_zero _)
    | succ fu =>
      rw [f_X8_hadBehind_9, if_pos (by omega)]
      exact ⟨s, rfl, h6⟩
  | succ j ih =>
    intro fu i s w h1 h2 h3 h4 h5 h6
    cases fu with
    | zero => exact absurd h1 (Nat.not_lt_zero _)
    | succ fu =>
      obtain ⟨r, s1, a1, a2, a3, a4, a5⟩ := th_pass hh (n := 137) (by decide) (k := i) (by omega) h4 h5 h6
      rw [f_X8_hadBehind_9, if_neg (by omega), bd_e (c_had h4 h5.2.2)]
      have hs : sKB lw m (j + 1) i w = if sHad w < m then sKB lw m j (i + 1) (sHour 0 w lw) else i := rfl
      rw [hs]
      by_cases c : sHad w < m
      · rw [if_pos c, if_pos c, bd_e a1, wr_n (x := i + 1) (by omega)]
        exact ih fu (i + 1) s1 _ (by omega) (by omega) (by omega) a2 a3 a4
      · rw [if_neg c, if_neg c]
        exact ⟨s, rfl, h6⟩
theorem m_kb (hh : HW s0 (t0 1) lw) {m : Int} {k : Int → Mem → Res} : ∀ (j fu : Nat) (i : Int) (t : Mem) (w : Int → Int), j < fu → 0 ≤ i → i + j = 99 → TM t0 t w → WT (t0 1) w i → ∃ (t1 : Mem) (w1 : Int → Int) (k1 : Int), f_X12_keeps_33 0 m k fu (if sHad w < m then -1 else i) (i + 1) t = k (sKB lw m (j + 1) i w) t1 ∧ TM t0 t1 w1 ∧ WT (t0 1) w1 k1 := by
  intro j
  induction j with
  | zero =>
    intro fu i t w h1 h2 h3 h4 h5
    cases fu with
    | zero => exact absurd h1 (Nat.not_lt_zero _)
    | succ fu =>
      rw [f_X12_keeps_33, if_pos (by omega)]
      exact ⟨t, w, _, rfl, h4, h5⟩
  | succ j ih =>
    intro fu i t w h1 h2 h3 h4 h5
    cases fu with
    | zero => exact absurd h1 (Nat.not_lt_zero _)
    | succ fu =>
      obtain ⟨r, t1, a1, a2⟩ := tm_pass hh (k := i) (by omega) h5 h4
      have a3 := WT_hour hh (k := i) (by omega) h5
      have ea := m_allArrows (t := t1) (by rw [a2.1]; exact a3.2.2)
      rw [a2.1] at ea
      have hs : sKB lw m (j + 1 + 1) i w = if sHad w < m then sKB lw m (j + 1) (i + 1) (sHour 0 w lw) else i := rfl
      rw [hs, f_X12_keeps_33, if_neg (by omega)]
      by_cases c : sHad w < m
      · rw [if_pos c, if_pos c, if_pos rfl, bd_e a1, bd_e ea, jn_s, wr_n (x := i + 1 + 1) (by omega)]
        have hr := ih fu (i + 1) t1 _ (by omega) (by omega) (by omega) a2 a3
        by_cases c2 : sHad (sHour 0 w lw) < m
        · rw [if_pos c2] at hr ⊢
          exact hr
        · rw [if_neg c2] at hr ⊢
          exact hr
      · rw [if_neg c, if_neg c, if_neg (by omega)]
        exact ⟨t, w, _, rfl, h4, h5⟩
theorem k_keeps (h : IV s t) (m : Int) : Sim (f_X11_keeps 0 m s) (f_X12_keeps 0 m t) := by
  obtain ⟨lw, hh⟩ := h.hw
  unfold f_X11_keeps f_X12_keeps
  simp only [Nat.zero_add, Nat.reduceAdd]
  rw [bd_e (e_within _ _ _ _), bd_e (e_isIn _ _ _ _), bI_z, bI_z]
  by_cases c : 1 ≤ m ∧ m ≤ 9999
  · obtain ⟨e1, e2, e3⟩ := th_begin h.nr
    obtain ⟨s1, a1, a2⟩ := c_kb hh (m := m) 100 FU 0 _ (t 1) (fu_lt (by omega)) (by decide) (by decide) e2 (WT.rf h.wn) e3
    have ec : f_X8_hadBehind 133 1 m s = some (sKB lw m 100 0 (t 1), s1) := by
      unfold f_X8_hadBehind
      rw [bd_e e1, gd_t isN137, jn_s, e137]
      exact a1
    obtain ⟨t1, l1, l2⟩ := m_lays (t := t)
    have ea := m_allArrows (t := t1) (by rw [l2.1]; exact h.wn)
    rw [l2.1] at ea
    obtain ⟨t2, w1, k1, b1, b2, b3⟩ := m_kb (t0 := t) (k := fun (v9 : Int) (s10 : Mem) => bd (f_X12_putsBack 0 s10) fun r11 s12 => some (v9, s12)) hh (m := m) 99 FU 0 t1 (t 1) (by decide) (by decide) (by decide) l2 (WT.rf h.wn)
    have e01 : (0 : Int) + 1 = 1 := rfl
    have e99 : (99 + 1 : Nat) = 100 := rfl
    rw [e01, e99] at b1
    obtain ⟨t3, d1, d2, d3, d4⟩ := m_back b2 b3
    rw [if_pos c, if_pos c, bd_e ec, bd_e l1, bd_e ea, jn_s]
    have fin : Sim (some (sKB lw m 100 0 (t 1), s1)) (f_X12_keeps_33 0 m (fun (v9 : Int) (s10 : Mem) => bd (f_X12_putsBack 0 s10) fun r11 s12 => some (v9, s12)) FU (if sHad (t 1) < m then -1 else 0) 1 t1) := by
      rw [b1, bd_e d1]
      exact Sim.rf (th_end h a2 d2 d3 d4) _
    by_cases c2 : sHad (t 1) < m
    · rw [if_pos c2] at fin ⊢
      exact fin
    · rw [if_neg c2] at fin ⊢
      exact fin
  · rw [if_neg c, if_neg c]
    exact Sim.rf h _
end

/-! ===== L3: an HOUR: its parts in turn ===== -/
def sPlans (real : Int) : Nat → Int → (Int → Int) → (Int → Int)
  | 0, _, w => w
  | j + 1, i, w => sPlans real j (i + 1) (if w (133 + 4 * i) = w 0 then sDo real w (133 + 4 * i) else w)
def sDrifts (by_ : Int) : Nat → Int → (Int → Int) → (Int → Int)
  | 0, _, w => w
  | j + 1, b, w => sDrifts by_ j (b + 1) (if afl w b then up w (7 + b) (mmx 0 (mmn 15 (wr (w (7 + b) + by_)))) else w)
def sShots (real : Int) (lw : List Lin) : Nat → Int → Int → (Int → Int) → Int × (Int → Int)
  | 0, _, m, w => (m, w)
  | j + 1, b, m, w => if afl w b then sShots real lw j (b + 1) (wr (m + sMore w lw b)) (sW4 real w lw b) else sShots real lw j (b + 1) m w
def sFogs (w : Int → Int) : Int → Int :=
  if sDrawn w 4 = 0 then up (up w 5 (sDrew w)) 1 (mmx 0 (w 1 - 1)) else if sDrawn w 4 = 1 then up (up w 5 (sDrew w)) 1 (mmn 9 (w 1 + 1)) else up w 5 (sDrew w)
def sEnd (real : Int) (w : Int → Int) (lw : List Lin) : Int → Int := up (up w 3 (mmx 0 (w 3 - sFade w lw))) 0 (w 0 + 1)
def sBeg (real : Int) (w : Int → Int) : Int → Int := sPlans real (w 61).toNat 0 w
def sMid (real : Int) (w : Int → Int) : Int → Int := sDrifts (sCur (sBeg real w) ((sBeg real w 0).tmod 24)) (w 58).toNat 0 (sBeg real w)
def sShot2 (real : Int) (w : Int → Int) (lw : List Lin) : Int × (Int → Int) := sShots real lw (w 58).toNat 0 0 (sMid real w)
def sHour (real : Int) (w : Int → Int) (lw : List Lin) : Int → Int := sEnd real (if real = 0 then (sShot2 real w lw).2 else sFogs (sShot2 real w lw).2) lw
theorem WN_do {real : Int} {w : Int → Int} (hw : WN w) {l : Int} (h12 : w (l + 1) = 12 → 0 ≤ w (l + 2) ∧ w (l + 2) ≤ 9) (h14 : w (l + 1) ≠ 11 → w (l + 1) ≠ 12 → w (l + 1) ≠ 13 → 0 ≤ w (l + 3) ∧ w (l + 3) ≤ 15) : WN (sDo real w l) := by
  unfold sDo
  by_cases c1 : w (l + 1) = 12
  · rw [if_pos c1]
    exact hw.u_drums (h12 c1)
  · rw [if_neg c1]
    by_cases c2 : afl w (w (l + 2))
    · have hb := afl_10 hw c2
      rw [if_pos c2]
      by_cases c3 : w (l + 1) = 11
      · rw [if_pos c3]
        exact WN_turn hw hb
      · rw [if_neg c3]
        by_cases c4 : w (l + 1) = 13
        · rw [if_pos c4]
          exact WN_home hw hb
        · rw [if_neg c4]
          exact WN_move hw hb (h14 c3 c1 c4)
    · rw [if_neg c2]
      exact hw
theorem St_do {real : Int} {w0 w : Int → Int} (h : St real w0 w) (hw : WN w) {l : Int} (h14 : w (l + 1) ≠ 11 → w (l + 1) ≠ 12 → w (l + 1) ≠ 13 → 0 ≤ w (l + 3) ∧ w (l + 3) ≤ 15) : St real w0 (sDo real w l) := by
  unfold sDo
  by_cases c1 : w (l + 1) = 12
  · rw [if_pos c1]
    exact h.up (by decide)
  · rw [if_neg c1]
    by_cases c2 : afl w (w (l + 2))
    · have hb := afl_10 hw c2
      rw [if_pos c2]
      by_cases c3 : w (l + 1) = 11
      · rw [if_pos c3]
        exact St_turn h hw hb
      · rw [if_neg c3]
        by_cases c4 : w (l + 1) = 13
        · rw [if_pos c4]
          exact St_home h hw hb
        · rw [if_neg c4]
          exact St_move h hw hb (h14 c3 c1 c4)
    · rw [if_neg c2]
      exact h
/-- what is told and stays during the night -/
def SC (s : Mem) (w : Int → Int) (lw : List Lin) : Prop := LawC s 12 lw ∧ CurC s 19 w ∧ PlanC s 22 w
theorem CurC.of {s s' : Mem} {w w' : Int → Int} {a : Nat} (h : CurC s a w) (q : ∀ c : Nat, a ≤ c → c ≤ a + 2 → s' c = s c) (q2 : ∀ i : Int, i = 60 ∨ (101 ≤ i ∧ i < 133) → w' i = w i) (h16 : w 60 ≤ 16) : CurC s' a w' := by
  unfold CurC at h ⊢
  rw [q a (by omega) (by omega), q (a + 1) (by omega) (by omega), q (a + 2) (by omega) (by omega), q2 60 (Or.inl rfl)]
  refine ⟨h.1, fun i h1 h2 => ?_⟩
  rw [q2 _ (Or.inr (by omega)), q2 _ (Or.inr (by omega))]
  exact h.2 i h1 h2
theorem PlanC.of {s s' : Mem} {w w' : Int → Int} {a : Nat} (h : PlanC s a w) (q : ∀ c : Nat, a ≤ c → c ≤ a + 4 → s' c = s c) (q2 : ∀ i : Int, i = 61 ∨ (133 ≤ i ∧ i < 197) → w' i = w i) (h16 : w 61 ≤ 16) : PlanC s' a w' := by
  unfold PlanC at h ⊢
  rw [q a (by omega) (by omega), q (a + 1) (by omega) (by omega), q (a + 2) (by omega) (by omega), q (a + 3) (by omega) (by omega), q (a + 4) (by omega) (by omega), q2 61 (Or.inl rfl)]
  refine ⟨h.1, fun i h1 h2 => ?_⟩
  rw [q2 _ (Or.inr (by omega)), q2 _ (Or.inr (by omega)), q2 _ (Or.inr (by omega)), q2 _ (Or.inr (by omega))]
  exact h.2 i h1 h2
theorem WC.of {w w' : Int → Int} (h : WC w) (q2 : ∀ i : Int, i = 60 ∨ (101 ≤ i ∧ i < 133) → w' i = w i) : WC w' := by
  unfold WC at h ⊢
  rw [q2 60 (Or.inl rfl)]
  refine ⟨h.1, fun i h1 h2 => ?_⟩
  have := h.1
  rw [q2 _ (Or.inr (by omega)), q2 _ (Or.inr (by omega))]
  exact h.2 i h1 h2
theorem WPl.of {w w' : Int → Int} (h : WPl w) (q2 : ∀ i : Int, i = 61 ∨ (133 ≤ i ∧ i < 197) → w' i = w i) : WPl w' := by
  unfold WPl at h ⊢
  rw [q2 61 (Or.inl rfl)]
  refine ⟨h.1, fun i h1 h2 => ?_⟩
  have := h.1
  rw [q2 _ (Or.inr (by omega)), q2 _ (Or.inr (by omega)), q2 _ (Or.inr (by omega))]
  exact h.2 i h1 h2
theorem St.c60 {real : Int} {w w' : Int → Int} (h : St real w w') : ∀ i : Int, i = 60 ∨ (101 ≤ i ∧ i < 133) → w' i = w i := fun i hi => h i (by omega) (by omega)
theorem St.c61 {real : Int} {w w' : Int → Int} (h : St real w w') : ∀ i : Int, i = 61 ∨ (133 ≤ i ∧ i < 197) → w' i = w i := fun i hi => h i (by omega) (by omega)
/-- along the way of an HOUR in the class -/
def HB (real : Int) (s0 s : Mem) (n : Nat) (w0 w : Int → Int) : Prop := NB real s n w ∧ WN w ∧ FrH s0 s n real ∧ St real w0 w
section
variable {s0 : Mem} {n : Nat} {w0 : Int → Int} {lw : List Lin} {real : Int}
theorem SC.fr {s : Mem} {w : Int → Int} (h : SC s0 w0 lw) (hn : n = 2 ∨ 137 ≤ n) (hC : WC w0) (hP : WPl w0) (f : FrH s0 s n real) (hs : St real w0 w) : SC s w lw :=
  ⟨h.1.fr hn f, h.2.1.of (fun c h1 h2 => f c (by omega) (by omega) (by omega) (Or.inr (by omega))) hs.c60 hC.1.2, h.2.2.of (fun c h1 h2 => f c (by omega) (by omega) (by omega) (Or.inr (by omega))) hs.c61 hP.1.2⟩
theorem c_follow {s : Mem} {w : Int → Int} (h : HB real s0 s n w0 w) (hn : n = 2 ∨ 137 ≤ n) (hS : SC s w lw) (hP : WPl w) {i : Int} (hi : 0 ≤ i ∧ i < w 61) : ∃ s1 : Mem, f_X10_follow 1 n i real s = some (0, s1) ∧ HB real s0 s1 n w0 (sDo real w (133 + 4 * i)) := by
  obtain ⟨hB, hw, hF, hSt⟩ := h
  have h16 := hP.1
  obtain ⟨g1, g2, g3⟩ := hP.2 i hi.1 hi.2
  obtain ⟨p1, p2, p3, p4, p5⟩ := hS.2.2.2 i hi.1 hi.2
  have e1 : s (1 + 21 + 2) i = actC (w (133 + 4 * i + 1)) := p2
  have e4 : ∀ v : Int, s (22 + 4) i = v → s (1 + 21 + 4) i = v := fun v q => q
  have e3 : ∀ v : Int, s (22 + 3) i = v → s (1 + 21 + 3) i = v := fun v q => q
  have wn : WN (sDo real w (133 + 4 * i)) := WN_do hw g2 (fun q1 q2 q3 => g3 (by omega))
  have st : St real w0 (sDo real w (133 + 4 * i)) := St_do hSt hw (fun q1 q2 q3 => g3 (by omega))
  suffices hx : ∃ s1 : Mem, f_X10_follow 1 n i real s = some (0, s1) ∧ NB real s1 n (sDo real w (133 + 4 * i)) ∧ FrH s s1 n real by
    obtain ⟨s1, a1, a2, a3⟩ := hx
    exact ⟨s1, a1, a2, wn, hF.tr a3, st⟩
  have G : 0 ≤ i ∧ i < 16 := by omega
  unfold f_X10_follow sDo
  rw [gd_t G, gd_t G, e1]
  by_cases c1 : w (133 + 4 * i + 1) = 12
  · have ea : actC (w (133 + 4 * i + 1)) = 1 := by rw [c1]; rfl
    rw [if_pos ea, if_pos c1, gd_t G, lm_s, e4 _ (p4 c1)]
    exact ⟨_, rfl, NB.u hB hn (by omega) (hB.1.u_drums _) (fun k _ _ => up_ne (by omega)), (FrH.rf s n real).up (by omega)⟩
  · have ea : ¬ actC (w (133 + 4 * i + 1)) = 1 := by
      unfold actC
      rcases (show w (133 + 4 * i + 1) = 11 ∨ w (133 + 4 * i + 1) = 13 ∨ w (133 + 4 * i + 1) = 14 by omega) with q | q | q
      · rw [q]; decide
      · rw [q]; decide
      · rw [q]; decide
    rw [if_neg ea, if_neg c1, e3 _ (p3 c1), bd_e (e_afloat hB.1 hw _), bI_z]
    by_cases c2 : afl w (w (133 + 4 * i + 2))
    · have hb := afl_10 hw c2
      rw [if_pos c2, if_pos c2, gd_t G, e1]
      by_cases c3 : w (133 + 4 * i + 1) = 11
      · have eb : actC (w (133 + 4 * i + 1)) = 21 := by rw [c3]; rfl
        rw [if_pos eb, if_pos c3]
        obtain ⟨s1, a1, a2, a3⟩ := c_turnAbout hB hw hn hb
        rw [bd_e a1]
        exact ⟨s1, rfl, a2, a3⟩
      · by_cases c4 : w (133 + 4 * i + 1) = 13
        · have eb : actC (w (133 + 4 * i + 1)) = 22 := by rw [c4]; rfl
          rw [eb, if_neg (by decide), if_pos rfl, if_neg c3, if_pos c4]
          obtain ⟨s1, a1, a2, a3⟩ := c_bringHome hB hw hn hb
          rw [bd_e a1]
          exact ⟨s1, rfl, a2, a3⟩
        · have c5 : w (133 + 4 * i + 1) = 14 := by omega
          have eb : actC (w (133 + 4 * i + 1)) = 23 := by rw [c5]; rfl
          rw [eb, if_neg (by decide), if_neg (by decide), if_neg c3, if_neg c4, gd_t G, e4 _ (p5 c5)]
          obtain ⟨s1, a1, a2, a3⟩ := c_bringTo hB hw hn hb (g3 c5)
          rw [bd_e a1]
          exact ⟨s1, rfl, a2, a3⟩
    · rw [if_neg c2, if_neg c2]
      exact ⟨s, rfl, hB, FrH.rf s n real⟩
theorem c_plans {k : Mem → Res} {Q : Int → Mem → Prop} (hn : n = 2 ∨ 137 ≤ n) (hS : SC s0 w0 lw) (hC : WC w0) (hP : WPl w0) : ∀ (j fu : Nat) (i : Int) (s : Mem) (w : Int → Int), j < fu → 0 ≤ i → i + j = w0 61 → HB real s0 s n w0 w → (∀ s' : Mem, HB real s0 s' n w0 (sPlans real j i w) → wp (k s') Q) → wp (f_X10_pass_2 1 n real k fu i s) Q := by
  intro j
  induction j with
  | zero =>
    intro fu i s w hfu hi hj h hk
    have h61 : w 61 = w0 61 := h.2.2.2.c61 61 (Or.inl rfl)
    have e22 : s (1 + 21) 4 = w 61 := (hS.fr hn hC hP h.2.2.1 h.2.2.2).2.2.1
    cases fu with
    | zero => exact absurd hfu (Nat.not_lt_zero _)
    | succ fu =>
      rw [f_X10_pass_2, e22, if_neg (by omega)]
      exact hk s h
  | succ j ih =>
    intro fu i s w hfu hi hj h hk
    have h16 := hP.1
    have h61 : w 61 = w0 61 := h.2.2.2.c61 61 (Or.inl rfl)
    have hS' := hS.fr hn hC hP h.2.2.1 h.2.2.2
    have hP' : WPl w := hP.of h.2.2.2.c61
    have e22 : s (1 + 21) 4 = w 61 := hS'.2.2.1
    have e23 : s (1 + 21 + 1) i = w (133 + 4 * i) := (hS'.2.2.2 i hi (by omega)).1
    cases fu with
    | zero => exact absurd hfu (Nat.not_lt_zero _)
    | succ fu =>
      rw [f_X10_pass_2, e22, if_pos (by omega), gd_t (by omega), jn_s, e23, h.1.1.hour, wr_n (x := i + 1) (by omega)]
      have hs : sPlans real (j + 1) i w = sPlans real j (i + 1) (if w (133 + 4 * i) = w 0 then sDo real w (133 + 4 * i) else w) := rfl
      rw [hs] at hk
      by_cases c : w (133 + 4 * i) = w 0
      · rw [if_pos c] at hk ⊢
        obtain ⟨s1, a1, a2⟩ := c_follow h hn hS' hP' (i := i) (by omega)
        rw [bd_e a1]
        exact ih fu (i + 1) s1 _ (by omega) (by omega) (by omega) a2 hk
      · rw [if_neg c] at hk ⊢
        exact ih fu (i + 1) s w (by omega) (by omega) (by omega) h hk
theorem c_drift_l {k : Mem → Res} {Q : Int → Mem → Prop} {v : Int} (hn : n = 2 ∨ 137 ≤ n) (hv : -5 ≤ v ∧ v ≤ 5) (h58 : 0 ≤ w0 58 ∧ w0 58 ≤ 10) : ∀ (j fu : Nat) (b : Int) (s : Mem) (w : Int → Int), j < fu → 0 ≤ b → b + j = w0 58 → HB real s0 s n w0 w → (∀ s' : Mem, HB real s0 s' n w0 (sDrifts v j b w) → wp (k s') Q) → wp (f_X4_drift_2 n v k fu b s) Q := by
  intro j
  induction j with
  | zero =>
    intro fu b s w hfu hi hj h hk
    have hw58 : w 58 = w0 58 := h.2.2.2 58 (by decide) (Or.inr (Or.inl (by decide)))
    cases fu with
    | zero => exact absurd hfu (Nat.not_lt_zero _)
    | succ fu =>
      rw [f_X4_drift_2, h.1.1.boats, if_neg (by omega)]
      exact hk s h
  | succ j ih =>
    intro fu b s w hfu hi hj h hk
    have hw58 : w 58 = w0 58 := h.2.2.2 58 (by decide) (Or.inr (Or.inl (by decide)))
    cases fu with
    | zero => exact absurd hfu (Nat.not_lt_zero _)
    | succ fu =>
      rw [f_X4_drift_2, h.1.1.boats, if_pos (by omega), bd_e (e_afloat h.1.1 h.2.1 b), jn_s, bI_z, wr_n (x := b + 1) (by omega)]
      have hs : sDrifts v (j + 1) b w = sDrifts v j (b + 1) (if afl w b then up w (7 + b) (mmx 0 (mmn 15 (wr (w (7 + b) + v)))) else w) := rfl
      rw [hs] at hk
      by_cases c : afl w b
      · have hb : 0 ≤ b ∧ b < 10 := by omega
        rw [if_pos c] at hk ⊢
        rw [gd_t hb, gd_t hb, lm_s, h.1.1.reach hb]
        exact ih fu (b + 1) _ _ (by omega) (by omega) (by omega) ⟨NB.u h.1 hn (by omega) (h.1.1.u_reach hb _) (fun k _ _ => up_ne (by omega)), h.2.1.u_reach hb (mm_in (by decide)), h.2.2.1.up (by omega), h.2.2.2.up (by omega)⟩ hk
      · rw [if_neg c] at hk ⊢
        exact ih fu (b + 1) s w (by omega) (by omega) (by omega) h hk
theorem c_drift {s : Mem} {w : Int → Int} {v : Int} (hn : n = 2 ∨ 137 ≤ n) (hv : -5 ≤ v ∧ v ≤ 5) (h : HB real s0 s n w0 w) : ∃ s1 : Mem, f_X4_drift n v s = some (0, s1) ∧ HB real s0 s1 n w0 (sDrifts v (w0 58).toNat 0 w) := by
  have h58 := h.2.1.boats
  have hw58 : w 58 = w0 58 := h.2.2.2 58 (by decide) (Or.inr (Or.inl (by decide)))
  have hx : wp (f_X4_drift n v s) (fun r s1 => r = 0 ∧ HB real s0 s1 n w0 (sDrifts v (w0 58).toNat 0 w)) := by
    unfold f_X4_drift
    rw [jn_s]
    exact c_drift_l hn hv (by omega) (w0 58).toNat FU 0 s w (fu_lt (by omega)) (by omega) (by omega) h (fun s' h' => wp_s ⟨rfl, h'⟩)
  obtain ⟨r, s1, a1, a2, a3⟩ := hx
  exact ⟨s1, by rw [a1, a2], a3⟩
theorem c_shots {k : Int → Mem → Res} {Q : Int → Mem → Prop} (hn : n = 2 ∨ 137 ≤ n) (hS : SC s0 w0 lw) (hC : WC w0) (hP : WPl w0) (hO : OkW lw) (h58 : 0 ≤ w0 58 ∧ w0 58 ≤ 10) : ∀ (j fu : Nat) (b m : Int) (s : Mem) (w : Int → Int), j < fu → 0 ≤ b → b + j = w0 58 → HB real s0 s n w0 w → (∀ s' : Mem, HB real s0 s' n w0 (sShots real lw j b m w).2 → wp (k (sShots real lw j b m w).1 s') Q) → wp (f_X10_pass_65 1 n real k fu m b s) Q := by
  intro j
  induction j with
  | zero =>
    intro fu b m s w hfu hi hj h hk
    have hw58 : w 58 = w0 58 := h.2.2.2 58 (by decide) (Or.inr (Or.inl (by decide)))
    cases fu with
    | zero => exact absurd hfu (Nat.not_lt_zero _)
    | succ fu =>
      rw [f_X10_pass_65, h.1.1.boats, if_neg (by omega)]
      exact hk s h
  | succ j ih =>
    intro fu b m s w hfu hi hj h hk
    have hw58 : w 58 = w0 58 := h.2.2.2 58 (by decide) (Or.inr (Or.inl (by decide)))
    cases fu with
    | zero => exact absurd hfu (Nat.not_lt_zero _)
    | succ fu =>
      rw [f_X10_pass_65, h.1.1.boats, if_pos (by omega), bd_e (e_afloat h.1.1 h.2.1 b), jn_s, bI_z, wr_n (x := b + 1) (by omega)]
      have hs : sShots real lw (j + 1) b m w = if afl w b then sShots real lw j (b + 1) (wr (m + sMore w lw b)) (sW4 real w lw b) else sShots real lw j (b + 1) m w := rfl
      rw [hs] at hk
      by_cases c : afl w b
      · have hb : 0 ≤ b ∧ b < 10 := by omega
        rw [if_pos c] at hk ⊢
        obtain ⟨s1, a1, a2, a3⟩ := c_shoot h.1 h.2.1 hn (hS.1.fr hn h.2.2.1) hO c.1
        rw [bd_e a1]
        exact ih fu (b + 1) _ s1 _ (by omega) (by omega) (by omega) ⟨a2, WN_w4 h.2.1 lw hb, h.2.2.1.tr a3, St_w4 h.2.2.2 h.2.1 lw hb⟩ hk
      · rw [if_neg c] at hk ⊢
        exact ih fu (b + 1) m s w (by omega) (by omega) (by omega) h hk
theorem WN_fogs {w : Int → Int} (hw : WN w) : WN (sFogs w) := by
  have h1 := hw.fog
  have hd := hw.u_draws (v := sDrew w) (inr_wr _)
  unfold sFogs
  repeat' split
  · exact hd.u_fog (by unfold mmx; split <;> omega)
  · exact hd.u_fog (by unfold mmn; split <;> omega)
  · exact hd
theorem St_fogs {real : Int} {w0 w : Int → Int} (h : St real w0 w) : St real w0 (sFogs w) := by
  have hd := h.up (i := 5) (v := sDrew w) (by decide)
  unfold sFogs
  repeat' split
  · exact hd.up (by decide)
  · exact hd.up (by decide)
  · exact hd
theorem c_fogs {s : Mem} {w : Int → Int} (hn : n = 2 ∨ 137 ≤ n) (h : HB real s0 s n w0 w) : ∃ s1 : Mem, f_X4_fogMoves n s = some (0, s1) ∧ HB real s0 s1 n w0 (sFogs w) := by
  obtain ⟨hB, hw, hF, hSt⟩ := h
  have hfog := hw.fog
  suffices hx : ∃ s1 : Mem, f_X4_fogMoves n s = some (0, s1) ∧ NB real s1 n (sFogs w) ∧ FrH s s1 n real by
    obtain ⟨s1, a1, a2, a3⟩ := hx
    exact ⟨s1, a1, a2, WN_fogs hw, hF.tr a3, St_fogs hSt⟩
  obtain ⟨s1, a1, a2, a3⟩ := c_draw (m := 4) hB hn (by decide)
  unfold f_X4_fogMoves sFogs
  rw [bd_e a1]
  by_cases c1 : sDrawn w 4 = 0
  · rw [if_pos c1, if_pos c1, lm_s, a2.1.fog, up_ne (by decide), wr_n (by omega)]
    exact ⟨_, rfl, NB.u a2 hn (by omega) (a2.1.u_fog _) (fun k _ _ => up_ne (by omega)), a3.up (by omega)⟩
  · rw [if_neg c1, if_neg c1]
    by_cases c2 : sDrawn w 4 = 1
    · rw [if_pos c2, if_pos c2, lm_s, a2.1.fog, up_ne (by decide), wr_n (by omega)]
      exact ⟨_, rfl, NB.u a2 hn (by omega) (a2.1.u_fog _) (fun k _ _ => up_ne (by omega)), a3.up (by omega)⟩
    · rw [if_neg c2, if_neg c2]
      exact ⟨s1, rfl, a2, a3⟩
theorem sFade_in (w : Int → Int) (lw : List Lin) : 0 ≤ sFade w lw ∧ sFade w lw ≤ 99 := mm_in (by decide)
theorem WN_end {w : Int → Int} (hw : WN w) (h0 : w 0 ≤ 19999) : WN (sEnd real w lw) := by
  have h1 := hw.alarm
  have h2 := hw.hour
  have h3 := sFade_in w lw
  exact (hw.u_alarm (by unfold mmx; split <;> omega)).u_hour (by omega)
theorem sEnd_hi {w : Int → Int} {i : Int} (hi : i < 0 ∨ 4 ≤ i) : sEnd real w lw i = w i := by
  unfold sEnd
  rw [up_ne (by omega), up_ne (by omega)]
theorem sEnd_0 {w : Int → Int} : sEnd real w lw 0 = w 0 + 1 := by
  unfold sEnd
  rw [up_eq rfl]
theorem sCur_in {w : Int → Int} (hW : WC w) (h : Int) : -5 ≤ sCur w h ∧ sCur w h ≤ 5 := by
  have h16 := hW.1
  unfold sCur
  by_cases c : sCurB w h = -1
  · rw [if_pos c]
    omega
  · rw [if_neg c]
    have hb : 0 ≤ sCurB w h ∧ sCurB w h < w 60 := by
      have q1 := sLat_in w h (w 60).toNat 0 (-1) (by omega) (Or.inl rfl)
      have q2 := sLat_in w 24 (w 60).toNat 0 (-1) (by omega) (Or.inl rfl)
      unfold sCurB at c ⊢
      by_cases c2 : sLat w h (w 60).toNat 0 (-1) = -1
      · rw [if_pos c2] at c ⊢
        omega
      · rw [if_neg c2] at c ⊢
        omega
    exact (hW.2 _ hb.1 hb.2).2
/-- an HOUR, in the class -/
theorem c_pass {s : Mem} {w : Int → Int} (hn : n = 2 ∨ 137 ≤ n) (hB : NB real s n w) (hw : WN w) (hS : SC s w lw) (hC : WC w) (hP : WPl w) (hO : OkW lw) (h0 : w 0 ≤ 19999) :
    ∃ s1 : Mem, f_X10_pass 1 n real s = some ((sShot2 real w lw).1, s1) ∧ NB real s1 n (sHour real w lw) ∧ WN (sHour real w lw) ∧ FrH s s1 n real ∧ (∀ i : Int, (i < 0 ∨ 57 ≤ i) → (real = 0 ∨ i < 248 ∨ 848 ≤ i) → sHour real w lw i = w i) ∧ sHour real w lw 0 = w 0 + 1 := by
  have h58 := hw.boats
  have h61 := hP.1
  suffices hx : wp (f_X10_pass 1 n real s) (fun r s1 => r = (sShot2 real w lw).1 ∧ NB real s1 n (sHour real w lw) ∧ WN (sHour real w lw) ∧ FrH s s1 n real ∧ (∀ i : Int, (i < 0 ∨ 57 ≤ i) → (real = 0 ∨ i < 248 ∨ 848 ≤ i) → sHour real w lw i = w i) ∧ sHour real w lw 0 = w 0 + 1) by
    obtain ⟨r, s1, a1, a2, a3⟩ := hx
    exact ⟨s1, by rw [a1, a2], a3⟩
  have fin : ∀ (s4 : Mem) (w4 : Int → Int) (m : Int), HB real s s4 n w w4 → m = (sShot2 real w lw).1 → w4 = (if real = 0 then (sShot2 real w lw).2 else sFogs (sShot2 real w lw).2) →
      wp (bd (f_X2_tells (1 + 11) 13 n (-1) s4) fun r10 s11 => lm (mup s11 n 10 (mmx 0 (wr ((s4 n 10) - r10)))) fun s12 => lm (mup s12 n 14 (wr ((s12 n 14) + 1))) fun s13 => some (m, s13)) (fun r s1 => r = (sShot2 real w lw).1 ∧ NB real s1 n (sHour real w lw) ∧ WN (sHour real w lw) ∧ FrH s s1 n real ∧ (∀ i : Int, (i < 0 ∨ 57 ≤ i) → (real = 0 ∨ i < 248 ∨ 848 ≤ i) → sHour real w lw i = w i) ∧ sHour real w lw 0 = w 0 + 1) := by
    intro s4 w4 m h4 hm hw4
    obtain ⟨s5, a1, o5⟩ := e_fade h4.1.1 h4.2.1 hn (hS.1.fr hn h4.2.2.1) hO
    have n5 := h4.1.sc hn o5
    have f5 := h4.2.2.1.sc o5
    have ha := h4.2.1.alarm
    have hf := sFade_in w4 lw
    have e0 : w4 0 = w 0 := h4.2.2.2 0 (Or.inl (Int.le_refl 0)) (Or.inr (Or.inl (by decide)))
    have hh := h4.2.1.hour
    refine wp_be a1 ?_
    rw [h4.1.1.alarm, wr_n (by omega), lm_s]
    have n6 : NB real (mup s5 n 10 (mmx 0 (w4 3 - sFade w4 lw))) n (up w4 3 (mmx 0 (w4 3 - sFade w4 lw))) := NB.u n5 hn (by omega) (n5.1.u_alarm _) (fun k _ _ => up_ne (by omega))
    rw [n6.1.hour, up_ne (by decide), wr_n (by omega), lm_s]
    have n7 : NB real (mup (mup s5 n 10 (mmx 0 (w4 3 - sFade w4 lw))) n 14 (w4 0 + 1)) n (sEnd real w4 lw) := NB.u n6 hn (by omega) (n6.1.u_hour _) (fun k _ _ => up_ne (by omega))
    have eh : sHour real w lw = sEnd real w4 lw := by
      unfold sHour
      rw [← hw4]
    rw [eh]
    refine wp_s ⟨hm, n7, WN_end h4.2.1 (by omega), (f5.up (by omega)).up (by omega), fun i g1 g2 => ?_, ?_⟩
    · rw [sEnd_hi (by omega)]
      exact h4.2.2.2 i (by omega) g2
    · rw [sEnd_0, e0]
  unfold f_X10_pass
  rw [jn_s]
  refine c_plans hn hS hC hP (w 61).toNat FU 0 s w (fu_lt (by omega)) (by omega) (by omega) ⟨hB, hw, FrH.rf s n real, St.rf real w⟩ (fun s1 hb => ?_)
  have eb : sPlans real (w 61).toNat 0 w = sBeg real w := rfl
  rw [eb] at hb
  refine wp_g (by decide) ?_
  rw [hb.1.1.hour]
  have hS1 := hS.fr hn hC hP hb.2.2.1 hb.2.2.2
  have hC1 : WC (sBeg real w) := hC.of hb.2.2.2.c60
  refine wp_be (c_goesAt hS1.2.1 hC1 _) ?_
  obtain ⟨s2, a2, hb2⟩ := c_drift hn (sCur_in hC1 ((sBeg real w 0).tmod 24)) hb
  refine wp_be a2 ?_
  have em : sDrifts (sCur (sBeg real w) ((sBeg real w 0).tmod 24)) (w 58).toNat 0 (sBeg real w) = sMid real w := rfl
  rw [em] at hb2
  rw [jn_s]
  refine c_shots hn hS hC hP hO (by omega) (w 58).toNat FU 0 0 s2 (sMid real w) (fu_lt (by omega)) (by omega) (by omega) hb2 (fun s3 hb3 => ?_)
  have es : sShots real lw (w 58).toNat 0 0 (sMid real w) = sShot2 real w lw := rfl
  rw [es] at hb3 ⊢
  rw [jn_s]
  refine wp_i (fun c => ?_) (fun c => ?_)
  · exact fin s3 (sShot2 real w lw).2 (sShot2 real w lw).1 hb3 rfl (by rw [if_pos c])
  · obtain ⟨s4, a4, hb4⟩ := c_fogs hn hb3
    refine wp_be a4 ?_
    exact fin s4 (sFogs (sShot2 real w lw).2) (sShot2 real w lw).1 hb4 rfl (by rw [if_neg c])
end

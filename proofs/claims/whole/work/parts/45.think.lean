/-! ===== L3: in thought ===== -/
theorem IV.sct3 {s s' t t' : Mem} (h : IV s t) (hT' : ThC s') (q : ∀ c : Nat, c ≠ 17 → c ≠ 18 → c ≠ 34 → c ≠ 35 → ¬ (133 ≤ c ∧ c ≤ 235) → s' c = s c) (q1 : ∀ i : Int, 0 ≤ i → i < 1732 → t' 1 i = t 1 i) (q2 : ∀ c : Nat, c ≠ 0 → c ≠ 1 → c ≠ 4 → c < 9 → t' c = t c) (q0 : ∀ i : Int, i = 4 ∨ i = 5 ∨ i = 16 ∨ i = 23 ∨ i = 25 → t' 0 i = t 0 i) : IV s' t' := by
  have h' : IV s' (sr t' 1 (t 1)) := h.sct hT' q (fun c a0 a4 a9 => by
    by_cases e : c = 1
    · subst e
      rw [sr_e]
    · rw [sr_o e]
      exact q2 c a0 e a4 a9) (fun i hi => by rw [sr_o (by decide)]; exact q0 i hi)
  obtain ⟨⟨lw, hX, hW⟩, hI, hP, hR, hT⟩ := h'
  rw [sr_e] at hX hW hP
  rw [sr_o (by decide), sr_o (by decide)] at hP
  refine ⟨⟨lw, hX.cg hW q1, hW.cg q1⟩, ?_, ?_, ?_, hT⟩
  · exact hI.of rfl (by rw [sr_o (by decide)]) (by rw [sr_o (by decide)]) (fun _ _ _ => rfl)
  · exact hP.of (fun _ _ _ => rfl) (fun _ _ _ => rfl) (fun j hj => q1 j (by omega) (by omega))
  · exact hR.of rfl rfl (by rw [sr_o (by decide)]) (by rw [sr_o (by decide)]) (by rw [sr_o (by decide)]) (by rw [sr_o (by decide)])
def WT (w0 w : Int → Int) (k : Int) : Prop := (∀ i : Int, (i < 0 ∨ 57 ≤ i) → w i = w0 i) ∧ w 0 = w0 0 + k ∧ WN w
def FrT (s0 s : Mem) : Prop := ∀ c : Nat, c ≠ 17 → c ≠ 18 → ¬ (137 ≤ c ∧ c ≤ 235) → s c = s0 c
def TM (t0 t : Mem) (w : Int → Int) : Prop := t 1 = w ∧ t 0 = up (t0 0) 26 0 ∧ (∀ i : Int, 0 ≤ i → i < 57 → t 4 i = t0 1 i) ∧ ∀ c : Nat, c ≠ 0 → c ≠ 1 → c ≠ 4 → c ≠ 9 → c ≠ 10 → t c = t0 c
/-- what the hours rest on -/
def HW (s0 : Mem) (w0 : Int → Int) (lw : List Lin) : Prop := SC s0 w0 lw ∧ WC w0 ∧ WPl w0 ∧ OkW lw ∧ LawM w0 lw ∧ w0 0 ≤ 9999
theorem IV.hw {s t : Mem} (h : IV s t) : ∃ lw : List Lin, HW s (t 1) lw := by
  obtain ⟨lw, hX, hW⟩ := h.1
  exact ⟨lw, ⟨hX.2.2.1, hX.2.2.2.1, hX.2.2.2.2.1⟩, hW.2.2.2.2.1, hW.2.2.2.2.2.1, hW.2.2.2.1, hW.2.2.1, hW.2.1⟩
section
variable {s0 t0 : Mem} {w0 : Int → Int} {lw : List Lin}
theorem th_pass (hh : HW s0 w0 lw) {s : Mem} {w : Int → Int} {n : Nat} {k : Int} (hn : 137 ≤ n ∧ n ≤ 227) (hk : 0 ≤ k ∧ k ≤ 9000) (hN : NR s n w) (hw : WT w0 w k) (hF : FrT s0 s) : ∃ (r : Int) (s1 : Mem), f_X10_pass 1 n 0 s = some (r, s1) ∧ NR s1 n (sHour 0 w lw) ∧ WT w0 (sHour 0 w lw) (k + 1) ∧ FrT s0 s1 ∧ ∀ c : Nat, ¬ (n ≤ c ∧ c ≤ n + 8) → c ≠ 17 → c ≠ 18 → s1 c = s c := by
  obtain ⟨⟨c1, c2, c3⟩, c4, c5, c6, c7, c8⟩ := hh
  obtain ⟨w1, w2, w3⟩ := hw
  have sc : SC s w lw := ⟨c1.at (fun c q1 q2 => hF c (by omega) (by omega) (by omega)), c2.of (fun c q1 q2 => hF c (by omega) (by omega) (by omega)) (fun i hi => w1 i (by omega)) c4.1.2, c3.of (fun c q1 q2 => hF c (by omega) (by omega) (by omega)) (fun i hi => w1 i (by omega)) c5.1.2⟩
  obtain ⟨s1, a1, a2, a3, a4, a5, a6⟩ := c_pass (real := 0) (s := s) (w := w) (lw := lw) (n := n) (Or.inr hn.1) ⟨hN, fun z => absurd rfl z⟩ w3 sc (c4.of (fun i hi => w1 i (by omega))) (c5.of (fun i hi => w1 i (by omega))) c6 (by omega)
  refine ⟨_, s1, a1, a2.1, ⟨fun i g => (a5 i g (Or.inl rfl)).trans (w1 i g), by rw [a6]; omega, a3⟩, fun c g1 g2 g3 => ?_, fun c g1 g2 g3 => a4 c g1 g2 g3 (Or.inl rfl)⟩
  rw [a4 c (by omega) g1 g2 (Or.inl rfl)]
  exact hF c g1 g2 g3
/-- a memory that holds a night as it should -/
def artN (w : Int → Int) : Mem := fun a i => if a = 137 then (if i = 8 then w 58 else if i = 9 then w 5 else if i = 10 then w 3 else if i = 11 then w 1 else if i = 12 then w 2 else if i = 13 then w 57 else if i = 14 then w 0 else if i = 15 then w 4 else w 6) else if a = 138 then w (65 + i) else if a = 139 then w (75 + i) else if a = 140 then w (7 + i) else if a = 141 then w (17 + i) else if a = 142 then w (27 + i) else if a = 143 then w (37 + i) else if a = 144 then w (47 + i) else w (85 + i)
theorem artN_nr (w : Int → Int) : NR (artN w) 137 w := ⟨⟨rfl, rfl, rfl, rfl, rfl, rfl, rfl, rfl, rfl⟩, fun b _ _ => ⟨rfl, rfl, rfl, rfl, rfl, rfl, rfl⟩, fun r _ _ => rfl⟩
theorem WT_hour (hh : HW s0 w0 lw) {w : Int → Int} {k : Int} (hk : 0 ≤ k ∧ k ≤ 9000) (hw : WT w0 w k) : WT w0 (sHour 0 w lw) (k + 1) := by
  have hN : NR (fun a => if 137 ≤ a ∧ a ≤ 145 then artN w a else s0 a) 137 w := (artN_nr w).of (fun a h1 h2 => if_pos ⟨h1, h2⟩)
  obtain ⟨r, s1, a1, a2, a3, a4⟩ := th_pass hh (n := 137) (by decide) hk hN hw (fun c g1 g2 g3 => if_neg (by omega))
  exact a3
theorem tm_pass (hh : HW s0 (t0 1) lw) {t : Mem} {w : Int → Int} {k : Int} (hk : 0 ≤ k ∧ k ≤ 9000) (hw : WT (t0 1) w k) (hT : TM t0 t w) : ∃ (r : Int) (t1 : Mem), f_X12_anHour 0 t = some (r, t1) ∧ TM t0 t1 (sHour 0 w lw) := by
  obtain ⟨⟨c1, c2, c3⟩, c4, c5, c6, c7, c8⟩ := hh
  obtain ⟨w1, w2, w3⟩ := hw
  obtain ⟨m1, m2, m3, m4⟩ := hT
  obtain ⟨t1, b1, b2, b3⟩ := m_pass (t := t) (w := w) (lw := lw) m1 w3 (c7.of (fun i hi => w1 i (by omega))) (c4.of (fun i hi => w1 i (by omega))) (c5.of (fun i hi => w1 i (by omega))) c6 (by omega)
  have e26 : t 0 26 = 0 := by rw [m2, up_eq rfl]
  rw [e26] at b1 b2
  exact ⟨_, t1, b1, b2, by rw [b3 0 (by decide) (by decide) (by decide)]; exact m2, fun i g1 g2 => by rw [b3 4 (by decide) (by decide) (by decide)]; exact m3 i g1 g2, fun c a0 a1 a4 a9 a10 => (b3 c a1 a9 a10).trans (m4 c a0 a1 a4 a9 a10)⟩
theorem m_lays {t : Mem} : ∃ t1 : Mem, f_X12_lays 0 t = some (0, t1) ∧ TM t t1 (t 1) := by
  have q : ∀ k : Mem → Res, f_X12_lays_2 0 k FU 0 t = k (sr t 4 (fun i => if 0 + 0 ≤ i ∧ i < 0 + 57 then t 1 (0 + (i - 0)) else t 4 i)) := fun k => cpl (F := f_X12_lays_2 0 k) (k := k) (a := 4) (b := 1) (N := 57) (o := 0) (p := 0) (G := fun _ => True) (Or.inl (by decide)) (fun n x s hg h1 h2 => by
    rw [f_X12_lays_2, if_pos h2, gd_t (by omega), gd_t (by omega), lm_s, wr_n (x := x + 1) (by omega), Nat.zero_add, Nat.zero_add, Int.zero_add]) (fun n x s hg h1 => by
    rw [f_X12_lays_2, if_neg h1]) (fun s x v hg => trivial) 57 FU 0 t trivial (by decide) (by decide) (by decide)
  unfold f_X12_lays
  rw [jn_s, q, lm_s]
  refine ⟨_, rfl, ?_, ?_, fun i g1 g2 => ?_, fun c a0 a1 a4 _ _ => ?_⟩
  · rw [mup_o (by decide), sr_o (by decide)]
  · rw [mup_row, sr_o (by decide)]
  · rw [mup_o (by decide), sr_e, if_pos (by omega)]
    congr 1
    omega
  · rw [mup_o a0, sr_o a4]
theorem m_back {t : Mem} {w : Int → Int} {k : Int} (hT : TM t0 t w) (hw : WT (t0 1) w k) : ∃ t1 : Mem, f_X12_putsBack 0 t = some (0, t1) ∧ t1 1 = t0 1 ∧ t1 0 = up (t0 0) 26 0 ∧ ∀ c : Nat, c ≠ 0 → c ≠ 1 → c ≠ 4 → c ≠ 9 → c ≠ 10 → t1 c = t0 c := by
  obtain ⟨m1, m2, m3, m4⟩ := hT
  have q : ∀ k : Mem → Res, f_X12_putsBack_2 0 k FU 0 t = k (sr t 1 (fun i => if 0 + 0 ≤ i ∧ i < 0 + 57 then t 4 (0 + (i - 0)) else t 1 i)) := fun k => cpl (F := f_X12_putsBack_2 0 k) (k := k) (a := 1) (b := 4) (N := 57) (o := 0) (p := 0) (G := fun _ => True) (Or.inl (by decide)) (fun n x s hg h1 h2 => by
    rw [f_X12_putsBack_2, if_pos h2, gd_t (by omega), gd_t (by omega), lm_s, wr_n (x := x + 1) (by omega), Nat.zero_add, Nat.zero_add, Int.zero_add]) (fun n x s hg h1 => by
    rw [f_X12_putsBack_2, if_neg h1]) (fun s x v hg => trivial) 57 FU 0 t trivial (by decide) (by decide) (by decide)
  unfold f_X12_putsBack
  rw [jn_s, q]
  refine ⟨_, rfl, funext fun i => ?_, ?_, fun c a0 a1 a4 a9 a10 => ?_⟩
  · rw [sr_e]
    by_cases h : 0 ≤ i ∧ i < 57
    · rw [if_pos (by omega), m3 _ (by omega) (by omega)]
      congr 1
      omega
    · rw [if_neg (by omega), m1, hw.1 i (by omega)]
  · rw [sr_o (by decide)]
    exact m2
  · rw [sr_o a1]
    exact m4 c a0 a1 a4 a9 a10
theorem th_begin {s : Mem} {w : Int → Int} (hN : NR s 2 w) : f_X8_begin 133 1 s = some (137, cpN s 2 137) ∧ NR (cpN s 2 137) 137 w ∧ FrT s (cpN s 2 137) := by
  refine ⟨?_, hN.cp (by decide), fun c g1 g2 g3 => cpN_fr (by omega)⟩
  unfold f_X8_begin
  have e : (133 + 1) + 3 + 9 * (0 : Int).toNat = 137 := rfl
  have e1 : (1 + 1 : Nat) = 2 := rfl
  rw [gd_t (by decide), e, e1, bd_e (bec4_e (by decide)), gd_t (by decide)]
  rfl
theorem WT.rf {w : Int → Int} (h : WN w) : WT w w 0 := ⟨fun _ _ => rfl, by omega, h⟩
theorem isN137 : isN (137 : Int).toNat := by decide
/-- how a call in thought ends -/
theorem th_end {s t s1 t1 : Mem} (h : IV s t) (hF : FrT s s1) (q1 : t1 1 = t 1) (q0 : t1 0 = up (t 0) 26 0) (q2 : ∀ c : Nat, c ≠ 0 → c ≠ 1 → c ≠ 4 → c ≠ 9 → c ≠ 10 → t1 c = t c) : IV s1 t1 := by
  have hT := h.2.2.2.2
  refine h.sct3 ?_ (fun c a1 a2 _ _ a5 => hF c a1 a2 (by omega)) (fun i _ _ => by rw [q1]) (fun c a0 a1 a4 a9 => q2 c a0 a1 a4 (by omega) (by omega)) (fun i hi => by rw [q0, up_ne (by omega)])
  unfold ThC at hT ⊢
  rw [hF 133 (by decide) (by decide) (by decide)]
  exact hT
def sItr (lw : List Lin) : Nat → (Int → Int) → (Int → Int)
  | 0, w => w
  | j + 1, w => sItr lw j (sHour 0 w lw)
theorem th_itr {F : Nat → Int → Mem → Res} {k : Mem → Res} {N : Int} {n : Nat} (hh : HW s0 w0 lw) (hn : 137 ≤ n ∧ n ≤ 227) (hN : N ≤ 9000) (hS : ∀ (m : Nat) (i r : Int) (s s1 : Mem), i < N → f_X10_pass 1 n 0 s = some (r, s1) → F (m + 1) i s = F m (wr (i + 1)) s1) (hE : ∀ (m : Nat) (i : Int) (s : Mem), ¬ i < N → F (m + 1) i s = k s) : ∀ (j fu : Nat) (i : Int) (s : Mem) (w : Int → Int), j < fu → 0 ≤ i → i + j = N → NR s n w → WT w0 w i → FrT s0 s → ∃ s1 : Mem, F fu i s = k s1 ∧ NR s1 n (sItr lw j w) ∧ WT w0 (sItr lw j w) N ∧ FrT s0 s1 := by
  intro j
  induction j with
  | zero =>
    intro fu i s w h1 h2 h3 h4 h5 h6
    have e : i = N := by omega
    cases fu with
    | zero => exact absurd h1 (Nat.not_lt_zero _)
    | succ fu => exact ⟨s, hE fu i s (by omega), h4, by rw [← e]; exact h5, h6⟩
  | succ j ih =>
    intro fu i s w h1 h2 h3 h4 h5 h6
    cases fu with
    | zero => exact absurd h1 (Nat.not_lt_zero _)
    | succ fu =>
      obtain ⟨r, s1, a1, a2, a3, a4, a5⟩ := th_pass hh hn (k := i) (by omega) h4 h5 h6
      rw [hS fu i r s s1 (by omega) a1, wr_n (by omega)]
      exact ih fu (i + 1) s1 _ (by omega) (by omega) (by omega) a2 a3 a4
theorem tm_itr {F : Nat → Int → Mem → Res} {k : Mem → Res} {N : Int} (hh : HW s0 (t0 1) lw) (hN : N ≤ 9000) (hS : ∀ (m : Nat) (i r : Int) (s s1 : Mem), i < N → f_X12_anHour 0 s = some (r, s1) → F (m + 1) i s = F m (wr (i + 1)) s1) (hE : ∀ (m : Nat) (i : Int) (s : Mem), ¬ i < N → F (m + 1) i s = k s) : ∀ (j fu : Nat) (i : Int) (t : Mem) (w : Int → Int) , j < fu → 0 ≤ i → i + j = N → TM t0 t w → WT (t0 1) w i → ∃ t1 : Mem, F fu i t = k t1 ∧ TM t0 t1 (sItr lw j w) ∧ WT (t0 1) (sItr lw j w) N := by
  intro j
  induction j with
  | zero =>
    intro fu i t w h1 h2 h3 h4 h5
    cases fu with
    | zero => exact absurd h1 (Nat.not_lt_zero _)
    | succ fu =>
      have e : i = N := by omega
      exact ⟨t, hE fu i t (by omega), h4, by rw [← e]; exact h5⟩
  | succ j ih =>
    intro fu i t w h1 h2 h3 h4 h5
    cases fu with
    | zero => exact absurd h1 (Nat.not_lt_zero _)
    | succ fu =>
      obtain ⟨r, t1, a1, a2⟩ := tm_pass hh (k := i) (by omega) h5 h4
      rw [hS fu i r t t1 (by omega) a1, wr_n (by omega)]
      exact ih fu (i + 1) t1 _ (by omega) (by omega) (by omega) a2 (WT_hour hh (by omega) h5)
end

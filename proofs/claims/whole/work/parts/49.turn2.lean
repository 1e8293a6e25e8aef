/-! ===== L3: turnings, the loops ===== -/
def rowf (n r : Nat) : Nat → Bool := fun i => r.testBit (n - 1 - i)
def sHC (w0 : Int → Int) (lw : List Lin) (b : Int) (n r : Nat) : Int := sHas (tPath lw b (rowf n r) w0 n) b
def sHM (w0 : Int → Int) (lw : List Lin) (b : Int) (n r : Nat) : Int := sHas (mPath lw b (fun i => r.testBit i) w0 n) b
theorem ite_one {α : Type} {c : Bool} (x y : α) : (if (if c = true then (1 : Int) else 0) = 1 then x else y) = if c = true then x else y := by
  cases c
  · rfl
  · rfl
section
variable {s t s0 t0 : Mem} {w0 : Int → Int} {lw : List Lin}
theorem c_inner {k : Mem → Res} (hh : HW s0 w0 lw) (hw : WN w0) {b : Int} (hb : 0 ≤ b ∧ b < 10) {n r : Nat} (hn : n ≤ 10) (hr : r < 2 ^ n) : ∀ (j fu i : Nat) (s : Mem), j < fu → i + j = n → (∀ q : Nat, q ≤ i → NR s (137 + 9 * q) (tPath lw b (rowf n r) w0 q)) → FrT s0 s → ∃ s1 : Mem, f_X8_bestTurns_53 133 1 b n r k fu i s = k s1 ∧ (∀ q : Nat, q ≤ n → NR s1 (137 + 9 * q) (tPath lw b (rowf n r) w0 q)) ∧ FrT s0 s1 := by
  intro j
  induction j with
  | zero =>
    intro fu i s h1 h2 h3 h4
    cases fu with
    | zero => exact absurd h1 (Nat.not_lt_zero _)
    | succ fu =>
      rw [f_X8_bestTurns_53, if_neg (by omega)]
      exact ⟨s, rfl, fun q hq => h3 q (by omega), h4⟩
  | succ j ih =>
    intro fu i s h1 h2 h3 h4
    cases fu with
    | zero => exact absurd h1 (Nat.not_lt_zero _)
    | succ fu =>
      have r31 : r < 2147483648 := Nat.lt_of_lt_of_le hr (Nat.le_trans (Nat.pow_le_pow_right (by decide) hn) (by decide))
      have e1 : wr ((i : Int) + 1) = ((i + 1 : Nat) : Int) := wr_n (by omega)
      have e2 : (((i + 1 : Nat) : Int)).toNat = i + 1 := Int.toNat_natCast _
      have e3 : ((i : Int)).toNat = i := Int.toNat_natCast _
      have e4 : wr (wr ((n : Int) - 1) - (i : Int)) = ((n - 1 - i : Nat) : Int) := by
        rw [wr_n (x := (n : Int) - 1) (by omega), wr_n (by omega)]
        omega
      have eb : iand (ishr (r : Int) ((n - 1 - i : Nat) : Int)) 1 = if r.testBit (n - 1 - i) = true then 1 else 0 := n_bt r31 (by omega)
      have ea : 133 + 1 + 3 + 9 * (i + 1) = 137 + 9 * (i + 1) := rfl
      have ea' : 133 + 1 + 3 + 9 * i = 137 + 9 * i := rfl
      have hd : 137 + 9 * i + 9 ≤ 137 + 9 * (i + 1) ∨ 137 + 9 * (i + 1) + 9 ≤ 137 + 9 * i := by omega
      rw [f_X8_bestTurns_53, if_pos (by omega), if_pos (by omega), e1, e2, e3, e4, eb, gd_t (by omega), gd_t (by omega), ea, ea', bd_e (bec4_e hd), jn_s, ite_one]
      have n1 := (h3 i (Nat.le_refl i)).cp (y := 137 + 9 * (i + 1)) hd
      have f1 : ∀ c : Nat, ¬ (137 + 9 * (i + 1) ≤ c ∧ c ≤ 137 + 9 * (i + 1) + 8) → cpN s (137 + 9 * i) (137 + 9 * (i + 1)) c = s c := fun c hc => cpN_fr hc
      have wi := WT_tPath hh (f := rowf n r) hb hw i (by omega)
      have fin : ∀ (s2 : Mem), NR s2 (137 + 9 * (i + 1)) (if rowf n r i = true then sTurn 0 (tPath lw b (rowf n r) w0 i) b else tPath lw b (rowf n r) w0 i) → (∀ c : Nat, ¬ (137 + 9 * (i + 1) ≤ c ∧ c ≤ 137 + 9 * (i + 1) + 8) → c ≠ 17 → c ≠ 18 → s2 c = s c) → ∃ s1 : Mem, (bd (f_X10_pass 1 (137 + 9 * (i + 1)) 0 s2) fun r36 s37 => f_X8_bestTurns_53 133 1 b n r k fu ((i + 1 : Nat) : Int) s37) = k s1 ∧ (∀ q : Nat, q ≤ n → NR s1 (137 + 9 * q) (tPath lw b (rowf n r) w0 q)) ∧ FrT s0 s1 := by
        intro s2 g1 g2
        have w2 : WT w0 (if rowf n r i = true then sTurn 0 (tPath lw b (rowf n r) w0 i) b else tPath lw b (rowf n r) w0 i) i := by
          by_cases c : rowf n r i = true
          · rw [if_pos c]
            exact WT_turn wi hb
          · rw [if_neg c]
            exact wi
        obtain ⟨rr, s3, a1, a2, a3, a4, a5⟩ := th_pass hh (n := 137 + 9 * (i + 1)) (by omega) (k := (i : Int)) (by omega) g1 w2 (fun c q1 q2 q3 => (g2 c (by omega) q1 q2).trans (h4 c q1 q2 q3))
        rw [bd_e a1]
        refine ih fu (i + 1) s3 (by omega) (by omega) (fun q hq => ?_) a4
        by_cases e : q = i + 1
        · subst e
          exact a2
        · exact (h3 q (by omega)).of (fun c q1 q2 => by rw [a5 c (by omega) (by omega) (by omega), g2 c (by omega) (by omega) (by omega)])
      have er : rowf n r i = r.testBit (n - 1 - i) := rfl
      rw [er] at fin
      by_cases c : r.testBit (n - 1 - i) = true
      · rw [if_pos c] at fin ⊢
        obtain ⟨s2, b1, b2, b3⟩ := c_turnAbout (real := 0) (s := cpN s (137 + 9 * i) (137 + 9 * (i + 1))) (w := tPath lw b (rowf n r) w0 i) (n := 137 + 9 * (i + 1)) ⟨n1, fun z => absurd rfl z⟩ wi.2.2 (Or.inr (by omega)) hb
        rw [bd_e b1]
        exact fin s2 b2.1 (fun c q1 q2 q3 => (b3 c q1 q2 q3 (Or.inl rfl)).trans (f1 c q1))
      · rw [if_neg c] at fin ⊢
        exact fin _ n1 (fun c q1 _ _ => f1 c q1)
/-- where the row ahead and this one part -/
theorem al_e {n r : Nat} (hn : 1 ≤ n ∧ n ≤ 10) (hr : r < 2 ^ n) (h0 : r ≠ 0) : ∃ a : Nat, a < n ∧ wr (wr ((n : Int) - 1) - lowz (r : Int)) = (a : Int) ∧ ∀ i : Nat, i < a → rowf n r i = rowf n (r - 1) i := by
  have h1 : r < 1024 := Nat.lt_of_lt_of_le hr (Nat.le_trans (Nat.pow_le_pow_right (by decide) hn.2) (by decide))
  obtain ⟨z1, z2, z3, z4⟩ := lz_e h0 h1
  generalize hz : (lowz (r : Int)).toNat = z at z3 z4
  have ez : lowz (r : Int) = (z : Int) := by omega
  have zn : z < n := by
    by_cases q : z < n
    · exact q
    · exfalso
      have : 2 ^ n ≤ 2 ^ z := Nat.pow_le_pow_right (by decide) (by omega)
      omega
  refine ⟨n - 1 - z, by omega, ?_, fun i hi => ?_⟩
  · rw [wr_n (x := (n : Int) - 1) (by omega), ez, wr_n (by omega)]
    omega
  · unfold rowf
    have e1 : n - 1 - i = z + 1 + (n - 1 - i - (z + 1)) := by omega
    rw [e1, ← Nat.testBit_shiftRight, ← Nat.testBit_shiftRight, z4]
theorem c_outer {k : Int → Int → Mem → Res} (hN : NR s0 2 w0) (hh : HW s0 w0 lw) (hw : WN w0) {b : Int} (hb : 0 ≤ b ∧ b < 10) {n : Nat} (hn : 1 ≤ n ∧ n ≤ 10) : ∀ (j fu r : Nat) (p : Int × Int) (s : Mem), j < fu → r + j = 2 ^ n → NR s 137 w0 → (0 < r → ∀ q : Nat, q ≤ n → NR s (137 + 9 * q) (tPath lw b (rowf n (r - 1)) w0 q)) → FrT s0 s → ∃ s1 : Mem, f_X8_bestTurns_15 133 1 b n k fu p.1 p.2 r s = k (fo (gTc (sHC w0 lw b n) (fun r => mrv (r : Int) (n : Int))) j r p).1 (fo (gTc (sHC w0 lw b n) (fun r => mrv (r : Int) (n : Int))) j r p).2 s1 ∧ FrT s0 s1 := by
  have e2n : ishl 1 (n : Int) = ((2 ^ n : Nat) : Int) := shl_e (by omega)
  have p10 : 2 ^ n ≤ 1024 := Nat.le_trans (Nat.pow_le_pow_right (by decide) hn.2) (by decide)
  intro j
  induction j with
  | zero =>
    intro fu r p s h1 h2 h3 h4 h5
    cases fu with
    | zero => exact absurd h1 (Nat.not_lt_zero _)
    | succ fu =>
      rw [f_X8_bestTurns_15, e2n, if_neg (by omega)]
      exact ⟨s, rfl, h5⟩
  | succ j ih =>
    intro fu r p s h1 h2 h3 h4 h5
    cases fu with
    | zero => exact absurd h1 (Nat.not_lt_zero _)
    | succ fu =>
      have hr : r < 2 ^ n := by omega
      have hs : ∀ p : Int × Int, fo (gTc (sHC w0 lw b n) (fun r => mrv (r : Int) (n : Int))) (j + 1) (r : Int) p = fo (gTc (sHC w0 lw b n) (fun r => mrv (r : Int) (n : Int))) j ((r : Int) + 1) (gTc (sHC w0 lw b n) (fun r => mrv (r : Int) (n : Int)) (r : Int) p) := fun p => rfl
      rw [f_X8_bestTurns_15, e2n, if_pos (by omega), hs]
      -- what comes behind the HOURS
      have fin : ∀ (K : Mem → Res), (∀ s3 : Mem, (∀ q : Nat, q ≤ n → NR s3 (137 + 9 * q) (tPath lw b (rowf n r) w0 q)) → FrT s0 s3 → ∃ s1 : Mem, K s3 = k (fo (gTc (sHC w0 lw b n) (fun r => mrv (r : Int) (n : Int))) j ((r : Int) + 1) (gTc (sHC w0 lw b n) (fun r => mrv (r : Int) (n : Int)) (r : Int) p)).1 (fo (gTc (sHC w0 lw b n) (fun r => mrv (r : Int) (n : Int))) j ((r : Int) + 1) (gTc (sHC w0 lw b n) (fun r => mrv (r : Int) (n : Int)) (r : Int) p)).2 s1 ∧ FrT s0 s1) → ∃ s1 : Mem, (jn (fun (y10 : Int) (s11 : Mem) => jn K fun j126 => f_X8_bestTurns_53 133 1 b n r j126 FU y10 s11) fun j47 => if (r : Int) = 0 then (j47 0 s) else (bd (f_J6_bitCount_0f7a4 (wr ((iand (r : Int) (wr (-(r : Int)))) - 1)) s) fun r42 s43 => j47 (wr ((wr ((n : Int) - 1)) - r42)) s43)) = k (fo (gTc (sHC w0 lw b n) (fun r => mrv (r : Int) (n : Int))) j ((r : Int) + 1) (gTc (sHC w0 lw b n) (fun r => mrv (r : Int) (n : Int)) (r : Int) p)).1 (fo (gTc (sHC w0 lw b n) (fun r => mrv (r : Int) (n : Int))) j ((r : Int) + 1) (gTc (sHC w0 lw b n) (fun r => mrv (r : Int) (n : Int)) (r : Int) p)).2 s1 ∧ FrT s0 s1 := by
        intro K hK
        rw [jn_s]
        by_cases c0 : r = 0
        · rw [if_pos (by omega)]
          obtain ⟨s3, a1, a2, a3⟩ := c_inner (k := K) hh hw hb (n := n) (r := r) hn.2 hr n FU 0 s (fu_lt (by omega)) (by omega) (fun q hq => by
            have e : q = 0 := by omega
            subst e
            exact h3) h5
          obtain ⟨s1, d1, d2⟩ := hK s3 a2 a3
          have ez : ((0 : Nat) : Int) = 0 := rfl
          rw [ez] at a1
          refine ⟨s1, ?_, d2⟩
          show (jn K fun j126 => f_X8_bestTurns_53 133 1 b n r j126 FU 0 s) = _
          rw [jn_s, a1, d1]
        · obtain ⟨a, q1, q2, q3⟩ := al_e hn hr c0
          rw [if_neg (by omega), bc_e, bd_s]
          have el : bcv (wr ((iand (r : Int) (wr (-(r : Int)))) - 1)) = lowz (r : Int) := rfl
          rw [el, q2]
          have hp := h4 (by omega)
          obtain ⟨s3, a1, a2, a3⟩ := c_inner (k := K) hh hw hb (n := n) (r := r) hn.2 hr (n - a) FU a s (fu_lt (by omega)) (by omega) (fun q hq => by
            rw [tPath_cg q (fun i hi => q3 i (by omega))]
            exact hp q (by omega)) h5
          obtain ⟨s1, d1, d2⟩ := hK s3 a2 a3
          refine ⟨s1, ?_, d2⟩
          show (jn K fun j126 => f_X8_bestTurns_53 133 1 b n r j126 FU (a : Int) s) = _
          rw [jn_s, a1, d1]
      refine fin _ (fun s3 n3 f3 => ?_)
      have hnn := n3 n (Nat.le_refl n)
      have wn := WT_tPath hh (f := rowf n r) hb hw n (by omega)
      have en : ((n : Int)).toNat = n := Int.toNat_natCast _
      have ea : 133 + 1 + 3 + 9 * n = 137 + 9 * n := rfl
      rw [bd_e (c_mirrored _ _ (by omega) s3), gd_t (by omega), en, ea, bd_e (e_afloat hnn wn.2.2 b), jn_s, bI_z]
      have er : ((r : Int)).toNat = r := Int.toNat_natCast _
      have er1 : (r : Int) + 1 = ((r + 1 : Nat) : Int) := by omega
      have n0 := n3 0 (by omega)
      have go : ∀ y : Int, y = sHC w0 lw b n r → ∃ s1 : Mem, (jn (fun (v20 : Int) (v21 : Int) => f_X8_bestTurns_15 133 1 b n k fu v20 v21 (wr ((r : Int) + 1)) s3) fun j192 => jn (fun (_ : Unit) => j192 y (mrv (r : Int) (n : Int))) fun j184 => if p.1 < y then (j184 ()) else (if y = p.1 then (if mrv (r : Int) (n : Int) < p.2 then (j184 ()) else (j192 p.1 p.2)) else (j192 p.1 p.2))) = k (fo (gTc (sHC w0 lw b n) (fun r => mrv (r : Int) (n : Int))) j ((r : Int) + 1) (gTc (sHC w0 lw b n) (fun r => mrv (r : Int) (n : Int)) (r : Int) p)).1 (fo (gTc (sHC w0 lw b n) (fun r => mrv (r : Int) (n : Int))) j ((r : Int) + 1) (gTc (sHC w0 lw b n) (fun r => mrv (r : Int) (n : Int)) (r : Int) p)).2 s1 ∧ FrT s0 s1 := by
        intro y hy
        rw [jn_s, jn_s, wr_n (x := (r : Int) + 1) (by omega), er1]
        unfold gTc
        rw [er, ← hy]
        have nx : ∀ p' : Int × Int, ∃ s1 : Mem, f_X8_bestTurns_15 133 1 b n k fu p'.1 p'.2 ((r + 1 : Nat) : Int) s3 = k (fo (gTc (sHC w0 lw b n) (fun r => mrv (r : Int) (n : Int))) j ((r + 1 : Nat) : Int) p').1 (fo (gTc (sHC w0 lw b n) (fun r => mrv (r : Int) (n : Int))) j ((r + 1 : Nat) : Int) p').2 s1 ∧ FrT s0 s1 := fun p' => ih fu (r + 1) p' s3 (by omega) (by omega) n0 (fun _ q hq => n3 q hq) f3
        by_cases c1 : p.1 < y
        · rw [if_pos c1, if_pos c1]
          exact nx (y, mrv (r : Int) (n : Int))
        · rw [if_neg c1, if_neg c1]
          by_cases c2 : y = p.1
          · rw [if_pos c2, if_pos c2]
            by_cases c3 : mrv (r : Int) (n : Int) < p.2
            · rw [if_pos c3, if_pos c3]
              exact nx (y, mrv (r : Int) (n : Int))
            · rw [if_neg c3, if_neg c3]
              exact nx p
          · rw [if_neg c2, if_neg c2]
            exact nx p
      have eh : sHC w0 lw b n r = if afl (tPath lw b (rowf n r) w0 n) b then sStk (tPath lw b (rowf n r) w0 n) b else -1 := rfl
      by_cases ca : afl (tPath lw b (rowf n r) w0 n) b
      · rw [if_pos ca] at eh ⊢
        rw [gd_t (by omega), bd_e (e_stuckIn hnn wn.2.2 hb)]
        exact go _ eh.symm
      · rw [if_neg ca] at eh ⊢
        exact go _ eh.symm
theorem m_inner {k : Mem → Res} (hh : HW s0 (t0 1) lw) (hw : WN (t0 1)) {b : Int} (hb : 0 ≤ b ∧ b < 10) {n r : Nat} (hn : n ≤ 10) (hr : r < 2 ^ n) : ∀ (j fu i : Nat) (t : Mem), j < fu → i + j = n → TM t0 t (mPath lw b (fun i => r.testBit i) (t0 1) i) → ∃ t1 : Mem, f_X12_turnedBy_7 0 b n r k fu i t = k t1 ∧ TM t0 t1 (mPath lw b (fun i => r.testBit i) (t0 1) n) := by
  intro j
  induction j with
  | zero =>
    intro fu i t h1 h2 h3
    have e : i = n := by omega
    cases fu with
    | zero => exact absurd h1 (Nat.not_lt_zero _)
    | succ fu =>
      rw [f_X12_turnedBy_7, if_neg (by omega)]
      exact ⟨t, rfl, by rw [← e]; exact h3⟩
  | succ j ih =>
    intro fu i t h1 h2 h3
    cases fu with
    | zero => exact absurd h1 (Nat.not_lt_zero _)
    | succ fu =>
      have r31 : r < 2147483648 := Nat.lt_of_lt_of_le hr (Nat.le_trans (Nat.pow_le_pow_right (by decide) hn) (by decide))
      have eb : iand (ishr (r : Int) (i : Int)) 1 = if r.testBit i = true then 1 else 0 := n_bt r31 (by omega)
      have e1 : wr ((i : Int) + 1) = ((i + 1 : Nat) : Int) := wr_n (by omega)
      have wi := WT_mPath hh (f := fun i => r.testBit i) hb hw i (by omega)
      rw [f_X12_turnedBy_7, if_pos (by omega), jn_s, eb, ite_one, e1]
      have fin : ∀ t2 : Mem, TM t0 t2 (if r.testBit i = true ∧ afl (mPath lw b (fun i => r.testBit i) (t0 1) i) b then sTurn 0 (mPath lw b (fun i => r.testBit i) (t0 1) i) b else mPath lw b (fun i => r.testBit i) (t0 1) i) → ∃ t1 : Mem, (bd (f_X12_anHour 0 t2) fun r15 s16 => f_X12_turnedBy_7 0 b n r k fu ((i + 1 : Nat) : Int) s16) = k t1 ∧ TM t0 t1 (mPath lw b (fun i => r.testBit i) (t0 1) n) := by
        intro t2 hT
        have w2 : WT (t0 1) (if r.testBit i = true ∧ afl (mPath lw b (fun i => r.testBit i) (t0 1) i) b then sTurn 0 (mPath lw b (fun i => r.testBit i) (t0 1) i) b else mPath lw b (fun i => r.testBit i) (t0 1) i) i := by
          by_cases c : r.testBit i = true ∧ afl (mPath lw b (fun i => r.testBit i) (t0 1) i) b
          · rw [if_pos c]
            exact WT_turn wi hb
          · rw [if_neg c]
            exact wi
        obtain ⟨rr, t3, a1, a2⟩ := tm_pass hh (k := (i : Int)) (by omega) w2 hT
        rw [bd_e a1]
        exact ih fu (i + 1) t3 (by omega) (by omega) a2
      by_cases c : r.testBit i = true
      · rw [if_pos c]
        have ea := e_isAfloat (t := t) (by rw [h3.1]; exact wi.2.2) b
        rw [h3.1] at ea
        rw [bd_e ea, bI_z]
        by_cases ca : afl (mPath lw b (fun i => r.testBit i) (t0 1) i) b
        · rw [if_pos ca]
          rw [if_pos ⟨c, ca⟩] at fin
          have ht := m_turns0 (t := t) (by rw [h3.1]; exact wi.2.2) hb
          have e26 : t 0 26 = 0 := by rw [h3.2.1, up_eq rfl]
          rw [h3.1, e26] at ht
          rw [bd_e ht]
          obtain ⟨m1, m2, m3, m4⟩ := h3
          exact fin _ ⟨sr_e _ _ _, by rw [sr_o (by decide)]; exact m2, fun i g1 g2 => by rw [sr_o (by decide)]; exact m3 i g1 g2, fun c a0 a1 a4 a9 a10 => by rw [sr_o a1]; exact m4 c a0 a1 a4 a9 a10⟩
        · rw [if_neg ca]
          rw [if_neg (fun q => ca q.2)] at fin
          exact fin t h3
      · rw [if_neg c]
        rw [if_neg (fun q => c q.1)] at fin
        exact fin t h3
theorem m_tb (hh : HW s0 (t0 1) lw) (hw : WN (t0 1)) {b : Int} (hb : 0 ≤ b ∧ b < 10) {n r : Nat} (hn : n ≤ 10) (hr : r < 2 ^ n) {t : Mem} (h : Bk t0 t) : ∃ t1 : Mem, f_X12_turnedBy 0 b n r t = some (sHM (t0 1) lw b n r, t1) ∧ Bk t0 t1 := by
  obtain ⟨t1, l1, l2⟩ := m_lays2 h
  have wn := WT_mPath hh (f := fun i => r.testBit i) hb hw n (by omega)
  unfold f_X12_turnedBy
  rw [bd_e l1, jn_s]
  obtain ⟨t2, a1, a2⟩ := m_inner (t0 := t0) (k := fun (s3 : Mem) => bd (f_X12_isAfloat 0 b s3) fun r4 s5 => jn (fun (y6 : Int) (s7 : Mem) => bd (f_X12_putsBack 0 s7) fun r8 s9 => some (y6, s9)) fun j64 => if r4 = 0 then (j64 (-1) s5) else (bd (f_X12_stuckIn 0 b s5) fun r11 s12 => j64 r11 s12)) hh hw hb hn hr n FU 0 t1 (fu_lt (by omega)) (by omega) l2
  have ea := e_isAfloat (t := t2) (by rw [a2.1]; exact wn.2.2) b
  rw [a2.1] at ea
  have es := e_mStuckIn (t := t2) (b := b) (by rw [a2.1]; exact wn.2.2) hb
  rw [a2.1] at es
  obtain ⟨t3, b1, b2⟩ := m_back2 a2 wn
  have ez : ((0 : Nat) : Int) = 0 := rfl
  rw [ez] at a1
  refine ⟨t3, ?_, b2⟩
  rw [a1, bd_e ea, jn_s, bI_z]
  unfold sHM sHas
  by_cases ca : afl (mPath lw b (fun i => r.testBit i) (t0 1) n) b
  · rw [if_pos ca, if_pos ca, bd_e es]
    show (bd (f_X12_putsBack 0 t2) fun r8 s9 => some (sStk (mPath lw b (fun i => r.testBit i) (t0 1) n) b, s9)) = _
    rw [bd_e b1]
  · rw [if_neg ca, if_neg ca]
    show (bd (f_X12_putsBack 0 t2) fun r8 s9 => some (-1, s9)) = _
    rw [bd_e b1]
theorem m_outer {k : Int → Int → Mem → Res} (hh : HW s0 (t0 1) lw) (hw : WN (t0 1)) {b : Int} (hb : 0 ≤ b ∧ b < 10) {n : Nat} (hn : 1 ≤ n ∧ n ≤ 10) : ∀ (j fu r : Nat) (p : Int × Int) (t : Mem), j < fu → r + j = 2 ^ n → Bk t0 t → ∃ t1 : Mem, f_X12_turnings_38 0 b n k fu p.2 p.1 r t = k (fo (gTm (sHM (t0 1) lw b n)) j r p).2 (fo (gTm (sHM (t0 1) lw b n)) j r p).1 t1 ∧ Bk t0 t1 := by
  have e2n : ishl 1 (n : Int) = ((2 ^ n : Nat) : Int) := shl_e (by omega)
  have p10 : 2 ^ n ≤ 1024 := Nat.le_trans (Nat.pow_le_pow_right (by decide) hn.2) (by decide)
  intro j
  induction j with
  | zero =>
    intro fu r p t h1 h2 h3
    cases fu with
    | zero => exact absurd h1 (Nat.not_lt_zero _)
    | succ fu =>
      rw [f_X12_turnings_38, e2n, if_neg (by omega)]
      exact ⟨t, rfl, h3⟩
  | succ j ih =>
    intro fu r p t h1 h2 h3
    cases fu with
    | zero => exact absurd h1 (Nat.not_lt_zero _)
    | succ fu =>
      have hs : fo (gTm (sHM (t0 1) lw b n)) (j + 1) (r : Int) p = fo (gTm (sHM (t0 1) lw b n)) j ((r : Int) + 1) (gTm (sHM (t0 1) lw b n) (r : Int) p) := rfl
      obtain ⟨t1, a1, a2⟩ := m_tb hh hw hb hn.2 (r := r) (by omega) h3
      have er : ((r : Int)).toNat = r := Int.toNat_natCast _
      have er1 : (r : Int) + 1 = ((r + 1 : Nat) : Int) := by omega
      rw [f_X12_turnings_38, e2n, if_pos (by omega), bd_e a1, jn_s, hs, wr_n (x := (r : Int) + 1) (by omega), er1]
      unfold gTm
      rw [er]
      by_cases c : p.1 < sHM (t0 1) lw b n r
      · rw [if_pos c, if_pos c]
        exact ih fu (r + 1) (sHM (t0 1) lw b n r, (r : Int)) t1 (by omega) (by omega) a2
      · rw [if_neg c, if_neg c]
        exact ih fu (r + 1) p t1 (by omega) (by omega) a2
theorem k_turnings (h : IV s t) (b n what : Int) : Sim (f_X11_turnings 0 b n what s) (f_X12_turnings 0 b n what t) := by
  obtain ⟨lw, hh⟩ := h.hw
  have hw := h.wn
  unfold f_X11_turnings f_X12_turnings
  simp only [Nat.zero_add, Nat.reduceAdd]
  rw [bd_e (e_afloat h.nr h.wn b), bd_e (e_isAfloat h.wn b), bI_z, bI_z]
  by_cases c : afl (t 1) b
  · have hb := afl_10 hw c
    have hB := c.1.2
    rw [if_pos c, if_pos c, bd_e (e_within _ _ _ _), bd_e (e_isIn _ _ _ _), bI_z, bI_z]
    by_cases c1 : 1 ≤ n ∧ n ≤ 10
    · rw [if_pos c1, if_pos c1, bd_e (e_within _ _ _ _), bd_e (e_isIn _ _ _ _), bI_z, bI_z]
      by_cases c2 : 0 ≤ what ∧ what ≤ 1
      · rw [if_pos c2, if_pos c2]
        obtain ⟨m, rfl⟩ : ∃ m : Nat, n = (m : Int) := ⟨n.toNat, by omega⟩
        have hm : 1 ≤ m ∧ m ≤ 10 := by omega
        have p10 : 2 ^ m ≤ 1024 := Nat.le_trans (Nat.pow_le_pow_right (by decide) hm.2) (by decide)
        obtain ⟨e1, e2, e3⟩ := th_begin h.nr
        obtain ⟨s1, a1, a2⟩ := c_outer (k := fun (v4 : Int) (v5 : Int) (s6 : Mem) => if v4 = (-1) then (some ((-1), s6)) else (if what = 0 then (some (v4, s6)) else (some (v5, s6)))) h.nr hh hw hb hm (2 ^ m) FU 0 (-1, -1) _ (fu_lt (by omega)) (by omega) e2 (fun z => absurd z (by decide)) e3
        obtain ⟨t1, b1, b2⟩ := m_outer (t0 := t) (k := fun (v10 : Int) (v11 : Int) (s12 : Mem) => if what = 0 then (some (v11, s12)) else (some (v10, s12))) hh hw hb hm (2 ^ m) FU 0 (-1, -1) t (fu_lt (by omega)) (by omega) (Bk.rf t)
        have ez : ((0 : Nat) : Int) = 0 := rfl
        rw [ez] at a1 b1
        have hsame := tu_same (H := sHC (t 1) lw b m) (M := sHM (t 1) lw b m) (mr := fun r => mrv (r : Int) (m : Int)) (N := 2 ^ m) (fun r hr => sHas_in (WT_tPath hh (f := rowf m r) hb hw m (by omega)).2.2 b) (fun r hr => by
          obtain ⟨q, q1, q2, q3, q4⟩ := mr_e hm.2 hr
          refine ⟨q, q2, q1, q3, ?_⟩
          unfold sHM sHC
          rw [has_rel hh hw hb hB m (by omega)]
          refine congrArg (fun w => sHas w b) (mPath_cg m (fun k hk => ?_))
          exact q4 k hk)
        rw [jn_s]
        unfold f_X8_bestTurns
        rw [bd_e e1, gd_t isN137, jn_s, a1, b1, ← hsame]
        have hx := tc_in (H := sHC (t 1) lw b m) (mr := fun r => mrv (r : Int) (m : Int)) (N := 2 ^ m) (fun r hr => sHas_in (WT_tPath hh (f := rowf m r) hb hw m (by omega)).2.2 b) (fun r hr => by
          obtain ⟨q, q1, q2, q3, q4⟩ := mr_e hm.2 hr
          show 0 ≤ mrv (r : Int) (m : Int)
          omega)
        generalize fo (gTc (sHC (t 1) lw b m) (fun r => mrv (r : Int) (m : Int))) (2 ^ m) 0 (-1, -1) = p at hx ⊢
        have hf := th_end2 h a2 b2
        rcases hx with ⟨x1, x2⟩ | ⟨x1, x2⟩
        · have y1 : p.1 = -1 := by rw [x1]
          have y2 : p.2 = -1 := by rw [x1]
          rw [if_pos y1, bd_s, y1, y2]
          by_cases c0 : what = 0
          · rw [if_pos c0]
            exact Sim.rf hf _
          · rw [if_neg c0]
            exact Sim.rf hf _
        · have e9 : ¬ p.1 = -1 := by omega
          by_cases c0 : what = 0
          · rw [if_pos c0, if_neg e9, if_pos c0, bd_s]
            exact Sim.rf hf _
          · rw [if_neg c0, if_neg e9, if_neg c0, bd_s]
            exact Sim.rf hf _
      · rw [if_neg c2, if_neg c2]
        exact Sim.rf h _
    · rw [if_neg c1, if_neg c1]
      exact Sim.rf h _
  · rw [if_neg c, if_neg c]
    exact Sim.rf h _
end

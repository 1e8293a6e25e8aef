/-! ===== L3: fogs ===== -/
def gSp (f : Int → Int) (i : Int) (nx : Int → Int) : Int → Int :=
  up (up (up nx (mmx 0 (i - 1)) (wr (nx (mmx 0 (i - 1)) + wr ((f i).tdiv 4)))) (mmn 9 (i + 1)) (wr (up nx (mmx 0 (i - 1)) (wr (nx (mmx 0 (i - 1)) + wr ((f i).tdiv 4))) (mmn 9 (i + 1)) + wr ((f i).tdiv 4)))) i (wr (up (up nx (mmx 0 (i - 1)) (wr (nx (mmx 0 (i - 1)) + wr ((f i).tdiv 4)))) (mmn 9 (i + 1)) (wr (up nx (mmx 0 (i - 1)) (wr (nx (mmx 0 (i - 1)) + wr ((f i).tdiv 4))) (mmn 9 (i + 1)) + wr ((f i).tdiv 4))) i + wr (f i - wr (2 * wr ((f i).tdiv 4)))))
def sSpr (f : Int → Int) : Int → Int := fo (gSp f) 10 0 (fun _ => 0)
def sSps : Nat → (Int → Int) → (Int → Int)
  | 0, f => f
  | j + 1, f => sSps j (sSpr f)
def iFog (g : Int) : Int → Int := fun i => if i = g then 1000000 else 0
def gSm (f : Int → Int) (i x : Int) : Int := wr (x + f i)
theorem mx_in {i : Int} (h : 0 ≤ i ∧ i < 10) : (0 ≤ mmx 0 (i - 1) ∧ mmx 0 (i - 1) < 10) ∧ (0 ≤ mmn 9 (i + 1) ∧ mmn 9 (i + 1) < 10) := by
  unfold mmx mmn
  constructor
  · split <;> omega
  · split <;> omega
theorem ag_up2 {f g : Int → Int} (h : Ag 10 f g) {k v v' : Int} (hv : v = v') : Ag 10 (up f k v) (up g k v') := by
  rw [hv]
  exact h.up k v'
theorem ag_sp {f f' g g' : Int → Int} {i : Int} (hi : 0 ≤ i ∧ i < 10) (hf : Ag 10 f f') (hg : Ag 10 g g') : Ag 10 (gSp f i g) (gSp f' i g') := by
  obtain ⟨a, b⟩ := mx_in hi
  have e := hf i hi.1 hi.2
  unfold gSp
  rw [e]
  have h1 : Ag 10 (up g (mmx 0 (i - 1)) (wr (g (mmx 0 (i - 1)) + wr ((f' i).tdiv 4)))) (up g' (mmx 0 (i - 1)) (wr (g' (mmx 0 (i - 1)) + wr ((f' i).tdiv 4)))) := ag_up2 hg (by rw [hg _ a.1 a.2])
  have h2 := ag_up2 h1 (k := mmn 9 (i + 1)) (v := wr (up g (mmx 0 (i - 1)) (wr (g (mmx 0 (i - 1)) + wr ((f' i).tdiv 4))) (mmn 9 (i + 1)) + wr ((f' i).tdiv 4))) (by rw [h1 _ b.1 b.2])
  exact ag_up2 h2 (by rw [h2 _ hi.1 hi.2])
theorem Ag.tr {m : Int} {f g h : Int → Int} (h1 : Ag m f g) (h2 : Ag m g h) : Ag m f h := fun k a b => (h1 k a b).trans (h2 k a b)
theorem Ag.sy {m : Int} {f g : Int → Int} (h1 : Ag m f g) : Ag m g f := fun k a b => (h1 k a b).symm
def TS (s : Mem) (C N : Nat) : Prop := s 133 1 = (C : Int) ∧ s 133 2 = (N : Int) ∧ ((C = 135 ∧ N = 136) ∨ (C = 136 ∧ N = 135))
theorem TS.k1 {s : Mem} {C N : Nat} (h : TS s C N) : (s 133 1).toNat = C ∧ (s 133 2).toNat = N ∧ kdX C = (1, 10) ∧ kdX N = (1, 10) ∧ C ≠ N ∧ C ≠ 133 ∧ N ≠ 133 := by
  obtain ⟨h1, h2, h3⟩ := h
  refine ⟨by rw [h1]; exact Int.toNat_natCast C, by rw [h2]; exact Int.toNat_natCast N, ?_, ?_, by omega, by omega, by omega⟩
  · rcases h3 with ⟨a, b⟩ | ⟨a, b⟩
    · rw [a]; decide
    · rw [a]; decide
  · rcases h3 with ⟨a, b⟩ | ⟨a, b⟩
    · rw [b]; decide
    · rw [b]; decide
section
variable {s t : Mem}
theorem c_zer {C N : Nat} {s0 : Mem} (hT : TS s0 C N) {k : Mem → Res} : ∀ (j fu : Nat) (i : Int) (s : Mem), j < fu → 0 ≤ i → i + j = 10 → (∀ c : Nat, c ≠ N → s c = s0 c) → Ag i (s N) (fun _ => 0) → ∃ s1 : Mem, f_X8_spread_2 133 k fu i s = k s1 ∧ (∀ c : Nat, c ≠ N → s1 c = s0 c) ∧ Ag 10 (s1 N) (fun _ => 0) := by
  obtain ⟨k1, k2, k3, k4, k5, k6, k7⟩ := hT.k1
  intro j
  induction j with
  | zero =>
    intro fu i s h1 h2 h3 h4 h5
    have e : i = 10 := by omega
    cases fu with
    | zero => exact absurd h1 (Nat.not_lt_zero _)
    | succ fu =>
      rw [f_X8_spread_2, if_pos (by omega)]
      exact ⟨s, rfl, h4, by rw [← e]; exact h5⟩
  | succ j ih =>
    intro fu i s h1 h2 h3 h4 h5
    cases fu with
    | zero => exact absurd h1 (Nat.not_lt_zero _)
    | succ fu =>
      have e2 : (s 133 2).toNat = N := by rw [h4 133 (Ne.symm k7)]; exact k2
      rw [f_X8_spread_2, if_neg (by omega), e2, gd_t k4, gd_t (by omega), lm_s, wr_n (x := i + 1) (by omega)]
      refine ih fu (i + 1) _ (by omega) (by omega) (by omega) (fun c hc => by rw [mup_o hc]; exact h4 c hc) ?_
      rw [mup_row]
      intro q g1 g2
      by_cases e : q = i
      · rw [up_eq e]
      · rw [up_ne e]
        exact h5 q g1 (by omega)
theorem c_spr {C N : Nat} {s0 : Mem} (hT : TS s0 C N) {f : Int → Int} (hf : Ag 10 (s0 C) f) {k : Mem → Res} : ∀ (j fu : Nat) (i : Int) (s : Mem) (g : Int → Int), j < fu → 0 ≤ i → i + j = 10 → (∀ c : Nat, c ≠ N → s c = s0 c) → Ag 10 (s N) g → ∃ s1 : Mem, f_X8_spread_23 133 k fu i s = k s1 ∧ (∀ c : Nat, c ≠ N → s1 c = s0 c) ∧ Ag 10 (s1 N) (fo (gSp f) j i g) := by
  obtain ⟨k1, k2, k3, k4, k5, k6, k7⟩ := hT.k1
  intro j
  induction j with
  | zero =>
    intro fu i s g h1 h2 h3 h4 h5
    cases fu with
    | zero => exact absurd h1 (Nat.not_lt_zero _)
    | succ fu =>
      rw [f_X8_spread_23, if_pos (by omega)]
      exact ⟨s, rfl, h4, h5⟩
  | succ j ih =>
    intro fu i s g h1 h2 h3 h4 h5
    cases fu with
    | zero => exact absurd h1 (Nat.not_lt_zero _)
    | succ fu =>
      have i10 : 0 ≤ i ∧ i < 10 := by omega
      obtain ⟨a, b⟩ := mx_in i10
      have e133 : s 133 = s0 133 := h4 133 (Ne.symm k7)
      have eC : s C = s0 C := h4 C k5
      have hs : fo (gSp f) (j + 1) i g = fo (gSp f) j (i + 1) (gSp f i g) := rfl
      have o133 : ∀ (r : Mem) (x v : Int), mup r N x v 133 = r 133 := fun r x v => mup_o (Ne.symm k7)
      have oC : ∀ (r : Mem) (x v : Int), mup r N x v C = r C := fun r x v => mup_o k5
      rw [f_X8_spread_23, if_neg (by omega), e133, k1, k2, gd_t k3, gd_t i10, gd_t (by decide), gd_t k4, wr_n (x := i - 1) (by omega), wr_n (x := i + 1) (by omega), gd_t a, gd_t a, lm_s, o133, e133, k2, gd_t k4, gd_t b, gd_t b, lm_s, o133, o133, e133, k1, k2, gd_t k4, gd_t i10, gd_t k3, gd_t i10, gd_t i10, oC, oC, lm_s, hs]
      have er : ∀ (r : Mem) (x v : Int), mup r N x v N = up (r N) x v := fun r x v => mup_row r N x v
      refine ih fu (i + 1) _ (gSp f i g) (by omega) (by omega) (by omega) (fun c hc => by rw [mup_o hc, mup_o hc, mup_o hc]; exact h4 c hc) ?_
      rw [er, er, er]
      have hh := ag_sp (f := s C) (f' := f) (g := s N) (g' := g) i10 (by rw [eC]; exact hf) h5
      exact hh
theorem c_spread {C N : Nat} (hT : TS s C N) {f : Int → Int} (hf : Ag 10 (s C) f) : ∃ s1 : Mem, f_X8_spread 133 s = some (0, s1) ∧ TS s1 N C ∧ Ag 10 (s1 N) (sSpr f) ∧ ∀ c : Nat, c ≠ 133 → c ≠ 135 → c ≠ 136 → s1 c = s c := by
  obtain ⟨k1, k2, k3, k4, k5, k6, k7⟩ := hT.k1
  unfold f_X8_spread
  rw [jn_s]
  obtain ⟨s1, a1, a2, a3⟩ := c_zer (s0 := s) hT (k := fun (s1 : Mem) => jn (fun (s2 : Mem) => gd (kdX (s2 133 1).toNat = (1, 10)) (gd (kdX (s2 133 2).toNat = (1, 10)) (lm (mup s2 133 1 (((s2 133 2).toNat : Nat) : Int)) fun s5 => lm (mup s5 133 2 (((s2 133 1).toNat : Nat) : Int)) fun s6 => some (0, s6)))) fun j96 => f_X8_spread_23 133 j96 FU 0 s1) 10 FU 0 s (fu_lt (by omega)) (by decide) (by decide) (fun _ _ => rfl) (fun k g1 g2 => absurd g2 (by omega))
  have T1 : TS s1 C N := by
    unfold TS
    rw [a2 133 (Ne.symm k7)]
    exact hT
  obtain ⟨s2, b1, b2, b3⟩ := c_spr (s0 := s1) T1 (f := f) (by rw [a2 C k5]; exact hf) (k := fun (s2 : Mem) => gd (kdX (s2 133 1).toNat = (1, 10)) (gd (kdX (s2 133 2).toNat = (1, 10)) (lm (mup s2 133 1 (((s2 133 2).toNat : Nat) : Int)) fun s5 => lm (mup s5 133 2 (((s2 133 1).toNat : Nat) : Int)) fun s6 => some (0, s6)))) 10 FU 0 s1 (fun _ => 0) (fu_lt (by omega)) (by decide) (by decide) (fun _ _ => rfl) a3
  have e1 : (s2 133 1).toNat = C := by rw [b2 133 (Ne.symm k7)]; exact T1.k1.1
  have e2 : (s2 133 2).toNat = N := by rw [b2 133 (Ne.symm k7)]; exact T1.k1.2.1
  rw [a1, jn_s, b1, e1, e2, gd_t k3, gd_t k4, lm_s, lm_s]
  refine ⟨_, rfl, ⟨by rw [mup_n (Or.inr (by decide)), mup_e rfl rfl], mup_e rfl rfl, by have := hT.2.2; omega⟩, ?_, fun c c1 c2 c3 => ?_⟩
  · rw [mup_o k7, mup_o k7]
    exact b3
  · have cN : c ≠ N := by have := hT.2.2; omega
    rw [mup_o c1, mup_o c1, b2 c cN, a2 c cN]
theorem c_sps {k : Mem → Res} {n : Int} {s0 : Mem} : ∀ (j fu : Nat) (i : Int) (s : Mem) (f : Int → Int) (C N : Nat), j < fu → 0 ≤ i → i + j = n → n ≤ 100 → TS s C N → Ag 10 (s C) f → (∀ c : Nat, c ≠ 133 → c ≠ 135 → c ≠ 136 → s c = s0 c) → ∃ (s1 : Mem) (C1 N1 : Nat), f_X8_likely_38 133 n k fu i s = k s1 ∧ TS s1 C1 N1 ∧ Ag 10 (s1 C1) (sSps j f) ∧ ∀ c : Nat, c ≠ 133 → c ≠ 135 → c ≠ 136 → s1 c = s0 c := by
  intro j
  induction j with
  | zero =>
    intro fu i s f C N h1 h2 h3 h4 h5 h6 h7
    cases fu with
    | zero => exact absurd h1 (Nat.not_lt_zero _)
    | succ fu =>
      rw [f_X8_likely_38, if_neg (by omega)]
      exact ⟨s, C, N, rfl, h5, h6, h7⟩
  | succ j ih =>
    intro fu i s f C N h1 h2 h3 h4 h5 h6 h7
    cases fu with
    | zero => exact absurd h1 (Nat.not_lt_zero _)
    | succ fu =>
      obtain ⟨s1, a1, a2, a3, a4⟩ := c_spread h5 h6
      rw [f_X8_likely_38, if_pos (by omega), bd_e a1, wr_n (x := i + 1) (by omega)]
      exact ih fu (i + 1) s1 (sSpr f) N C (by omega) (by omega) (by omega) h4 a2 a3 (fun c c1 c2 c3 => (a4 c c1 c2 c3).trans (h7 c c1 c2 c3))
theorem c_ini {C N : Nat} {s0 : Mem} (hT : TS s0 C N) {g : Int} {k : Mem → Res} : ∀ (j fu : Nat) (i : Int) (s : Mem), j < fu → 0 ≤ i → i + j = 10 → (∀ c : Nat, c ≠ C → s c = s0 c) → Ag i (s C) (iFog g) → ∃ s1 : Mem, f_X8_likely_3 133 g k fu i s = k s1 ∧ (∀ c : Nat, c ≠ C → s1 c = s0 c) ∧ Ag 10 (s1 C) (iFog g) := by
  obtain ⟨k1, k2, k3, k4, k5, k6, k7⟩ := hT.k1
  intro j
  induction j with
  | zero =>
    intro fu i s h1 h2 h3 h4 h5
    have e : i = 10 := by omega
    cases fu with
    | zero => exact absurd h1 (Nat.not_lt_zero _)
    | succ fu =>
      rw [f_X8_likely_3, if_pos (by omega)]
      exact ⟨s, rfl, h4, by rw [← e]; exact h5⟩
  | succ j ih =>
    intro fu i s h1 h2 h3 h4 h5
    cases fu with
    | zero => exact absurd h1 (Nat.not_lt_zero _)
    | succ fu =>
      have e1 : (s 133 1).toNat = C := by rw [h4 133 (Ne.symm k6)]; exact k1
      have nx : ∃ s1 : Mem, f_X8_likely_3 133 g k fu (i + 1) (mup s C i (iFog g i)) = k s1 ∧ (∀ c : Nat, c ≠ C → s1 c = s0 c) ∧ Ag 10 (s1 C) (iFog g) := by
        refine ih fu (i + 1) _ (by omega) (by omega) (by omega) (fun c hc => by rw [mup_o hc]; exact h4 c hc) ?_
        rw [mup_row]
        intro q g1 g2
        by_cases e : q = i
        · rw [up_eq e, e]
        · rw [up_ne e]
          exact h5 q g1 (by omega)
      rw [f_X8_likely_3, if_neg (by omega), e1, gd_t k3, jn_s, wr_n (x := i + 1) (by omega)]
      have ei : iFog g i = if i = g then 1000000 else 0 := rfl
      rw [ei] at nx
      by_cases c : i = g
      · rw [if_pos c]
        show ∃ s1 : Mem, gd _ _ = _ ∧ _
        rw [gd_t (by omega), lm_s]
        rw [if_pos c] at nx
        exact nx
      · rw [if_neg c]
        rw [if_neg c] at nx
        show ∃ s1 : Mem, gd _ _ = _ ∧ _
        rw [gd_t (by omega), lm_s]
        exact nx
theorem c_sum {C N : Nat} (hT : TS s C N) {f : Int → Int} (hf : Ag 10 (s C) f) {b : Int} (hb : 0 ≤ b ∧ b ≤ 9) {k : Int → Res} : f_X8_likely_60 133 k s FU 0 b = k (fo (gSm f) (10 - b).toNat b 0) := by
  obtain ⟨k1, k2, k3, k4, k5, k6, k7⟩ := hT.k1
  refine (fold1 (F := fun n' x i (_ : Mem) => f_X8_likely_60 133 k s n' x i) (k := fun x _ => k x) (s := s) (N := 10) (g := gSm f) (fun _ _ => True) (fun m x i h1 h2 _ => ⟨?_, trivial⟩) (fun m x _ => ?_) (10 - b).toNat FU 0 b (fu_lt (by omega)) hb.1 (by omega) trivial).1
  · show f_X8_likely_60 _ _ _ _ _ _ = _
    rw [f_X8_likely_60, if_neg (by omega), k1, gd_t k3, gd_t (by omega), hf i h1 h2, wr_n (x := i + 1) (by omega)]
    rfl
  · show f_X8_likely_60 _ _ _ _ _ _ = _
    rw [f_X8_likely_60, if_pos (by decide)]
/-! the model -/
theorem m_zer {t0 : Mem} {k : Mem → Res} : ∀ (j fu : Nat) (i : Int) (t : Mem), j < fu → 0 ≤ i → i + j = 10 → (∀ c : Nat, c ≠ 12 → t c = t0 c) → Ag i (t 12) (fun _ => 0) → ∃ t1 : Mem, f_X12_fogs_69 0 k fu i t = k t1 ∧ (∀ c : Nat, c ≠ 12 → t1 c = t0 c) ∧ Ag 10 (t1 12) (fun _ => 0) := by
  intro j
  induction j with
  | zero =>
    intro fu i s h1 h2 h3 h4 h5
    have e : i = 10 := by omega
    cases fu with
    | zero => exact absurd h1 (Nat.not_lt_zero _)
    | succ fu =>
      rw [f_X12_fogs_69, if_pos (by omega)]
      exact ⟨s, rfl, h4, by rw [← e]; exact h5⟩
  | succ j ih =>
    intro fu i s h1 h2 h3 h4 h5
    cases fu with
    | zero => exact absurd h1 (Nat.not_lt_zero _)
    | succ fu =>
      rw [f_X12_fogs_69, if_neg (by omega), gd_t (by omega), lm_s, wr_n (x := i + 1) (by omega), Nat.zero_add]
      refine ih fu (i + 1) _ (by omega) (by omega) (by omega) (fun c hc => by rw [mup_o hc]; exact h4 c hc) ?_
      rw [mup_row]
      intro q g1 g2
      by_cases e : q = i
      · rw [up_eq e]
      · rw [up_ne e]
        exact h5 q g1 (by omega)
theorem m_spr {t0 : Mem} {f : Int → Int} (hf : Ag 10 (t0 11) f) {k : Mem → Res} : ∀ (j fu : Nat) (i : Int) (t : Mem) (g : Int → Int), j < fu → 0 ≤ i → i + j = 10 → (∀ c : Nat, c ≠ 12 → t c = t0 c) → Ag 10 (t 12) g → ∃ t1 : Mem, f_X12_fogs_93 0 k fu i t = k t1 ∧ (∀ c : Nat, c ≠ 12 → t1 c = t0 c) ∧ Ag 10 (t1 12) (fo (gSp f) j i g) := by
  intro j
  induction j with
  | zero =>
    intro fu i s g h1 h2 h3 h4 h5
    cases fu with
    | zero => exact absurd h1 (Nat.not_lt_zero _)
    | succ fu =>
      rw [f_X12_fogs_93, if_pos (by omega)]
      exact ⟨s, rfl, h4, h5⟩
  | succ j ih =>
    intro fu i s g h1 h2 h3 h4 h5
    cases fu with
    | zero => exact absurd h1 (Nat.not_lt_zero _)
    | succ fu =>
      have i10 : 0 ≤ i ∧ i < 10 := by omega
      obtain ⟨a, b⟩ := mx_in i10
      have eC : s 11 = t0 11 := h4 11 (by decide)
      have hs : fo (gSp f) (j + 1) i g = fo (gSp f) j (i + 1) (gSp f i g) := rfl
      have e11 : (0 + 11 : Nat) = 11 := rfl
      have e12 : (0 + 12 : Nat) = 12 := rfl
      have o11 : ∀ (r : Mem) (x v : Int), mup r 12 x v 11 = r 11 := fun r x v => mup_o (by decide)
      rw [f_X12_fogs_93, if_neg (by omega), gd_t i10, gd_t (by decide), wr_n (x := i - 1) (by omega), wr_n (x := i + 1) (by omega), bd_e (e_greater _ _ _), gd_t a, gd_t a, lm_s, bd_e (e_lesser _ _ _), gd_t b, gd_t b, lm_s, gd_t i10, gd_t i10, gd_t i10, lm_s, e11, e12, o11, o11, hs]
      have er : ∀ (r : Mem) (x v : Int), mup r 12 x v 12 = up (r 12) x v := fun r x v => mup_row r 12 x v
      refine ih fu (i + 1) _ (gSp f i g) (by omega) (by omega) (by omega) (fun c hc => by rw [mup_o hc, mup_o hc, mup_o hc]; exact h4 c hc) ?_
      rw [er, er, er]
      have hh := ag_sp (f := s 11) (f' := f) (g := s 12) (g' := g) i10 (by rw [eC]; exact hf) h5
      exact hh
theorem m_cpb {t0 : Mem} {k : Mem → Res} : ∀ (j fu : Nat) (i : Int) (t : Mem), j < fu → 0 ≤ i → i + j = 10 → (∀ c : Nat, c ≠ 11 → t c = t0 c) → Ag i (t 11) (t0 12) → ∃ t1 : Mem, f_X12_fogs_179 0 k fu i t = k t1 ∧ (∀ c : Nat, c ≠ 11 → t1 c = t0 c) ∧ Ag 10 (t1 11) (t0 12) := by
  intro j
  induction j with
  | zero =>
    intro fu i s h1 h2 h3 h4 h5
    have e : i = 10 := by omega
    cases fu with
    | zero => exact absurd h1 (Nat.not_lt_zero _)
    | succ fu =>
      rw [f_X12_fogs_179, if_pos (by omega)]
      exact ⟨s, rfl, h4, by rw [← e]; exact h5⟩
  | succ j ih =>
    intro fu i s h1 h2 h3 h4 h5
    cases fu with
    | zero => exact absurd h1 (Nat.not_lt_zero _)
    | succ fu =>
      have e12 : s (0 + 12) = t0 12 := h4 12 (by decide)
      rw [f_X12_fogs_179, if_neg (by omega), gd_t (by omega), gd_t (by omega), lm_s, wr_n (x := i + 1) (by omega), e12, Nat.zero_add]
      refine ih fu (i + 1) _ (by omega) (by omega) (by omega) (fun c hc => by rw [mup_o hc]; exact h4 c hc) ?_
      rw [mup_row]
      intro q g1 g2
      by_cases e : q = i
      · rw [up_eq e, e]
      · rw [up_ne e]
        exact h5 q g1 (by omega)
theorem m_sps {k : Mem → Res} {n : Int} {t0 : Mem} : ∀ (j fu : Nat) (i : Int) (t : Mem) (f : Int → Int), j < fu → 0 ≤ i → i + j = n → n ≤ 100 → Ag 10 (t 11) f → (∀ c : Nat, c ≠ 11 → c ≠ 12 → t c = t0 c) → ∃ t1 : Mem, f_X12_fogs_61 0 n k fu i t = k t1 ∧ Ag 10 (t1 11) (sSps j f) ∧ ∀ c : Nat, c ≠ 11 → c ≠ 12 → t1 c = t0 c := by
  intro j
  induction j with
  | zero =>
    intro fu i t f h1 h2 h3 h4 h6 h7
    cases fu with
    | zero => exact absurd h1 (Nat.not_lt_zero _)
    | succ fu =>
      rw [f_X12_fogs_61, if_neg (by omega)]
      exact ⟨t, rfl, h6, h7⟩
  | succ j ih =>
    intro fu i t f h1 h2 h3 h4 h6 h7
    cases fu with
    | zero => exact absurd h1 (Nat.not_lt_zero _)
    | succ fu =>
      rw [f_X12_fogs_61, if_pos (by omega), jn_s, wr_n (x := i + 1) (by omega)]
      obtain ⟨t1, a1, a2, a3⟩ := m_zer (t0 := t) (k := fun (s13 : Mem) => jn (fun (s14 : Mem) => jn (fun (s15 : Mem) => f_X12_fogs_61 0 n k fu (i + 1) s15) fun j206 => f_X12_fogs_179 0 j206 FU 0 s14) fun j176 => f_X12_fogs_93 0 j176 FU 0 s13) 10 FU 0 t (fu_lt (by omega)) (by decide) (by decide) (fun _ _ => rfl) (fun k g1 g2 => absurd g2 (by omega))
      obtain ⟨t2, b1, b2, b3⟩ := m_spr (t0 := t1) (f := f) (by rw [a2 11 (by decide)]; exact h6) (k := fun (s14 : Mem) => jn (fun (s15 : Mem) => f_X12_fogs_61 0 n k fu (i + 1) s15) fun j206 => f_X12_fogs_179 0 j206 FU 0 s14) 10 FU 0 t1 (fun _ => 0) (fu_lt (by omega)) (by decide) (by decide) (fun _ _ => rfl) a3
      obtain ⟨t3, d1, d2, d3⟩ := m_cpb (t0 := t2) (k := fun (s15 : Mem) => f_X12_fogs_61 0 n k fu (i + 1) s15) 10 FU 0 t2 (fu_lt (by omega)) (by decide) (by decide) (fun _ _ => rfl) (fun k g1 g2 => absurd g2 (by omega))
      rw [a1, jn_s, b1, jn_s, d1]
      exact ih fu (i + 1) t3 (sSpr f) (by omega) (by omega) (by omega) h4 (d3.tr b3) (fun c c1 c2 => by rw [d2 c c1, b2 c c2, a2 c c2]; exact h7 c c1 c2)
theorem m_ini {t0 : Mem} {k : Mem → Res} : ∀ (j fu : Nat) (i : Int) (t : Mem), j < fu → 0 ≤ i → i + j = 10 → (∀ c : Nat, c ≠ 11 → t c = t0 c) → Ag i (t 11) (iFog (t0 1 1)) → ∃ t1 : Mem, f_X12_fogs_24 0 k fu i t = k t1 ∧ (∀ c : Nat, c ≠ 11 → t1 c = t0 c) ∧ Ag 10 (t1 11) (iFog (t0 1 1)) := by
  intro j
  induction j with
  | zero =>
    intro fu i s h1 h2 h3 h4 h5
    have e : i = 10 := by omega
    cases fu with
    | zero => exact absurd h1 (Nat.not_lt_zero _)
    | succ fu =>
      rw [f_X12_fogs_24, if_pos (by omega)]
      exact ⟨s, rfl, h4, by rw [← e]; exact h5⟩
  | succ j ih =>
    intro fu i s h1 h2 h3 h4 h5
    cases fu with
    | zero => exact absurd h1 (Nat.not_lt_zero _)
    | succ fu =>
      have nx : ∃ s1 : Mem, f_X12_fogs_24 0 k fu (i + 1) (mup s 11 i (iFog (t0 1 1) i)) = k s1 ∧ (∀ c : Nat, c ≠ 11 → s1 c = t0 c) ∧ Ag 10 (s1 11) (iFog (t0 1 1)) := by
        refine ih fu (i + 1) _ (by omega) (by omega) (by omega) (fun c hc => by rw [mup_o hc]; exact h4 c hc) ?_
        rw [mup_row]
        intro q g1 g2
        by_cases e : q = i
        · rw [up_eq e, e]
        · rw [up_ne e]
          exact h5 q g1 (by omega)
      have e1 : s (0 + 1) 1 = t0 1 1 := by rw [Nat.zero_add, h4 1 (by decide)]
      rw [f_X12_fogs_24, if_neg (by omega), gd_t (by decide), jn_s, e1, wr_n (x := i + 1) (by omega), Nat.zero_add]
      have ei : iFog (t0 1 1) i = if i = t0 1 1 then 1000000 else 0 := rfl
      rw [ei] at nx
      by_cases c : i = t0 1 1
      · rw [if_pos c]
        show ∃ s1 : Mem, gd _ _ = _ ∧ _
        rw [gd_t (by omega), lm_s]
        rw [if_pos c] at nx
        exact nx
      · rw [if_neg c]
        rw [if_neg c] at nx
        show ∃ s1 : Mem, gd _ _ = _ ∧ _
        rw [gd_t (by omega), lm_s]
        exact nx
theorem m_sum {f : Int → Int} (hf : Ag 10 (t 11) f) {b : Int} (hb : 0 ≤ b ∧ b ≤ 9) {k : Int → Res} : f_X12_fogs_217 0 k t FU 0 b = k (fo (gSm f) (10 - b).toNat b 0) := by
  refine (fold1 (F := fun n' x i (_ : Mem) => f_X12_fogs_217 0 k t n' x i) (k := fun x _ => k x) (s := t) (N := 10) (g := gSm f) (fun _ _ => True) (fun m x i h1 h2 _ => ⟨?_, trivial⟩) (fun m x _ => ?_) (10 - b).toNat FU 0 b (fu_lt (by omega)) hb.1 (by omega) trivial).1
  · show f_X12_fogs_217 _ _ _ _ _ _ = _
    rw [f_X12_fogs_217, if_neg (by omega), gd_t (by omega), Nat.zero_add, hf i h1 h2, wr_n (x := i + 1) (by omega)]
    rfl
  · show f_X12_fogs_217 _ _ _ _ _ _ = _
    rw [f_X12_fogs_217, if_pos (by decide)]
theorem k_fogs (h : IV s t) (f n : Int) : Sim (f_X11_fogs 0 f n s) (f_X12_fogs 0 f n t) := by
  obtain ⟨C, N, hT⟩ : ∃ C N : Nat, TS s C N := by
    rcases h.2.2.2.2 with ⟨a, b⟩ | ⟨a, b⟩
    · exact ⟨135, 136, a, b, Or.inl ⟨rfl, rfl⟩⟩
    · exact ⟨136, 135, a, b, Or.inr ⟨rfl, rfl⟩⟩
  unfold f_X11_fogs f_X12_fogs
  simp only [Nat.zero_add, Nat.reduceAdd]
  rw [bd_e (e_within _ _ _ _), bd_e (e_isIn _ _ _ _), bI_z, bI_z]
  by_cases c : 0 ≤ f ∧ f ≤ 9
  · rw [if_pos c, if_pos c, bd_e (e_within _ _ _ _), bd_e (e_isIn _ _ _ _), bI_z, bI_z]
    by_cases c1 : 0 ≤ n ∧ n ≤ 48
    · rw [if_pos c1, if_pos c1, h.nr.fog, jn_s]
      unfold f_X8_likely
      rw [jn_s]
      obtain ⟨s1, a1, a2, a3⟩ := c_ini (s0 := s) hT (g := t 1 1) (k := fun (s1 : Mem) => jn (fun (s2 : Mem) => jn (fun (v3 : Int) => some (v3, s2)) fun j85 => f_X8_likely_60 133 j85 s2 FU 0 f) fun j54 => f_X8_likely_38 133 n j54 FU 0 s1) 10 FU 0 s (fu_lt (by omega)) (by decide) (by decide) (fun _ _ => rfl) (fun k g1 g2 => absurd g2 (by omega))
      have hC := hT.k1
      have T1 : TS s1 C N := by
        unfold TS
        rw [a2 133 (Ne.symm hC.2.2.2.2.2.1)]
        exact hT
      have hCN := hT.2.2
      obtain ⟨s2, C2, N2, b1, b2, b3, b4⟩ := c_sps (s0 := s) (n := n) (k := fun (s2 : Mem) => jn (fun (v3 : Int) => some (v3, s2)) fun j85 => f_X8_likely_60 133 j85 s2 FU 0 f) n.toNat FU 0 s1 (iFog (t 1 1)) C N (fu_lt (by omega)) (by decide) (by omega) (by omega) T1 a3 (fun c q1 q2 q3 => a2 c (by omega))
      obtain ⟨t1, d1, d2, d3⟩ := m_ini (t0 := t) (k := fun (s7 : Mem) => jn (fun (s8 : Mem) => jn (fun (v9 : Int) => some (v9, s8)) fun j240 => f_X12_fogs_217 0 j240 s8 FU 0 f) fun j212 => f_X12_fogs_61 0 n j212 FU 0 s7) 10 FU 0 t (fu_lt (by omega)) (by decide) (by decide) (fun _ _ => rfl) (fun k g1 g2 => absurd g2 (by omega))
      obtain ⟨t2, e1, e2, e3⟩ := m_sps (t0 := t) (n := n) (k := fun (s8 : Mem) => jn (fun (v9 : Int) => some (v9, s8)) fun j240 => f_X12_fogs_217 0 j240 s8 FU 0 f) n.toNat FU 0 t1 (iFog (t 1 1)) (fu_lt (by omega)) (by decide) (by omega) (by omega) d3 (fun c q1 q2 => d2 c q1)
      rw [a1, jn_s, b1, jn_s, c_sum b2 b3 c, d1, jn_s, e1, jn_s, m_sum e2 c, bd_s]
      refine Sim.rf ?_ _
      refine h.sct ?_ (fun c _ _ _ _ q => b4 c (by omega) (by omega) (by omega)) (fun c _ _ q => e3 c (by omega) (by omega)) (fun i _ => by rw [e3 0 (by decide) (by decide)])
      obtain ⟨x1, x2, x3⟩ := b2
      rcases x3 with ⟨y1, y2⟩ | ⟨y1, y2⟩
      · exact Or.inl ⟨by rw [x1, y1]; rfl, by rw [x2, y2]; rfl⟩
      · exact Or.inr ⟨by rw [x1, y1]; rfl, by rw [x2, y2]; rfl⟩
    · rw [if_neg c1, if_neg c1]
      exact Sim.rf h _
  · rw [if_neg c, if_neg c]
    exact Sim.rf h _
end

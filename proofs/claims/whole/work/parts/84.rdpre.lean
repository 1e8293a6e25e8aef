/-! ===== L3: texts: before the reading ===== -/
theorem c_clr {k : Mem → Res} : ∀ (j fu : Nat) (x : Int) (s : Mem), j < fu → 0 ≤ x → x + j = 12 → (∀ v : Int, 0 ≤ v → v < x → s 253 v = 0 ∧ s 254 v = 0 ∧ s 255 v = 0) →
    ∃ s1 : Mem, f_X9_clear_2 252 k fu x s = k s1 ∧ (∀ c : Nat, c ≠ 253 → c ≠ 254 → c ≠ 255 → s1 c = s c) ∧ ∀ v : Int, 0 ≤ v → v < 12 → s1 253 v = 0 ∧ s1 254 v = 0 ∧ s1 255 v = 0 := by
  intro j
  induction j with
  | zero =>
    intro fu x s h1 h2 h3 h4
    cases fu with
    | zero => exact absurd h1 (Nat.not_lt_zero _)
    | succ fu =>
      rw [f_X9_clear_2, if_neg (by omega)]
      exact ⟨s, rfl, fun _ _ _ _ => rfl, fun v g1 g2 => h4 v g1 (by omega)⟩
  | succ j ih =>
    intro fu x s h1 h2 h3 h4
    cases fu with
    | zero => exact absurd h1 (Nat.not_lt_zero _)
    | succ fu =>
      rw [f_X9_clear_2, if_pos (by omega)]
      simp only [Nat.reduceAdd]
      rw [gd_t (by omega), lm_s, gd_t (by omega), lm_s, gd_t (by omega), lm_s, wr_n (x := x + 1) (by omega)]
      obtain ⟨s1, a1, a2, a3⟩ := ih fu (x + 1) (mup (mup (mup s 253 x 0) 254 x 0) 255 x 0) (by omega) (by omega) (by omega) (fun v g1 g2 => by
        rw [mup_o (a' := 253) (by decide), mup_o (a' := 253) (by decide), mup_row, mup_o (a' := 254) (by decide), mup_row, mup_o (a' := 254) (by decide), mup_row, mup_o (a' := 255) (by decide), mup_o (a' := 255) (by decide)]
        by_cases e : v = x
        · rw [up_eq e, up_eq e, up_eq e]
          exact ⟨rfl, rfl, rfl⟩
        · rw [up_ne e, up_ne e, up_ne e]
          exact h4 v g1 (by omega))
      exact ⟨s1, a1, fun c q1 q2 q3 => by rw [a2 c q1 q2 q3, mup_o q3, mup_o q2, mup_o q1], a3⟩
/-- the class stands before the first line -/
def Pre (s s1 : Mem) (T : List Tk) : Prop := (∀ c : Nat, c < 236 → s1 c = s c) ∧ (s1 236 4 = 0 ∧ s1 236 5 = 0 ∧ s1 236 6 = -1) ∧ LsT s1 T ∧ s1 236 12 = 0 ∧ (s1 237 4 = 0 ∧ s1 237 5 = 0 ∧ s1 244 2 = 0 ∧ s1 247 4 = 0 ∧ s1 252 3 = 0) ∧ ∀ v : Int, 0 ≤ v → v < 12 → s1 253 v = 0 ∧ s1 254 v = 0 ∧ s1 255 v = 0
theorem c_pre {s : Mem} {L : Nat} (hL : s 236 4 = L) (hL4 : L ≤ 400) (hB : Byt (s 256) L) (k bo : Int) : (¬ (0 ≤ k ∧ k ≤ 3) → ∃ s1 : Mem, f_X7_reads 236 k bo s = some (0, s1) ∧ (∀ c : Nat, c < 236 → s1 c = s c) ∧ (s1 236 4 = 0 ∧ s1 236 5 = 0 ∧ s1 236 6 = -1)) ∧ (0 ≤ k ∧ k ≤ 3 → ∃ s1 : Mem, f_X7_reads 236 k bo s = f_X7_reads_71 236 k bo FU 0 s1 ∧ Pre s s1 (TL (s 256) L 0) ∧ (TL (s 256) L 0).length ≤ 401) := by
  have e256 : mup (mup s 236 5 0) 236 6 (-1) 256 = s 256 := by rw [mup_o (by decide), mup_o (by decide)]
  obtain ⟨s3, a1, a2, a3, a4, a5⟩ := c_cut (s0 := mup (mup s 236 5 0) 236 6 (-1)) (L := L) (by rw [mup_n (Or.inr (by decide)), mup_n (Or.inr (by decide))]; exact hL) hL4 (by rw [e256]; exact hB)
  rw [e256] at a2 a5
  have x5 : s3 236 5 = 0 := by rw [a3.2 5 (by decide) (by decide), mup_n (Or.inr (by decide)), mup_e rfl rfl]
  have x6 : s3 236 6 = -1 := by rw [a3.2 6 (by decide) (by decide), mup_e rfl rfl]
  have xo : ∀ c : Nat, c < 236 → s3 c = s c := fun c hc => by rw [a3.1 c (by omega) (by omega) (by omega) (by omega), mup_o (by omega), mup_o (by omega)]
  unfold f_X7_reads
  simp only [Nat.reduceAdd]
  rw [lm_s, lm_s, bd_e a1, lm_s, bd_e (e_within _ _ _ _), bI_z]
  constructor
  · intro hk
    rw [if_neg hk]
    exact ⟨_, rfl, fun c hc => by rw [mup_o (by omega)]; exact xo c hc, mup_e rfl rfl, by rw [mup_n (Or.inr (by decide))]; exact x5, by rw [mup_n (Or.inr (by decide))]; exact x6⟩
  · intro hk
    rw [if_pos hk, lm_s, lm_s, lm_s, lm_s]
    unfold f_X9_clear
    rw [jn_s]
    obtain ⟨s4, b1, b2, b3⟩ := c_clr (k := fun s1 => lm (mup s1 252 3 0) fun s2 => some (0, s2)) 12 FU 0 (mup (mup (mup (mup (mup s3 236 4 0) 237 4 0) 237 5 0) 244 2 0) 247 4 0) (fu_lt (by decide)) (Int.le_refl 0) rfl (fun v g1 g2 => by omega)
    rw [b1, lm_s, bd_s]
    refine ⟨_, rfl, ⟨fun c hc => ?_, ⟨?_, ?_, ?_⟩, ⟨?_, ?_, ?_, ?_⟩, ?_, ⟨?_, ?_, ?_, ?_, ?_⟩, fun v g1 g2 => ?_⟩, a5⟩
    · rw [mup_o (by omega), b2 c (by omega) (by omega) (by omega), mup_o (by omega), mup_o (by omega), mup_o (by omega), mup_o (by omega), mup_o (by omega)]
      exact xo c hc
    · rw [mup_o (by decide), b2 236 (by decide) (by decide) (by decide), mup_o (by decide), mup_o (by decide), mup_o (by decide), mup_o (by decide), mup_e rfl rfl]
    · rw [mup_o (by decide), b2 236 (by decide) (by decide) (by decide), mup_o (by decide), mup_o (by decide), mup_o (by decide), mup_o (by decide), mup_n (Or.inr (by decide))]
      exact x5
    · rw [mup_o (by decide), b2 236 (by decide) (by decide) (by decide), mup_o (by decide), mup_o (by decide), mup_o (by decide), mup_o (by decide), mup_n (Or.inr (by decide))]
      exact x6
    · rw [mup_o (by decide), b2 257 (by decide) (by decide) (by decide), mup_o (by decide), mup_o (by decide), mup_o (by decide), mup_o (by decide), mup_o (by decide)]
      exact a2.1
    · rw [mup_o (by decide), b2 258 (by decide) (by decide) (by decide), mup_o (by decide), mup_o (by decide), mup_o (by decide), mup_o (by decide), mup_o (by decide)]
      exact a2.2.1
    · rw [mup_o (by decide), b2 259 (by decide) (by decide) (by decide), mup_o (by decide), mup_o (by decide), mup_o (by decide), mup_o (by decide), mup_o (by decide)]
      exact a2.2.2.1
    · rw [mup_o (by decide), b2 236 (by decide) (by decide) (by decide), mup_o (by decide), mup_o (by decide), mup_o (by decide), mup_o (by decide), mup_n (Or.inr (by decide))]
      exact a2.2.2.2
    · rw [mup_o (by decide), b2 236 (by decide) (by decide) (by decide), mup_o (by decide), mup_o (by decide), mup_o (by decide), mup_o (by decide), mup_n (Or.inr (by decide))]
      exact a4
    · rw [mup_o (by decide), b2 237 (by decide) (by decide) (by decide), mup_o (by decide), mup_o (by decide), mup_n (Or.inr (by decide)), mup_e rfl rfl]
    · rw [mup_o (by decide), b2 237 (by decide) (by decide) (by decide), mup_o (by decide), mup_o (by decide), mup_e rfl rfl]
    · rw [mup_o (by decide), b2 244 (by decide) (by decide) (by decide), mup_o (by decide), mup_e rfl rfl]
    · rw [mup_o (by decide), b2 247 (by decide) (by decide) (by decide), mup_e rfl rfl]
    · rw [mup_e rfl rfl]
    · rw [mup_o (by decide), mup_o (by decide), mup_o (by decide)]
      exact b3 v g1 g2
section
variable {T : List Tk} {B : Int → Int} {L : Nat} {s t : Mem}
/-- all of it read -/
theorem rd_0 (hc : PC T B L 0) (h : PT T B L 0 s t T) (h4 : s 237 4 = 0) (h5 : s 237 5 = 0) (bo : Int) : Two (f_X7_reads_71 236 0 bo FU 0 s) (f_X12_readsLaw 0 t) s t (fun s1 t1 => ∃ (lw : List Lin) (R' : List Tk), R' ≠ [] ∧ LI T B L R' lw s1 t1) := by
  have hT := hc.2.2.1
  unfold f_X12_readsLaw
  rw [lm_s, lm_s]
  have g : FM t (mup (mup t 0 13 0) 0 14 0) := ((FM.rf t).up0 (by decide) _).up0 (by decide) _
  refine Two.fr (FC.rf s) g ?_
  have hL : LI T B L T [] s (mup (mup t 0 13 0) 0 14 0) := by
    refine ⟨⟨h.sc (fun _ _ => rfl) ⟨rfl, rfl⟩ (fun i hi => by rw [mup_n (Or.inr (by omega)), mup_n (Or.inr (by omega))]) (by rw [mup_o (by decide), mup_o (by decide)]), ⟨trivial, h5⟩, trivial, ?_⟩, ⟨h4, by decide, trivial⟩, ⟨?_, trivial⟩, (fun l hl => by cases hl), ?_, ?_⟩
    · rw [mup_e rfl rfl]
      rfl
    · rw [mup_n (Or.inr (by decide)), mup_e rfl rfl]
      rfl
    · show 0 + T.length ≤ T.length
      omega
    · show 0 + T.length ≤ T.length
      omega
  have nx := l_lawR hc (bo := bo) T.length FU FU 0 [] s (mup (mup t 0 13 0) 0 14 0) T (Nat.le_refl _) (fu_lt (by omega)) (fu_lt (by omega)) (by omega) hL
  exact nx
theorem rd_1 (hc : PC T B L 1) (h : PT T B L 1 s t T) (h2 : s 244 2 = 0) (bo : Int) : Two (f_X7_reads_71 236 1 bo FU 0 s) (f_X12_readsRows 0 t) s t (fun s1 t1 => ∃ n : Nat, CuR s1 t1 n) := by
  have hT := hc.2.2.1
  have e12 : mup t 0 15 0 0 12 = 1 := by rw [mup_n (Or.inr (by decide))]; exact h.2.2.2.2.2
  unfold f_X12_readsRows
  rw [lm_s]
  show Two _ (jn _ _) s t _
  rw [jn_s, if_pos e12]
  show Two _ (jn _ _) s t _
  rw [jn_s]
  show Two _ (jn _ _) s t _
  rw [jn_s]
  refine Two.fr (FC.rf s) ((FM.rf t).up0 (i := 15) (by decide) 0) ?_
  have nx := l_rows hc (by decide) (bo := bo) (m := 7) ⟨7, by decide, rfl, by decide, by decide⟩ (I := CuR) (fun s t n q => ⟨q.2.1, q.2.2.1⟩) (fun s t x R n q1 q2 => l_curr hc q1 q2) T.length FU FU 0 0 s (mup t 0 15 0) T (Nat.le_refl _) (fu_lt (by omega)) (fu_lt (by omega)) (by omega) (h.sc (fun _ _ => rfl) ⟨rfl, rfl⟩ (fun i hi => mup_n (Or.inr (by omega))) (mup_o (by decide))) ⟨h2, mup_e rfl rfl, by decide, fun i g1 g2 => by omega⟩
  exact nx
theorem rd_2 (hc : PC T B L 2) (h : PT T B L 2 s t T) (h4 : s 247 4 = 0) {bo : Int} (hbo : 0 ≤ bo ∧ bo ≤ 10) (h58 : t 1 58 = bo) : Two (f_X7_reads_71 236 2 bo FU 0 s) (f_X12_readsRows 0 t) s t (fun s1 t1 => ∃ n : Nat, PlR bo s1 t1 n) := by
  have hT := hc.2.2.1
  have e12 : mup t 0 15 0 0 12 = 2 := by rw [mup_n (Or.inr (by decide))]; exact h.2.2.2.2.2
  unfold f_X12_readsRows
  rw [lm_s]
  show Two _ (jn _ _) s t _
  rw [jn_s, if_neg (by rw [e12]; decide), if_pos e12]
  show Two _ (jn _ _) s t _
  rw [jn_s]
  show Two _ (jn _ _) s t _
  rw [jn_s]
  refine Two.fr (FC.rf s) ((FM.rf t).up0 (i := 15) (by decide) 0) ?_
  have nx := l_rows hc (by decide) (bo := bo) (m := 10) ⟨20, by decide, rfl, by decide, by decide⟩ (I := PlR bo) (fun s t n q => ⟨q.2.1, q.2.2.1⟩) (fun s t x R n q1 q2 => l_plan hc q1 hbo q2) T.length FU FU 0 0 s (mup t 0 15 0) T (Nat.le_refl _) (fu_lt (by omega)) (fu_lt (by omega)) (by omega) (h.sc (fun _ _ => rfl) ⟨rfl, rfl⟩ (fun i hi => mup_n (Or.inr (by omega))) (mup_o (by decide))) ⟨h4, mup_e rfl rfl, by decide, by rw [mup_o (by decide)]; exact h58, fun i g1 g2 => by omega⟩
  exact nx
theorem rd_3 (hc : PC T B L 3) (h : PT T B L 3 s t T) (h3 : s 252 3 = 0) (hz : ∀ v : Int, 0 ≤ v → v < 12 → s 253 v = 0 ∧ s 254 v = 0 ∧ s 255 v = 0) (bo : Int) : Two (f_X7_reads_71 236 3 bo FU 0 s) (f_X12_readsRows 0 t) s t (fun s1 t1 => ∃ n : Nat, VlR s1 t1 n) := by
  have hT := hc.2.2.1
  have e12 : mup t 0 15 0 0 12 = 3 := by rw [mup_n (Or.inr (by decide))]; exact h.2.2.2.2.2
  unfold f_X12_readsRows
  rw [lm_s]
  show Two _ (jn _ _) s t _
  rw [jn_s, if_neg (by rw [e12]; decide), if_neg (by rw [e12]; decide)]
  show Two _ (jn _ _) s t _
  rw [jn_s]
  show Two _ (jn _ _) s t _
  rw [jn_s]
  refine Two.fr (FC.rf s) ((FM.rf t).up0 (i := 15) (by decide) 0) ?_
  have hV : VlR s (mup t 0 15 0) 0 := by
    refine ⟨⟨h3, (cn_0 12 (fun v g1 g2 => (hz v g1 (by omega)).1)).symm, fun v g1 g2 => ?_⟩, fun a b g1 g2 g3 g4 => ?_, mup_e rfl rfl, fun i g1 g2 => by omega, fun v g1 g2 g3 => ?_⟩
    · rw [(hz v g1 g2).1, (hz v g1 g2).2.2]
      decide
    · rw [(hz a g1 g2).2.1]
      refine ⟨by decide, fun q => absurd q (bt_0 ⟨g3, g4⟩), fun q => ?_⟩
      have := q.1
      rw [(hz a g1 g2).1] at this
      exact absurd this (by decide)
    · rw [(hz v g1 g2).1] at g3
      exact absurd g3 (by decide)
  have nx := l_rows hc (by decide) (bo := bo) (m := 16) ⟨25, by decide, rfl, by decide, by decide⟩ (I := VlR) (fun s t n q => ⟨q.2.2.1, by have := q.1.le; omega⟩) (fun s t x R n q1 q2 => l_vil hc q1 q2) T.length FU FU 0 0 s (mup t 0 15 0) T (Nat.le_refl _) (fu_lt (by omega)) (fu_lt (by omega)) (by omega) (h.sc (fun _ _ => rfl) ⟨rfl, rfl⟩ (fun i hi => mup_n (Or.inr (by omega))) (mup_o (by decide))) hV
  exact nx
end

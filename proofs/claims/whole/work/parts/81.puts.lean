/-! ===== L3: texts: what the model puts in ===== -/
theorem m_puts {t : Mem} {n : Nat} (hn : n ≤ 16) (h15 : t 0 15 = n) {a b c : Int} (ha : 0 ≤ a ∧ a < b) (hb : b ≤ 200) (hc : c = 2 ∨ c = 4) : ∃ t1 : Mem, f_X12_puts 0 a b c t = some ((n : Int), t1) ∧ (∀ e : Nat, e ≠ 1 → t1 e = t e) ∧ t1 1 a = n ∧ (∀ i : Int, 0 ≤ i → i < c * n → t1 1 (b + i) = t 7 i) ∧ ∀ i : Int, i ≠ a → ¬ (b ≤ i ∧ i < b + c * n) → t1 1 i = t 1 i := by
  unfold f_X12_puts
  simp only [Nat.zero_add]
  rw [gd_t (by omega), h15, lm_s]
  show ∃ t1 : Mem, jn _ _ = _ ∧ _
  rw [jn_s]
  have hcn : 0 ≤ c * (n : Int) ∧ c * (n : Int) ≤ 64 := by
    rcases hc with rfl | rfl <;> omega
  have hN : ((c * (n : Int)).toNat : Int) = c * n := by omega
  have q15 : mup t 1 a (n : Int) 0 15 = n := by rw [mup_o (by decide)]; exact h15
  rw [cpl (F := fun fu x s => f_X12_puts_13 0 b c (fun s3 => some (s3 0 15, s3)) fu x s) (k := fun s3 => some (s3 0 15, s3)) (a := 1) (b := 7) (N := c * n) (o := b) (p := 0) (G := fun s => s 0 15 = n) (Or.inl (by decide)) (fun m x s hg h1 h2 => by
      show f_X12_puts_13 0 b c _ (m + 1) x s = _
      rw [f_X12_puts_13, hg, wr_n (x := c * (n : Int)) (by omega), if_pos h2, gd_t (by omega), wr_n (x := b + x) (by omega), gd_t (by omega), wr_n (x := x + 1) (by omega), lm_s, Int.zero_add]) (fun m x s hg h1 => by
      show f_X12_puts_13 0 b c _ (m + 1) x s = _
      rw [f_X12_puts_13, hg, wr_n (x := c * (n : Int)) (by omega), if_neg h1]) (fun s x v hg => by rw [mup_o (by decide)]; exact hg) (c * (n : Int)).toNat FU 0 _ q15 (fu_lt (by omega)) (Int.le_refl 0) (by omega)]
  refine ⟨_, by rw [sr_o (by decide), q15], fun e he => by rw [sr_o he, mup_o he], ?_, fun i h1 h2 => ?_, fun i h1 h2 => ?_⟩
  · rw [sr_e, if_neg (by omega), mup_e rfl rfl]
  · rw [sr_e, if_pos (by omega), mup_o (by decide)]
    congr 1
    omega
  · rw [sr_e, if_neg (by omega), mup_n (Or.inr h1)]
theorem m_pl13 {k : Mem → Res} {n : Nat} (hn : n ≤ 16) : ∀ (j fu : Nat) (i : Int) (t : Mem), j < fu → 0 ≤ i → i + j = n → t 0 13 = n →
    ∃ t1 : Mem, f_X12_putsLaw_13 0 k fu i t = k t1 ∧ (∀ e : Nat, e ≠ 1 → t1 e = t e) ∧ (∀ x : Int, i ≤ x → x < n → t1 1 (848 + x) = t 5 (4 * x) ∧ t1 1 (864 + x) = t 5 (4 * x + 1) ∧ t1 1 (880 + x) = t 5 (4 * x + 2) ∧ t1 1 (896 + x) = t 5 (4 * x + 3)) ∧ (∀ x : Int, ¬ (∃ y : Int, i ≤ y ∧ y < n ∧ (x = 848 + y ∨ x = 864 + y ∨ x = 880 + y ∨ x = 896 + y)) → t1 1 x = t 1 x) := by
  intro j
  induction j with
  | zero =>
    intro fu i t h1 h2 h3 h4
    cases fu with
    | zero => exact absurd h1 (Nat.not_lt_zero _)
    | succ fu =>
      rw [f_X12_putsLaw_13, h4, if_neg (by omega)]
      exact ⟨t, rfl, fun _ _ => rfl, fun x g1 g2 => absurd g2 (by omega), fun _ _ => rfl⟩
  | succ j ih =>
    intro fu i t h1 h2 h3 h4
    cases fu with
    | zero => exact absurd h1 (Nat.not_lt_zero _)
    | succ fu =>
      have W0 : wr (4 * i) = 4 * i := wr_n (by omega)
      have W1 : wr (4 * i + 1) = 4 * i + 1 := wr_n (by omega)
      have W2 : wr (4 * i + 2) = 4 * i + 2 := wr_n (by omega)
      have W3 : wr (4 * i + 3) = 4 * i + 3 := wr_n (by omega)
      have V0 : wr (848 + i) = 848 + i := wr_n (by omega)
      have V1 : wr (864 + i) = 864 + i := wr_n (by omega)
      have V2 : wr (880 + i) = 880 + i := wr_n (by omega)
      have V3 : wr (896 + i) = 896 + i := wr_n (by omega)
      have X : wr (i + 1) = i + 1 := wr_n (by omega)
      have g0 : 0 ≤ 4 * i ∧ 4 * i < 64 := by omega
      have g1 : 0 ≤ 4 * i + 1 ∧ 4 * i + 1 < 64 := by omega
      have g2 : 0 ≤ 4 * i + 2 ∧ 4 * i + 2 < 64 := by omega
      have g3 : 0 ≤ 4 * i + 3 ∧ 4 * i + 3 < 64 := by omega
      have l0 : 0 ≤ 848 + i ∧ 848 + i < 1732 := by omega
      have l1 : 0 ≤ 864 + i ∧ 864 + i < 1732 := by omega
      have l2 : 0 ≤ 880 + i ∧ 880 + i < 1732 := by omega
      have l3 : 0 ≤ 896 + i ∧ 896 + i < 1732 := by omega
      have e5 : ∀ (u v w : Int), mup t 1 u v 5 w = t 5 w := fun u v w => by rw [mup_o (by decide)]
      have e52 : ∀ (u v u' v' w : Int), mup (mup t 1 u v) 1 u' v' 5 w = t 5 w := fun u v u' v' w => by rw [mup_o (by decide), mup_o (by decide)]
      have e53 : ∀ (u v u' v' u2 v2 w : Int), mup (mup (mup t 1 u v) 1 u' v') 1 u2 v2 5 w = t 5 w := fun u v u' v' u2 v2 w => by rw [mup_o (by decide), mup_o (by decide), mup_o (by decide)]
      rw [f_X12_putsLaw_13, h4, if_pos (by omega)]
      simp only [Nat.zero_add]
      rw [W0, W1, W2, W3, V0, V1, V2, V3, X, gd_t g0, gd_t l0, lm_s, gd_t g1, gd_t l1, lm_s, gd_t g2, gd_t l2, lm_s, gd_t g3, gd_t l3, lm_s, e5, e52, e53]
      obtain ⟨t1, a1, a2, a3, a4⟩ := ih fu (i + 1) (mup (mup (mup (mup t 1 (848 + i) (t 5 (4 * i))) 1 (864 + i) (t 5 (4 * i + 1))) 1 (880 + i) (t 5 (4 * i + 2))) 1 (896 + i) (t 5 (4 * i + 3))) (by omega) (by omega) (by omega) (by rw [mup_o (by decide), mup_o (by decide), mup_o (by decide), mup_o (by decide)]; exact h4)
      refine ⟨t1, a1, fun e he => by rw [a2 e he, mup_o he, mup_o he, mup_o he, mup_o he], fun x q1 q2 => ?_, fun x hx => ?_⟩
      · by_cases e : x = i
        · subst e
          refine ⟨?_, ?_, ?_, ?_⟩
          · rw [a4 _ (fun ⟨y, y1, y2, y3⟩ => by omega), mup_n (Or.inr (by omega)), mup_n (Or.inr (by omega)), mup_n (Or.inr (by omega)), mup_e rfl rfl]
          · rw [a4 _ (fun ⟨y, y1, y2, y3⟩ => by omega), mup_n (Or.inr (by omega)), mup_n (Or.inr (by omega)), mup_e rfl rfl]
          · rw [a4 _ (fun ⟨y, y1, y2, y3⟩ => by omega), mup_n (Or.inr (by omega)), mup_e rfl rfl]
          · rw [a4 _ (fun ⟨y, y1, y2, y3⟩ => by omega), mup_e rfl rfl]
        · have := a3 x (by omega) q2
          rw [mup_o (by decide), mup_o (by decide), mup_o (by decide), mup_o (by decide)] at this
          exact this
      · rw [a4 x (fun ⟨y, y1, y2, y3⟩ => hx ⟨y, by omega, y2, y3⟩)]
        have n0 : x ≠ 848 + i := fun e => hx ⟨i, by omega, by omega, Or.inl e⟩
        have n1 : x ≠ 864 + i := fun e => hx ⟨i, by omega, by omega, Or.inr (Or.inl e)⟩
        have n2 : x ≠ 880 + i := fun e => hx ⟨i, by omega, by omega, Or.inr (Or.inr (Or.inl e))⟩
        have n3 : x ≠ 896 + i := fun e => hx ⟨i, by omega, by omega, Or.inr (Or.inr (Or.inr e))⟩
        rw [mup_n (Or.inr n3), mup_n (Or.inr n2), mup_n (Or.inr n1), mup_n (Or.inr n0)]
theorem m_putsLaw {t : Mem} {n m : Nat} (hn : n ≤ 16) (hm : m ≤ 410) (h13 : t 0 13 = n) (h14 : t 0 14 = m) : ∃ t1 : Mem, f_X12_putsLaw 0 t = some ((n : Int), t1) ∧ (∀ e : Nat, e ≠ 1 → t1 e = t e) ∧ t1 1 59 = n ∧ (∀ x : Int, 0 ≤ x → x < n → t1 1 (848 + x) = t 5 (4 * x) ∧ t1 1 (864 + x) = t 5 (4 * x + 1) ∧ t1 1 (880 + x) = t 5 (4 * x + 2) ∧ t1 1 (896 + x) = t 5 (4 * x + 3)) ∧ (∀ q : Int, 0 ≤ q → q < 2 * m → t1 1 (912 + q) = t 6 q) ∧ ∀ x : Int, x ≠ 59 → x < 848 → t1 1 x = t 1 x := by
  unfold f_X12_putsLaw
  simp only [Nat.zero_add]
  rw [gd_t (by decide), h13, lm_s]
  show ∃ t1 : Mem, jn _ _ = _ ∧ _
  rw [jn_s]
  obtain ⟨t0, a1, a2, a3, a4⟩ := m_pl13 (k := fun s3 => jn (fun (s4 : Mem) => some (s4 0 13, s4)) fun j139 => f_X12_putsLaw_107 0 j139 FU 0 s3) hn n FU 0 (mup t 1 59 (n : Int)) (fu_lt (by omega)) (Int.le_refl 0) (by omega) (by rw [mup_o (by decide)]; exact h13)
  have b13 : t0 0 13 = n := by rw [a2 0 (by decide), mup_o (by decide)]; exact h13
  have b14 : t0 0 14 = m := by rw [a2 0 (by decide), mup_o (by decide)]; exact h14
  have b6 : t0 6 = t 6 := (a2 6 (by decide)).trans (mup_o (by decide))
  have b5 : mup t 1 59 (n : Int) 5 = t 5 := mup_o (by decide)
  rw [a1]
  show ∃ t1 : Mem, jn _ _ = _ ∧ _
  rw [jn_s]
  rw [cpl (F := fun fu x s => f_X12_putsLaw_107 0 (fun s4 => some (s4 0 13, s4)) fu x s) (k := fun s4 => some (s4 0 13, s4)) (a := 1) (b := 6) (N := 2 * (m : Int)) (o := 912) (p := 0) (G := fun s => s 0 14 = m) (Or.inl (by decide)) (fun f x s hg h1 h2 => by
      show f_X12_putsLaw_107 0 _ (f + 1) x s = _
      rw [f_X12_putsLaw_107, hg, wr_n (x := 2 * (m : Int)) (by omega), if_pos h2, gd_t (by omega), wr_n (x := 912 + x) (by omega), gd_t (by omega), wr_n (x := x + 1) (by omega), lm_s, Int.zero_add]) (fun f x s hg h1 => by
      show f_X12_putsLaw_107 0 _ (f + 1) x s = _
      rw [f_X12_putsLaw_107, hg, wr_n (x := 2 * (m : Int)) (by omega), if_neg h1]) (fun s x v hg => by rw [mup_o (by decide)]; exact hg) (2 * m) FU 0 t0 b14 (fu_lt (by omega)) (Int.le_refl 0) (by omega)]
  refine ⟨_, by rw [sr_o (by decide), b13], fun e he => by rw [sr_o he, a2 e he, mup_o he], ?_, fun x g1 g2 => ?_, fun q g1 g2 => ?_, fun x g1 g2 => ?_⟩
  · rw [sr_e, if_neg (by omega), a4 59 (fun ⟨y, y1, y2, y3⟩ => by omega), mup_e rfl rfl]
  · obtain ⟨c1, c2, c3, c4⟩ := a3 x g1 g2
    rw [b5] at c1 c2 c3 c4
    rw [sr_e, if_neg (by omega), if_neg (by omega), if_neg (by omega), if_neg (by omega)]
    exact ⟨c1, c2, c3, c4⟩
  · rw [sr_e, if_pos (by omega), b6]
    congr 1
    omega
  · rw [sr_e, if_neg (by omega), a4 x (fun ⟨y, y1, y2, y3⟩ => by omega), mup_n (Or.inr g1)]

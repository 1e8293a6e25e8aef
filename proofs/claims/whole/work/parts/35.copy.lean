/-! ===== L3: copies ===== -/
theorem copy_e (a0 a1 n : Nat) (s : Mem) : f_X11_copy a0 n a1 n s = some (0, mcp s a0 0 a1 0 n) := by
  have e : mmn (n : Int) (n : Int) = (n : Int) := by
    unfold mmn
    rw [if_neg (by omega)]
  unfold f_X11_copy
  rw [e, gd_t ⟨⟨by omega, by omega, by omega⟩, by omega, by omega⟩, lm_s]
theorem mcp_x {s : Mem} {x y : Nat} {n : Int} (h : x ≠ y) : mcp s x 0 y 0 n x = s x := mcp_o h
/-- what a copy of a Night leaves -/
def cpN (s : Mem) (x y : Nat) : Mem :=
  mup (mup (mup (mup (mup (mup (mup (mup (mup (mcp (mcp (mcp (mcp (mcp (mcp (mcp (mcp s (x + 1) 0 (y + 1) 0 (10 : Nat)) (x + 2) 0 (y + 2) 0 (10 : Nat)) (x + 3) 0 (y + 3) 0 (10 : Nat)) (x + 4) 0 (y + 4) 0 (10 : Nat)) (x + 5) 0 (y + 5) 0 (10 : Nat)) (x + 6) 0 (y + 6) 0 (10 : Nat)) (x + 7) 0 (y + 7) 0 (10 : Nat)) (x + 8) 0 (y + 8) 0 (16 : Nat)) y 8 (s x 8)) y 9 (s x 9)) y 10 (s x 10)) y 11 (s x 11)) y 12 (s x 12)) y 13 (s x 13)) y 14 (s x 14)) y 15 (s x 15)) y 16 (s x 16)
theorem cpN_fr {s : Mem} {x y c : Nat} (h : ¬ (y ≤ c ∧ c ≤ y + 8)) : cpN s x y c = s c := by
  unfold cpN
  rw [mup_o (by omega), mup_o (by omega), mup_o (by omega), mup_o (by omega), mup_o (by omega), mup_o (by omega), mup_o (by omega), mup_o (by omega), mup_o (by omega), mcp_o (by omega), mcp_o (by omega), mcp_o (by omega), mcp_o (by omega), mcp_o (by omega), mcp_o (by omega), mcp_o (by omega), mcp_o (by omega)]
theorem lmx {s r : Mem} {x y : Nat} {j : Int} {k : Mem → Res} (h : r x = s x) : lm (mup r y j (r x j)) k = k (mup r y j (s x j)) := by rw [lm_s, h]
theorem bec4_e {s : Mem} {x y : Nat} (h : x + 9 ≤ y ∨ y + 9 ≤ x) : f_X4_become y x s = some (0, cpN s x y) := by
  unfold f_X4_become
  rw [bd_e (copy_e _ _ _ _), bd_e (copy_e _ _ _ _), bd_e (copy_e _ _ _ _), bd_e (copy_e _ _ _ _), bd_e (copy_e _ _ _ _), bd_e (copy_e _ _ _ _), bd_e (copy_e _ _ _ _), bd_e (copy_e _ _ _ _)]
  have h8 : mcp (mcp (mcp (mcp (mcp (mcp (mcp (mcp s (x + 1) 0 (y + 1) 0 (10 : Nat)) (x + 2) 0 (y + 2) 0 (10 : Nat)) (x + 3) 0 (y + 3) 0 (10 : Nat)) (x + 4) 0 (y + 4) 0 (10 : Nat)) (x + 5) 0 (y + 5) 0 (10 : Nat)) (x + 6) 0 (y + 6) 0 (10 : Nat)) (x + 7) 0 (y + 7) 0 (10 : Nat)) (x + 8) 0 (y + 8) 0 (16 : Nat) x = s x := by rw [mcp_o (by omega), mcp_o (by omega), mcp_o (by omega), mcp_o (by omega), mcp_o (by omega), mcp_o (by omega), mcp_o (by omega), mcp_o (by omega)]
  have h9 := fun v : Int => (mup_o (i := 8) (v := v) (show x ≠ y by omega)).trans h8
  have h10 := fun v : Int => (mup_o (i := 9) (v := v) (show x ≠ y by omega)).trans (h9 (s x 8))
  have h11 := fun v : Int => (mup_o (i := 10) (v := v) (show x ≠ y by omega)).trans (h10 (s x 9))
  have h12 := fun v : Int => (mup_o (i := 11) (v := v) (show x ≠ y by omega)).trans (h11 (s x 10))
  have h13 := fun v : Int => (mup_o (i := 12) (v := v) (show x ≠ y by omega)).trans (h12 (s x 11))
  have h14 := fun v : Int => (mup_o (i := 13) (v := v) (show x ≠ y by omega)).trans (h13 (s x 12))
  have h15 := fun v : Int => (mup_o (i := 14) (v := v) (show x ≠ y by omega)).trans (h14 (s x 13))
  have h16 := fun v : Int => (mup_o (i := 15) (v := v) (show x ≠ y by omega)).trans (h15 (s x 14))
  rw [lmx h8, lmx (h9 (s x 8)), lmx (h10 (s x 9)), lmx (h11 (s x 10)), lmx (h12 (s x 11)), lmx (h13 (s x 12)), lmx (h14 (s x 13)), lmx (h15 (s x 14)), lmx (h16 (s x 15))]
  rfl
theorem NR.cp {s : Mem} {x y : Nat} {w : Int → Int} (h : NR s x w) (hd : x + 9 ≤ y ∨ y + 9 ≤ x) : NR (cpN s x y) y w := by
  obtain ⟨⟨a0, a1, a2, a3, a4, a5, a6, a7, a8⟩, h2, h3⟩ := h
  unfold cpN
  refine ⟨⟨?_, ?_, ?_, ?_, ?_, ?_, ?_, ?_, ?_⟩, fun b hb1 hb2 => ?_, fun r hr1 hr2 => ?_⟩
  · rw [mup_n (Or.inr (by decide)), mup_n (Or.inr (by decide)), mup_n (Or.inr (by decide)), mup_n (Or.inr (by decide)), mup_n (Or.inr (by decide)), mup_n (Or.inr (by decide)), mup_n (Or.inr (by decide)), mup_n (Or.inr (by decide)), mup_e rfl rfl]
    exact a0
  · rw [mup_n (Or.inr (by decide)), mup_n (Or.inr (by decide)), mup_n (Or.inr (by decide)), mup_n (Or.inr (by decide)), mup_n (Or.inr (by decide)), mup_n (Or.inr (by decide)), mup_n (Or.inr (by decide)), mup_e rfl rfl]
    exact a1
  · rw [mup_n (Or.inr (by decide)), mup_n (Or.inr (by decide)), mup_n (Or.inr (by decide)), mup_n (Or.inr (by decide)), mup_n (Or.inr (by decide)), mup_n (Or.inr (by decide)), mup_e rfl rfl]
    exact a2
  · rw [mup_n (Or.inr (by decide)), mup_n (Or.inr (by decide)), mup_n (Or.inr (by decide)), mup_n (Or.inr (by decide)), mup_n (Or.inr (by decide)), mup_e rfl rfl]
    exact a3
  · rw [mup_n (Or.inr (by decide)), mup_n (Or.inr (by decide)), mup_n (Or.inr (by decide)), mup_n (Or.inr (by decide)), mup_e rfl rfl]
    exact a4
  · rw [mup_n (Or.inr (by decide)), mup_n (Or.inr (by decide)), mup_n (Or.inr (by decide)), mup_e rfl rfl]
    exact a5
  · rw [mup_n (Or.inr (by decide)), mup_n (Or.inr (by decide)), mup_e rfl rfl]
    exact a6
  · rw [mup_n (Or.inr (by decide)), mup_e rfl rfl]
    exact a7
  · rw [mup_e rfl rfl]
    exact a8
  · obtain ⟨b1, b2, b3, b4, b5, b6, b7⟩ := h2 b hb1 hb2
    refine ⟨?_, ?_, ?_, ?_, ?_, ?_, ?_⟩
    · rw [mup_o (by omega), mup_o (by omega), mup_o (by omega), mup_o (by omega), mup_o (by omega), mup_o (by omega), mup_o (by omega), mup_o (by omega), mup_o (by omega), mcp_o (by omega), mcp_o (by omega), mcp_o (by omega), mcp_o (by omega), mcp_o (by omega), mcp_o (by omega), mcp_o (by omega), mcp_e (by omega)]
      exact b1
    · rw [mup_o (by omega), mup_o (by omega), mup_o (by omega), mup_o (by omega), mup_o (by omega), mup_o (by omega), mup_o (by omega), mup_o (by omega), mup_o (by omega), mcp_o (by omega), mcp_o (by omega), mcp_o (by omega), mcp_o (by omega), mcp_o (by omega), mcp_o (by omega), mcp_e (by omega), mcp_o (by omega)]
      exact b2
    · rw [mup_o (by omega), mup_o (by omega), mup_o (by omega), mup_o (by omega), mup_o (by omega), mup_o (by omega), mup_o (by omega), mup_o (by omega), mup_o (by omega), mcp_o (by omega), mcp_o (by omega), mcp_o (by omega), mcp_o (by omega), mcp_o (by omega), mcp_e (by omega), mcp_o (by omega), mcp_o (by omega)]
      exact b3
    · rw [mup_o (by omega), mup_o (by omega), mup_o (by omega), mup_o (by omega), mup_o (by omega), mup_o (by omega), mup_o (by omega), mup_o (by omega), mup_o (by omega), mcp_o (by omega), mcp_o (by omega), mcp_o (by omega), mcp_o (by omega), mcp_e (by omega), mcp_o (by omega), mcp_o (by omega), mcp_o (by omega)]
      exact b4
    · rw [mup_o (by omega), mup_o (by omega), mup_o (by omega), mup_o (by omega), mup_o (by omega), mup_o (by omega), mup_o (by omega), mup_o (by omega), mup_o (by omega), mcp_o (by omega), mcp_o (by omega), mcp_o (by omega), mcp_e (by omega), mcp_o (by omega), mcp_o (by omega), mcp_o (by omega), mcp_o (by omega)]
      exact b5
    · rw [mup_o (by omega), mup_o (by omega), mup_o (by omega), mup_o (by omega), mup_o (by omega), mup_o (by omega), mup_o (by omega), mup_o (by omega), mup_o (by omega), mcp_o (by omega), mcp_o (by omega), mcp_e (by omega), mcp_o (by omega), mcp_o (by omega), mcp_o (by omega), mcp_o (by omega), mcp_o (by omega)]
      exact b6
    · rw [mup_o (by omega), mup_o (by omega), mup_o (by omega), mup_o (by omega), mup_o (by omega), mup_o (by omega), mup_o (by omega), mup_o (by omega), mup_o (by omega), mcp_o (by omega), mcp_e (by omega), mcp_o (by omega), mcp_o (by omega), mcp_o (by omega), mcp_o (by omega), mcp_o (by omega), mcp_o (by omega)]
      exact b7
  · rw [mup_o (by omega), mup_o (by omega), mup_o (by omega), mup_o (by omega), mup_o (by omega), mup_o (by omega), mup_o (by omega), mup_o (by omega), mup_o (by omega), mcp_e (by omega), mcp_o (by omega), mcp_o (by omega), mcp_o (by omega), mcp_o (by omega), mcp_o (by omega), mcp_o (by omega), mcp_o (by omega)]
    exact h3 r hr1 hr2
/-- rows copied one behind another: what is kept -/
theorem bec_row {s : Mem} {x y : Nat} {n : Int} : (∀ i : Int, 0 ≤ i → i < n → mcp s x 0 y 0 n y i = s x i) ∧ (∀ c : Nat, c ≠ y → mcp s x 0 y 0 n c = s c) := ⟨fun i h1 h2 => mcp_e ⟨h1, h2⟩, fun c h => mcp_o h⟩
theorem bec0_e {s : Mem} {x y : Nat} (h : x + 5 ≤ y ∨ y + 5 ≤ x) : ∃ s1 : Mem, f_X0_become y x s = some (0, s1) ∧ s1 y 4 = s x 4 ∧ (∀ i : Int, 0 ≤ i → i < 8 → s1 (y + 1) i = s (x + 1) i) ∧ (∀ i : Int, 0 ≤ i → i < 8 → s1 (y + 2) i = s (x + 2) i) ∧ (∀ c : Nat, ¬ (y ≤ c ∧ c ≤ y + 2) → s1 c = s c) := by
  unfold f_X0_become
  rw [bd_e (copy_e _ _ _ _), bd_e (copy_e _ _ _ _)]
  have h0 : mcp (mcp s (x + 1) 0 (y + 1) 0 (8 : Nat)) (x + 2) 0 (y + 2) 0 (8 : Nat) x = s x := by rw [mcp_o (by omega), mcp_o (by omega)]
  rw [lmx h0]
  refine ⟨_, rfl, ?_, fun i h1 h2 => ?_, fun i h1 h2 => ?_, fun c hc => ?_⟩
  · rw [mup_e rfl rfl]
  · rw [mup_o (by omega), mcp_o (by omega), mcp_e (by omega)]
  · rw [mup_o (by omega), mcp_e (by omega), mcp_o (by omega)]
  · rw [mup_o (by omega), mcp_o (by omega), mcp_o (by omega)]
theorem bec1_e {s : Mem} {x y : Nat} (h : x + 3 ≤ y ∨ y + 3 ≤ x) : ∃ s1 : Mem, f_X1_become y x s = some (0, s1) ∧ s1 y 2 = s x 2 ∧ (∀ i : Int, 0 ≤ i → i < 16 → s1 (y + 1) i = s (x + 1) i) ∧ (∀ i : Int, 0 ≤ i → i < 16 → s1 (y + 2) i = s (x + 2) i) ∧ (∀ c : Nat, ¬ (y ≤ c ∧ c ≤ y + 2) → s1 c = s c) := by
  unfold f_X1_become
  rw [bd_e (copy_e _ _ _ _), bd_e (copy_e _ _ _ _)]
  have h0 : mcp (mcp s (x + 1) 0 (y + 1) 0 (16 : Nat)) (x + 2) 0 (y + 2) 0 (16 : Nat) x = s x := by rw [mcp_o (by omega), mcp_o (by omega)]
  rw [lmx h0]
  refine ⟨_, rfl, ?_, fun i h1 h2 => ?_, fun i h1 h2 => ?_, fun c hc => ?_⟩
  · rw [mup_e rfl rfl]
  · rw [mup_o (by omega), mcp_o (by omega), mcp_e (by omega)]
  · rw [mup_o (by omega), mcp_e (by omega), mcp_o (by omega)]
  · rw [mup_o (by omega), mcp_o (by omega), mcp_o (by omega)]
theorem bec2_e {s : Mem} {x y : Nat} (h : x + 7 ≤ y ∨ y + 7 ≤ x) : ∃ s1 : Mem, f_X2_become y x s = some (0, s1) ∧ s1 y 4 = s x 4 ∧ s1 y 5 = s x 5 ∧ (∀ i : Int, 0 ≤ i → i < 16 → s1 (y + 1) i = s (x + 1) i) ∧ (∀ i : Int, 0 ≤ i → i < 16 → s1 (y + 2) i = s (x + 2) i) ∧ (∀ i : Int, 0 ≤ i → i < 16 → s1 (y + 3) i = s (x + 3) i) ∧ (∀ i : Int, 0 ≤ i → i < 400 → s1 (y + 4) i = s (x + 4) i) ∧ (∀ c : Nat, ¬ (y ≤ c ∧ c ≤ y + 4) → s1 c = s c) := by
  unfold f_X2_become
  rw [bd_e (copy_e _ _ _ _), bd_e (copy_e _ _ _ _), bd_e (copy_e _ _ _ _), bd_e (copy_e _ _ _ _)]
  have h0 : mcp (mcp (mcp (mcp s (x + 1) 0 (y + 1) 0 (16 : Nat)) (x + 2) 0 (y + 2) 0 (16 : Nat)) (x + 3) 0 (y + 3) 0 (16 : Nat)) (x + 4) 0 (y + 4) 0 (400 : Nat) x = s x := by rw [mcp_o (by omega), mcp_o (by omega), mcp_o (by omega), mcp_o (by omega)]
  have h1 := (mup_o (i := 4) (v := s x 4) (show x ≠ y by omega)).trans h0
  rw [lmx h0, lmx h1]
  refine ⟨_, rfl, ?_, ?_, fun i h1 h2 => ?_, fun i h1 h2 => ?_, fun i h1 h2 => ?_, fun i h1 h2 => ?_, fun c hc => ?_⟩
  · rw [mup_n (Or.inr (by decide)), mup_e rfl rfl]
  · rw [mup_e rfl rfl]
  · rw [mup_o (by omega), mup_o (by omega), mcp_o (by omega), mcp_o (by omega), mcp_o (by omega), mcp_e (by omega)]
  · rw [mup_o (by omega), mup_o (by omega), mcp_o (by omega), mcp_o (by omega), mcp_e (by omega), mcp_o (by omega)]
  · rw [mup_o (by omega), mup_o (by omega), mcp_o (by omega), mcp_e (by omega), mcp_o (by omega), mcp_o (by omega)]
  · rw [mup_o (by omega), mup_o (by omega), mcp_e (by omega), mcp_o (by omega), mcp_o (by omega), mcp_o (by omega)]
  · rw [mup_o (by omega), mup_o (by omega), mcp_o (by omega), mcp_o (by omega), mcp_o (by omega), mcp_o (by omega)]
theorem bec3_e {s : Mem} {x y : Nat} (h : x + 3 ≤ y ∨ y + 3 ≤ x) : ∃ s1 : Mem, f_X3_become y x s = some (0, s1) ∧ s1 y 2 = s x 2 ∧ (∀ i : Int, 0 ≤ i → i < 4 → s1 (y + 1) i = s (x + 1) i) ∧ (∀ i : Int, 0 ≤ i → i < 6 → s1 (y + 2) i = s (x + 2) i) ∧ (∀ c : Nat, ¬ (y ≤ c ∧ c ≤ y + 2) → s1 c = s c) := by
  unfold f_X3_become
  rw [bd_e (copy_e _ _ _ _), bd_e (copy_e _ _ _ _)]
  have h0 : mcp (mcp s (x + 1) 0 (y + 1) 0 (4 : Nat)) (x + 2) 0 (y + 2) 0 (6 : Nat) x = s x := by rw [mcp_o (by omega), mcp_o (by omega)]
  rw [lmx h0]
  refine ⟨_, rfl, ?_, fun i h1 h2 => ?_, fun i h1 h2 => ?_, fun c hc => ?_⟩
  · rw [mup_e rfl rfl]
  · rw [mup_o (by omega), mcp_o (by omega), mcp_e (by omega)]
  · rw [mup_o (by omega), mcp_e (by omega), mcp_o (by omega)]
  · rw [mup_o (by omega), mcp_o (by omega), mcp_o (by omega)]
theorem bec6_e {s : Mem} {x y : Nat} (h : x + 5 ≤ y ∨ y + 5 ≤ x) : ∃ s1 : Mem, f_X6_become y x s = some (0, s1) ∧ s1 y 4 = s x 4 ∧ (∀ i : Int, 0 ≤ i → i < 16 → s1 (y + 1) i = s (x + 1) i) ∧ (∀ i : Int, 0 ≤ i → i < 16 → s1 (y + 2) i = s (x + 2) i) ∧ (∀ i : Int, 0 ≤ i → i < 16 → s1 (y + 3) i = s (x + 3) i) ∧ (∀ i : Int, 0 ≤ i → i < 16 → s1 (y + 4) i = s (x + 4) i) ∧ (∀ c : Nat, ¬ (y ≤ c ∧ c ≤ y + 4) → s1 c = s c) := by
  unfold f_X6_become
  rw [bd_e (copy_e _ _ _ _), bd_e (copy_e _ _ _ _), bd_e (copy_e _ _ _ _), bd_e (copy_e _ _ _ _)]
  have h0 : mcp (mcp (mcp (mcp s (x + 1) 0 (y + 1) 0 (16 : Nat)) (x + 2) 0 (y + 2) 0 (16 : Nat)) (x + 3) 0 (y + 3) 0 (16 : Nat)) (x + 4) 0 (y + 4) 0 (16 : Nat) x = s x := by rw [mcp_o (by omega), mcp_o (by omega), mcp_o (by omega), mcp_o (by omega)]
  rw [lmx h0]
  refine ⟨_, rfl, ?_, fun i h1 h2 => ?_, fun i h1 h2 => ?_, fun i h1 h2 => ?_, fun i h1 h2 => ?_, fun c hc => ?_⟩
  · rw [mup_e rfl rfl]
  · rw [mup_o (by omega), mcp_o (by omega), mcp_o (by omega), mcp_o (by omega), mcp_e (by omega)]
  · rw [mup_o (by omega), mcp_o (by omega), mcp_o (by omega), mcp_e (by omega), mcp_o (by omega)]
  · rw [mup_o (by omega), mcp_o (by omega), mcp_e (by omega), mcp_o (by omega), mcp_o (by omega)]
  · rw [mup_o (by omega), mcp_e (by omega), mcp_o (by omega), mcp_o (by omega), mcp_o (by omega)]
  · rw [mup_o (by omega), mcp_o (by omega), mcp_o (by omega), mcp_o (by omega), mcp_o (by omega)]
theorem bec9_e {s : Mem} {x y : Nat} (h : x + 4 ≤ y ∨ y + 4 ≤ x) : ∃ s1 : Mem, f_X9_become y x s = some (0, s1) ∧ s1 y 3 = s x 3 ∧ (∀ i : Int, 0 ≤ i → i < 12 → s1 (y + 1) i = s (x + 1) i) ∧ (∀ i : Int, 0 ≤ i → i < 12 → s1 (y + 2) i = s (x + 2) i) ∧ (∀ i : Int, 0 ≤ i → i < 12 → s1 (y + 3) i = s (x + 3) i) ∧ (∀ c : Nat, ¬ (y ≤ c ∧ c ≤ y + 3) → s1 c = s c) := by
  unfold f_X9_become
  rw [bd_e (copy_e _ _ _ _), bd_e (copy_e _ _ _ _), bd_e (copy_e _ _ _ _)]
  have h0 : mcp (mcp (mcp s (x + 1) 0 (y + 1) 0 (12 : Nat)) (x + 2) 0 (y + 2) 0 (12 : Nat)) (x + 3) 0 (y + 3) 0 (12 : Nat) x = s x := by rw [mcp_o (by omega), mcp_o (by omega), mcp_o (by omega)]
  rw [lmx h0]
  refine ⟨_, rfl, ?_, fun i h1 h2 => ?_, fun i h1 h2 => ?_, fun i h1 h2 => ?_, fun c hc => ?_⟩
  · rw [mup_e rfl rfl]
  · rw [mup_o (by omega), mcp_o (by omega), mcp_o (by omega), mcp_e (by omega)]
  · rw [mup_o (by omega), mcp_o (by omega), mcp_e (by omega), mcp_o (by omega)]
  · rw [mup_o (by omega), mcp_e (by omega), mcp_o (by omega), mcp_o (by omega)]
  · rw [mup_o (by omega), mcp_o (by omega), mcp_o (by omega), mcp_o (by omega)]
theorem CurC.to {s s' : Mem} {a a' : Nat} {w : Int → Int} (h : CurC s a w) (hW : WC w) (q0 : s' a' 2 = s a 2) (q1 : ∀ i : Int, 0 ≤ i → i < 16 → s' (a' + 1) i = s (a + 1) i) (q2 : ∀ i : Int, 0 ≤ i → i < 16 → s' (a' + 2) i = s (a + 2) i) : CurC s' a' w := by
  have h16 := hW.1.2
  refine ⟨q0.trans h.1, fun i h1 h2 => ?_⟩
  rw [q1 i h1 (by omega), q2 i h1 (by omega)]
  exact h.2 i h1 h2
theorem PlanC.to {s s' : Mem} {a a' : Nat} {w : Int → Int} (h : PlanC s a w) (hW : WPl w) (q0 : s' a' 4 = s a 4) (q1 : ∀ i : Int, 0 ≤ i → i < 16 → s' (a' + 1) i = s (a + 1) i) (q2 : ∀ i : Int, 0 ≤ i → i < 16 → s' (a' + 2) i = s (a + 2) i) (q3 : ∀ i : Int, 0 ≤ i → i < 16 → s' (a' + 3) i = s (a + 3) i) (q4 : ∀ i : Int, 0 ≤ i → i < 16 → s' (a' + 4) i = s (a + 4) i) : PlanC s' a' w := by
  have h16 := hW.1.2
  refine ⟨q0.trans h.1, fun i h1 h2 => ?_⟩
  rw [q1 i h1 (by omega), q2 i h1 (by omega), q3 i h1 (by omega), q4 i h1 (by omega)]
  exact h.2 i h1 h2
theorem VilC.to {s s' : Mem} {a a' : Nat} {w : Int → Int} (h : VilC s a w) (q0 : s' a' 3 = s a 3) (q1 : ∀ i : Int, 0 ≤ i → i < 12 → s' (a' + 1) i = s (a + 1) i) (q2 : ∀ i : Int, 0 ≤ i → i < 12 → s' (a' + 2) i = s (a + 2) i) : VilC s' a' w := by
  refine ⟨q0.trans h.1, fun i h1 h2 => ?_⟩
  rw [q1 i h1 (by omega), q2 i h1 (by omega)]
  exact h.2 i h1 h2
theorem CluC.to {s s' : Mem} {a a' : Nat} {w : Int → Int} (h : CluC s a w) (hW : WK w) (q0 : s' a' 4 = s a 4) (q1 : ∀ i : Int, 0 ≤ i → i < 8 → s' (a' + 1) i = s (a + 1) i) (q2 : ∀ i : Int, 0 ≤ i → i < 8 → s' (a' + 2) i = s (a + 2) i) : CluC s' a' w := by
  have h8 := hW.1.2
  refine ⟨q0.trans h.1, fun i h1 h2 => ?_⟩
  rw [q1 i h1 (by omega), q2 i h1 (by omega)]
  exact h.2 i h1 h2
theorem LedC.to {s s' : Mem} {a a' : Nat} {w : Int → Int} (h : LedC s a w) (q0 : s' a' 2 = s a 2) (q1 : ∀ i : Int, 0 ≤ i → i < 4 → s' (a' + 1) i = s (a + 1) i) (q2 : ∀ i : Int, 0 ≤ i → i < 6 → s' (a' + 2) i = s (a + 2) i) : LedC s' a' w := by
  refine ⟨q0.trans h.1, fun i h1 h2 => ?_, fun i h1 h2 => ?_⟩
  · rw [q1 i h1 (by omega)]
    exact h.2.1 i h1 h2
  · rw [q2 i h1 (by omega)]
    exact h.2.2 i h1 h2
/-- a World becomes another -/
theorem bec10_e {s : Mem} {x y : Nat} {w : Int → Int} {lw : List Lin} (h : x + 38 ≤ y ∨ y + 38 ≤ x) (hX : WX s x w lw) (hW : WW w lw) : ∃ s1 : Mem, f_X10_become y x s = some (0, s1) ∧ WX s1 y w lw ∧ (∀ c : Nat, ¬ (y < c ∧ c ≤ y + 37) → s1 c = s c) := by
  obtain ⟨hN, hB, hL, hC, hP, hV, hK, hM⟩ := hX
  obtain ⟨g1, -, -, g4, g5, g6, g7, g8, g9⟩ := hW
  unfold f_X10_become
  have n1 := hN.cp (y := y + 1) (by omega)
  rw [bd_e (bec4_e (s := s) (x := x + 1) (y := y + 1) (by omega)), bd_e (copy_e _ _ _ _)]
  have f1 : ∀ c : Nat, ¬ (y < c ∧ c ≤ y + 10) → mcp (cpN s (x + 1) (y + 1)) (x + 10) 0 (y + 10) 0 (600 : Nat) c = s c := fun c hc => by rw [mcp_o (by omega), cpN_fr (by omega)]
  have b1 : ∀ i : Int, 0 ≤ i → i < 600 → mcp (cpN s (x + 1) (y + 1)) (x + 10) 0 (y + 10) 0 (600 : Nat) (y + 10) i = s (x + 10) i := fun i h1 h2 => by rw [mcp_e (by omega), cpN_fr (by omega)]
  have m1 : ∀ c : Nat, y + 1 ≤ c → c ≤ y + 9 → mcp (cpN s (x + 1) (y + 1)) (x + 10) 0 (y + 10) 0 (600 : Nat) c = cpN s (x + 1) (y + 1) c := fun c h1 h2 => mcp_o (by omega)
  generalize mcp (cpN s (x + 1) (y + 1)) (x + 10) 0 (y + 10) 0 (600 : Nat) = s4 at f1 b1 m1 ⊢
  obtain ⟨s5, e5, p0, p0', p1, p2, p3, p4, f5⟩ := bec2_e (s := s4) (x := x + 11) (y := y + 11) (by omega)
  rw [bd_e e5]
  obtain ⟨s6, e6, c0, c1, c2, f6⟩ := bec1_e (s := s5) (x := x + 18) (y := y + 18) (by omega)
  rw [bd_e e6]
  obtain ⟨s7, e7, l0, l1, l2, l3, l4, f7⟩ := bec6_e (s := s6) (x := x + 21) (y := y + 21) (by omega)
  rw [bd_e e7]
  obtain ⟨s8, e8, v0, v1, v2, v3, f8⟩ := bec9_e (s := s7) (x := x + 26) (y := y + 26) (by omega)
  rw [bd_e e8]
  obtain ⟨s9, e9, k0, k1, k2, f9⟩ := bec0_e (s := s8) (x := x + 30) (y := y + 30) (by omega)
  rw [bd_e e9]
  obtain ⟨s10, e10, o0, o1, o2, f10⟩ := bec3_e (s := s9) (x := x + 35) (y := y + 35) (by omega)
  rw [bd_e e10]
  refine ⟨s10, rfl, ⟨?_, ?_, ?_, ?_, ?_, ?_, ?_, ?_⟩, fun c hc => ?_⟩
  · exact n1.of (fun c h1 h2 => by rw [f10 c (by omega), f9 c (by omega), f8 c (by omega), f7 c (by omega), f6 c (by omega), f5 c (by omega), m1 c (by omega) (by omega)])
  · intro i h1 h2
    rw [f10 _ (by omega), f9 _ (by omega), f8 _ (by omega), f7 _ (by omega), f6 _ (by omega), f5 _ (by omega), b1 i h1 h2]
    exact hB i h1 h2
  · have q : ∀ c : Nat, y + 11 ≤ c → c ≤ y + 15 → s10 c = s5 c := fun c h1 h2 => by rw [f10 c (by omega), f9 c (by omega), f8 c (by omega), f7 c (by omega), f6 c (by omega)]
    have q' : ∀ c : Nat, x + 11 ≤ c → c ≤ x + 15 → s4 c = s c := fun c h1 h2 => f1 c (by omega)
    exact hL.to g4 (by rw [q _ (by omega) (by omega), p0, q' _ (by omega) (by omega)]) (fun i h1 h2 => by rw [q _ (by omega) (by omega), p1 i h1 h2, q' _ (by omega) (by omega)]) (fun i h1 h2 => by rw [q _ (by omega) (by omega), p2 i h1 h2, q' _ (by omega) (by omega)]) (fun i h1 h2 => by rw [q _ (by omega) (by omega), p3 i h1 h2, q' _ (by omega) (by omega)]) (fun i h1 h2 => by rw [q _ (by omega) (by omega), p4 i h1 h2, q' _ (by omega) (by omega)])
  · have q : ∀ c : Nat, y + 18 ≤ c → c ≤ y + 20 → s10 c = s6 c := fun c h1 h2 => by rw [f10 c (by omega), f9 c (by omega), f8 c (by omega), f7 c (by omega)]
    have q' : ∀ c : Nat, x + 18 ≤ c → c ≤ x + 20 → s5 c = s c := fun c h1 h2 => by rw [f5 c (by omega), f1 c (by omega)]
    exact hC.to g5 (by rw [q _ (by omega) (by omega), c0, q' _ (by omega) (by omega)]) (fun i h1 h2 => by rw [q _ (by omega) (by omega), c1 i h1 h2, q' _ (by omega) (by omega)]) (fun i h1 h2 => by rw [q _ (by omega) (by omega), c2 i h1 h2, q' _ (by omega) (by omega)])
  · have q : ∀ c : Nat, y + 21 ≤ c → c ≤ y + 25 → s10 c = s7 c := fun c h1 h2 => by rw [f10 c (by omega), f9 c (by omega), f8 c (by omega)]
    have q' : ∀ c : Nat, x + 21 ≤ c → c ≤ x + 25 → s6 c = s c := fun c h1 h2 => by rw [f6 c (by omega), f5 c (by omega), f1 c (by omega)]
    exact hP.to g6 (by rw [q _ (by omega) (by omega), l0, q' _ (by omega) (by omega)]) (fun i h1 h2 => by rw [q _ (by omega) (by omega), l1 i h1 h2, q' _ (by omega) (by omega)]) (fun i h1 h2 => by rw [q _ (by omega) (by omega), l2 i h1 h2, q' _ (by omega) (by omega)]) (fun i h1 h2 => by rw [q _ (by omega) (by omega), l3 i h1 h2, q' _ (by omega) (by omega)]) (fun i h1 h2 => by rw [q _ (by omega) (by omega), l4 i h1 h2, q' _ (by omega) (by omega)])
  · have q : ∀ c : Nat, y + 26 ≤ c → c ≤ y + 29 → s10 c = s8 c := fun c h1 h2 => by rw [f10 c (by omega), f9 c (by omega)]
    have q' : ∀ c : Nat, x + 26 ≤ c → c ≤ x + 29 → s7 c = s c := fun c h1 h2 => by rw [f7 c (by omega), f6 c (by omega), f5 c (by omega), f1 c (by omega)]
    exact hV.to (by rw [q _ (by omega) (by omega), v0, q' _ (by omega) (by omega)]) (fun i h1 h2 => by rw [q _ (by omega) (by omega), v1 i h1 h2, q' _ (by omega) (by omega)]) (fun i h1 h2 => by rw [q _ (by omega) (by omega), v2 i h1 h2, q' _ (by omega) (by omega)])
  · have q : ∀ c : Nat, y + 30 ≤ c → c ≤ y + 34 → s10 c = s9 c := fun c h1 h2 => by rw [f10 c (by omega)]
    have q' : ∀ c : Nat, x + 30 ≤ c → c ≤ x + 34 → s8 c = s c := fun c h1 h2 => by rw [f8 c (by omega), f7 c (by omega), f6 c (by omega), f5 c (by omega), f1 c (by omega)]
    exact hK.to g8 (by rw [q _ (by omega) (by omega), k0, q' _ (by omega) (by omega)]) (fun i h1 h2 => by rw [q _ (by omega) (by omega), k1 i h1 h2, q' _ (by omega) (by omega)]) (fun i h1 h2 => by rw [q _ (by omega) (by omega), k2 i h1 h2, q' _ (by omega) (by omega)])
  · have q' : ∀ c : Nat, x + 35 ≤ c → c ≤ x + 37 → s9 c = s c := fun c h1 h2 => by rw [f9 c (by omega), f8 c (by omega), f7 c (by omega), f6 c (by omega), f5 c (by omega), f1 c (by omega)]
    exact hM.to (by rw [o0, q' _ (by omega) (by omega)]) (fun i h1 h2 => by rw [o1 i h1 h2, q' _ (by omega) (by omega)]) (fun i h1 h2 => by rw [o2 i h1 h2, q' _ (by omega) (by omega)])
  · rw [f10 c (by omega), f9 c (by omega), f8 c (by omega), f7 c (by omega), f6 c (by omega), f5 c (by omega), f1 c (by omega)]

/-! ===== L3: sets of twelve ===== -/
abbrev M12 (x : Int) : Prop := 0 ≤ x ∧ x < 4096
theorem M12.n {x : Int} (h : M12 x) : ∃ n : Nat, x = (n : Int) ∧ n < 4096 := ⟨x.toNat, by omega, by omega⟩
theorem in12 {k : Int} (h : 0 ≤ k ∧ k < 12) : ∃ n : Nat, k = (n : Int) ∧ n < 12 := ⟨k.toNat, by omega, by omega⟩
theorem bt1 {n k : Nat} (hn : n < 4096) (hk : k < 12) : bt (n : Int) (k : Int) = 1 ↔ n.testBit k = true := by
  rw [n_bt (by omega) (by omega)]
  cases n.testBit k with
  | true => exact ⟨fun _ => rfl, fun _ => rfl⟩
  | false => exact ⟨fun q => absurd q (by decide), fun q => absurd q (by decide)⟩
theorem M12_or {x y : Int} (hx : M12 x) (hy : M12 y) : M12 (ior x y) ∧ ∀ k : Int, 0 ≤ k → k < 12 → (bt (ior x y) k = 1 ↔ bt x k = 1 ∨ bt y k = 1) := by
  obtain ⟨a, rfl, ha⟩ := hx.n
  obtain ⟨b, rfl, hb⟩ := hy.n
  have hor : a ||| b < 2 ^ 12 := Nat.or_lt_two_pow (show a < 2 ^ 12 by omega) (show b < 2 ^ 12 by omega)
  rw [n_ior (by omega) (by omega)]
  refine ⟨by omega, fun k h1 h2 => ?_⟩
  obtain ⟨c, rfl, hc⟩ := in12 ⟨h1, h2⟩
  rw [bt1 (by omega) hc, bt1 ha hc, bt1 hb hc, Nat.testBit_or, Bool.or_eq_true]
theorem M12_and {x y : Int} (hx : M12 x) (hy : M12 y) : M12 (iand x y) ∧ ∀ k : Int, 0 ≤ k → k < 12 → (bt (iand x y) k = 1 ↔ bt x k = 1 ∧ bt y k = 1) := by
  obtain ⟨a, rfl, ha⟩ := hx.n
  obtain ⟨b, rfl, hb⟩ := hy.n
  have hor : a &&& b ≤ b := Nat.and_le_right
  rw [n_iand (by omega) (by omega)]
  refine ⟨by omega, fun k h1 h2 => ?_⟩
  obtain ⟨c, rfl, hc⟩ := in12 ⟨h1, h2⟩
  rw [bt1 (by omega) hc, bt1 ha hc, bt1 hb hc, Nat.testBit_and, Bool.and_eq_true]
theorem bt_0 {k : Int} (h : 0 ≤ k ∧ k < 12) : ¬ bt 0 k = 1 := by
  obtain ⟨c, rfl, hc⟩ := in12 h
  have e : (0 : Int) = ((0 : Nat) : Int) := rfl
  rw [e, bt1 (by decide) hc, Nat.zero_testBit]
  decide
theorem M12_1 {o : Int} (h : 0 ≤ o ∧ o < 12) : M12 (ishl 1 o) ∧ ∀ k : Int, 0 ≤ k → k < 12 → (bt (ishl 1 o) k = 1 ↔ k = o) := by
  obtain ⟨a, rfl, ha⟩ := in12 h
  have hp : 2 ^ a ≤ 2 ^ 11 := Nat.pow_le_pow_right (by decide) (by omega)
  rw [shl_e (by omega)]
  refine ⟨⟨Int.natCast_nonneg _, by omega⟩, fun k h1 h2 => ?_⟩
  obtain ⟨c, rfl, hc⟩ := in12 ⟨h1, h2⟩
  rw [bt1 (by omega) hc, Nat.testBit_two_pow, decide_eq_true_eq]
  omega
theorem bt_ext {x y : Int} (hx : M12 x) (hy : M12 y) (h : ∀ k : Int, 0 ≤ k → k < 12 → (bt x k = 1 ↔ bt y k = 1)) : x = y := by
  obtain ⟨a, rfl, ha⟩ := hx.n
  obtain ⟨b, rfl, hb⟩ := hy.n
  have e : a = b := by
    refine Nat.eq_of_testBit_eq (fun i => ?_)
    by_cases hi : i < 12
    · have := h (i : Int) (by omega) (by omega)
      rw [bt1 ha hi, bt1 hb hi] at this
      exact Bool.eq_iff_iff.mpr this
    · have hp : 2 ^ 12 ≤ 2 ^ i := Nat.pow_le_pow_right (by decide) (by omega)
      rw [Nat.testBit_lt_two_pow (show a < 2 ^ i by omega), Nat.testBit_lt_two_pow (show b < 2 ^ i by omega)]
  rw [e]
theorem M12_sh {x a : Int} (hx : M12 x) (ha : 0 ≤ a ∧ a < 12) : M12 (ishr x a) ∧ (bt (ishr x a) 0 = 1 ↔ bt x a = 1) := by
  obtain ⟨n, rfl, hn⟩ := hx.n
  obtain ⟨c, rfl, hc⟩ := in12 ha
  have h2 : n >>> c ≤ n := by
    rw [Nat.shiftRight_eq_div_pow]
    exact Nat.div_le_self _ _
  have e : (0 : Int) = ((0 : Nat) : Int) := rfl
  rw [n_ishr (by omega) (by omega)]
  refine ⟨⟨Int.natCast_nonneg _, by omega⟩, ?_⟩
  rw [e, bt1 (by omega) (by decide), bt1 hn hc, Nat.testBit_shiftRight, Nat.add_zero]
theorem bt_i1 {x : Int} (hx : M12 x) : iand x 1 = bt x 0 := by
  obtain ⟨n, rfl, hn⟩ := hx.n
  have e : (0 : Int) = ((0 : Nat) : Int) := rfl
  unfold bt
  rw [e, n_ishr (by omega) (by decide), Nat.shiftRight_zero]
theorem bt_orsh {x y a b : Int} (hx : M12 x) (hy : M12 y) (ha : 0 ≤ a ∧ a < 12) (hb : 0 ≤ b ∧ b < 12) : iand (ior (ishr x a) (ishr y b)) 1 = 1 ↔ bt x a = 1 ∨ bt y b = 1 := by
  obtain ⟨p1, p2⟩ := M12_sh hx ha
  obtain ⟨q1, q2⟩ := M12_sh hy hb
  obtain ⟨r1, r2⟩ := M12_or p1 q1
  rw [bt_i1 r1, r2 0 (by decide) (by decide), p2, q2]
theorem M12_b {b v : Int} (hb : b = 0 ∨ b = 1) (hv : 0 ≤ v ∧ v < 12) : M12 (ishl b v) ∧ ∀ k : Int, 0 ≤ k → k < 12 → (bt (ishl b v) k = 1 ↔ b = 1 ∧ k = v) := by
  rcases hb with rfl | rfl
  · have e : ishl 0 v = 0 := by
      rcases (show v = 0 ∨ v = 1 ∨ v = 2 ∨ v = 3 ∨ v = 4 ∨ v = 5 ∨ v = 6 ∨ v = 7 ∨ v = 8 ∨ v = 9 ∨ v = 10 ∨ v = 11 by omega) with h | h | h | h | h | h | h | h | h | h | h | h <;> (rw [h]; decide)
    rw [e]
    exact ⟨by decide, fun k h1 h2 => ⟨fun q => absurd q (bt_0 ⟨h1, h2⟩), fun q => absurd q.1 (by decide)⟩⟩
  · obtain ⟨a, b⟩ := M12_1 hv
    exact ⟨a, fun k h1 h2 => (b k h1 h2).trans ⟨fun q => ⟨rfl, q⟩, fun q => q.2⟩⟩
/-- how many of the first places hold something -/
def cn (f : Int → Int) : Nat → Nat
  | 0 => 0
  | k + 1 => cn f k + (if 0 < f k then 1 else 0)
theorem cn_le (f : Int → Int) : ∀ k : Nat, cn f k ≤ k := by
  intro k
  induction k with
  | zero => exact Nat.le_refl 0
  | succ k ih =>
    have e : cn f (k + 1) = cn f k + (if 0 < f k then 1 else 0) := rfl
    rw [e]
    by_cases c : 0 < f k
    · rw [if_pos c]
      omega
    · rw [if_neg c]
      omega
theorem cn_up {f : Int → Int} {v x : Int} (h0 : ¬ 0 < f v) (hx : 0 < x) (hv : 0 ≤ v) : ∀ k : Nat, cn (up f v x) k = cn f k + (if v < k then 1 else 0) := by
  intro k
  induction k with
  | zero => rw [if_neg (by omega)]; rfl
  | succ k ih =>
    have e : cn f (k + 1) = cn f k + (if 0 < f k then 1 else 0) := rfl
    have e' : cn (up f v x) (k + 1) = cn (up f v x) k + (if 0 < up f v x k then 1 else 0) := rfl
    rw [e, e', ih]
    by_cases c : (k : Int) = v
    · rw [up_eq c, if_pos hx, c, if_neg h0, if_neg (by omega), if_pos (by omega)]
    · rw [up_ne c]
      by_cases c2 : v < k
      · rw [if_pos c2, if_pos (show v < (k + 1 : Nat) by omega)]
        omega
      · rw [if_neg c2, if_neg (show ¬ v < (k + 1 : Nat) by omega)]
        omega
theorem cn_0 {f : Int → Int} : ∀ k : Nat, (∀ v : Int, 0 ≤ v → v < k → f v = 0) → cn f k = 0 := by
  intro k
  induction k with
  | zero => intro _; rfl
  | succ k ih =>
    intro h
    have e : cn f (k + 1) = cn f k + (if 0 < f k then 1 else 0) := rfl
    rw [e, ih (fun v h1 h2 => h v h1 (by omega)), h k (by omega) (by omega), if_neg (by decide)]

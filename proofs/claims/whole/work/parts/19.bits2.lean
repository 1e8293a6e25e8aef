/-! ===== L3: sets of bits: mirrored, and the lowest bit ===== -/
def mrG (p0 p1 i acc : Int) : Int := ior acc (ishl (iand (ishr p0 i) 1) (wr ((wr (p1 - 1)) - i)))
def mrF (p0 p1 : Int) : Nat → Int → Int → Int
  | 0, _, acc => acc
  | j + 1, i, acc => mrF p0 p1 j (i + 1) (mrG p0 p1 i acc)
def mrv (x n : Int) : Int := mrF x n n.toNat 0 0
theorem mr_all : (List.range 11).all (fun n => (List.range (2 ^ n)).all (fun r => decide (mrv (r : Int) (n : Int) = ((mrv (r : Int) (n : Int)).toNat : Int) ∧ (mrv (r : Int) (n : Int)).toNat < 2 ^ n ∧ mrv (mrv (r : Int) (n : Int)) (n : Int) = (r : Int)) && (List.range n).all (fun k => (mrv (r : Int) (n : Int)).toNat.testBit k == r.testBit (n - 1 - k)))) = true := by decide +kernel
theorem mr_e {n r : Nat} (hn : n ≤ 10) (hr : r < 2 ^ n) : ∃ m : Nat, mrv (r : Int) (n : Int) = (m : Int) ∧ m < 2 ^ n ∧ mrv (m : Int) (n : Int) = (r : Int) ∧ ∀ k : Nat, k < n → m.testBit k = r.testBit (n - 1 - k) := by
  have h1 := List.all_eq_true.mp mr_all n (List.mem_range.mpr (by omega))
  have h2 := List.all_eq_true.mp h1 r (List.mem_range.mpr hr)
  rw [Bool.and_eq_true] at h2
  obtain ⟨h3, h4⟩ := h2
  have h5 := of_decide_eq_true h3
  refine ⟨(mrv (r : Int) (n : Int)).toNat, h5.1, h5.2.1, ?_, fun k hk => ?_⟩
  · rw [← h5.1]
    exact h5.2.2
  · exact eq_of_beq (List.all_eq_true.mp h4 k (List.mem_range.mpr hk))
def lowz (x : Int) : Int := bcv (wr ((iand x (wr (-x))) - 1))
theorem lz_all : (List.range 1024).all (fun r => decide (r = 0 ∨ (0 ≤ lowz (r : Int) ∧ lowz (r : Int) ≤ 9 ∧ 2 ^ (lowz (r : Int)).toNat ≤ r ∧ r >>> ((lowz (r : Int)).toNat + 1) = (r - 1) >>> ((lowz (r : Int)).toNat + 1)))) = true := by decide +kernel
theorem lz_e {r : Nat} (h0 : r ≠ 0) (hr : r < 1024) : 0 ≤ lowz (r : Int) ∧ lowz (r : Int) ≤ 9 ∧ 2 ^ (lowz (r : Int)).toNat ≤ r ∧ r >>> ((lowz (r : Int)).toNat + 1) = (r - 1) >>> ((lowz (r : Int)).toNat + 1) :=
  (of_decide_eq_true (List.all_eq_true.mp lz_all r (List.mem_range.mpr hr))).resolve_left h0
theorem shl_all : (List.range 31).all (fun k => decide (ishl 1 (k : Int) = ((2 ^ k : Nat) : Int))) = true := by decide +kernel
theorem shl_e {k : Nat} (hk : k < 31) : ishl 1 (k : Int) = ((2 ^ k : Nat) : Int) := of_decide_eq_true (List.all_eq_true.mp shl_all k (List.mem_range.mpr hk))
/-! numbers without sign -/
theorem nv_ofn {y : Nat} (hy : y < 2147483648) : (Int32.ofInt (y : Int)).toBitVec.toNat = y := by
  have e : (Int32.ofInt (y : Int)).toBitVec = BitVec.ofInt 32 (y : Int) := rfl
  rw [e, BitVec.toNat_ofInt]
  omega
theorem nv_toInt {u : BitVec 32} (h : u.toNat < 2147483648) : u.toInt = (u.toNat : Int) := by
  rw [BitVec.toInt_eq_toNat_cond, if_pos (by omega)]
theorem n_iand {x y : Nat} (hx : x < 2147483648) (hy : y < 2147483648) : iand (x : Int) (y : Int) = ((x &&& y : Nat) : Int) := by
  have e : iand (x : Int) (y : Int) = ((Int32.ofInt (x : Int)).toBitVec &&& (Int32.ofInt (y : Int)).toBitVec).toInt := rfl
  have h1 : ((Int32.ofInt (x : Int)).toBitVec &&& (Int32.ofInt (y : Int)).toBitVec).toNat = x &&& y := by rw [BitVec.toNat_and, nv_ofn hx, nv_ofn hy]
  have h2 : x &&& y ≤ y := Nat.and_le_right
  rw [e, nv_toInt (by omega), h1]
theorem n_ior {x y : Nat} (hx : x < 2147483648) (hy : y < 2147483648) : ior (x : Int) (y : Int) = ((x ||| y : Nat) : Int) := by
  have e : ior (x : Int) (y : Int) = ((Int32.ofInt (x : Int)).toBitVec ||| (Int32.ofInt (y : Int)).toBitVec).toInt := rfl
  have h1 : ((Int32.ofInt (x : Int)).toBitVec ||| (Int32.ofInt (y : Int)).toBitVec).toNat = x ||| y := by rw [BitVec.toNat_or, nv_ofn hx, nv_ofn hy]
  have h2 : x ||| y < 2 ^ 31 := Nat.or_lt_two_pow (show x < 2 ^ 31 by omega) (show y < 2 ^ 31 by omega)
  rw [e, nv_toInt (by omega), h1]
theorem sh_all : (List.range 32).all (fun k => decide (((Int32.ofInt (k : Int) &&& 31).toBitVec.smod 32).toNat = k)) = true := by decide +kernel
theorem n_ishr {x k : Nat} (hx : x < 2147483648) (hk : k < 32) : ishr (x : Int) (k : Int) = ((x >>> k : Nat) : Int) := by
  have h0 := of_decide_eq_true (List.all_eq_true.mp sh_all k (List.mem_range.mpr hk))
  have e : ishr (x : Int) (k : Int) = ((Int32.ofInt (x : Int)).toBitVec.sshiftRight ((Int32.ofInt (k : Int) &&& 31).toBitVec.smod 32).toNat).toInt := rfl
  have hm : (Int32.ofInt (x : Int)).toBitVec.msb = false := by
    rw [BitVec.msb_eq_false_iff_two_mul_lt, nv_ofn hx]
    omega
  have h1 : ((Int32.ofInt (x : Int)).toBitVec.sshiftRight k).toNat = x >>> k := by
    rw [BitVec.sshiftRight_eq_of_msb_false hm, BitVec.toNat_ushiftRight, nv_ofn hx]
  have h2 : x >>> k ≤ x := by
    rw [Nat.shiftRight_eq_div_pow]
    exact Nat.div_le_self _ _
  rw [e, h0, nv_toInt (by omega), h1]
theorem n_bt {x k : Nat} (hx : x < 2147483648) (hk : k < 32) : bt (x : Int) (k : Int) = if x.testBit k then 1 else 0 := by
  have h2 : x >>> k ≤ x := by
    rw [Nat.shiftRight_eq_div_pow]
    exact Nat.div_le_self _ _
  have e : ((1 : Nat) : Int) = 1 := rfl
  unfold bt
  rw [n_ishr hx hk, ← e, n_iand (by omega) (by decide), Nat.testBit_eq_decide_div_mod_eq, Nat.shiftRight_eq_div_pow, Nat.and_one_is_mod]
  have h3 : x / 2 ^ k % 2 = 0 ∨ x / 2 ^ k % 2 = 1 := by omega
  rcases h3 with h | h
  · rw [h]
    rfl
  · rw [h]
    rfl

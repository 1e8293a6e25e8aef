/-! ===== L3: feed ===== -/
theorem bv_ofn {y : Nat} (hy : y < 2147483648) : (Int32.ofInt (y : Int)).toBitVec.toNat = y := by
  have e : (Int32.ofInt (y : Int)).toBitVec = BitVec.ofInt 32 (y : Int) := rfl
  rw [e, BitVec.toNat_ofInt]
  omega
theorem bv_toInt {u : BitVec 32} (h : u.toNat < 2147483648) : u.toInt = (u.toNat : Int) := by
  rw [BitVec.toInt_eq_toNat_cond, if_pos (by omega)]
theorem iand_le (x : Int) {y : Nat} (hy : y < 2147483648) : 0 ≤ iand x (y : Int) ∧ iand x (y : Int) ≤ (y : Int) := by
  have e : iand x (y : Int) = ((Int32.ofInt x).toBitVec &&& (Int32.ofInt (y : Int)).toBitVec).toInt := rfl
  have h1 : ((Int32.ofInt x).toBitVec &&& (Int32.ofInt (y : Int)).toBitVec).toNat ≤ y := by
    rw [BitVec.toNat_and, bv_ofn hy]
    exact Nat.and_le_right
  rw [e, bv_toInt (by omega)]
  omega
theorem byte_b (b : BitVec 32) (k : Nat) (hk : k ≤ 24) : (b >>> k) &&& 255#32 = (b.sshiftRight k) &&& 255#32 := by
  apply BitVec.eq_of_getLsbD_eq
  intro i hi
  rw [BitVec.getLsbD_and, BitVec.getLsbD_and, BitVec.getLsbD_ushiftRight, BitVec.getLsbD_sshiftRight]
  by_cases h8 : i < 8
  · have h1 : k + i < 32 := by omega
    have h2 : ¬ 32 ≤ i := by omega
    simp [hi, h1, h8, h2]
  · have e : (255#32).getLsbD i = false := by
      have h2 : (255#32).toNat < 2 ^ i := Nat.lt_of_lt_of_le (show (255#32).toNat < 2 ^ 8 by decide) (Nat.pow_le_pow_right (by decide) (by omega))
      exact Nat.testBit_lt_two_pow h2
    rw [e, Bool.and_false, Bool.and_false]
theorem byte_k (P : Int32) : (∀ k : Nat, k = 24 ∨ k = 16 ∨ k = 8 ∨ k = 0 → (((P.toUInt32 >>> (UInt32.ofNat k)).toInt32) &&& Int32.ofInt 255).toBitVec = (P.toBitVec >>> k) &&& 255#32) := by
  intro k hk
  rcases hk with rfl | rfl | rfl | rfl
  · rfl
  · rfl
  · rfl
  · rfl
theorem byte_k2 (P : Int32) : (∀ k : Nat, k = 24 ∨ k = 16 ∨ k = 8 ∨ k = 0 → ((P >>> (Int32.ofNat k)) &&& Int32.ofInt 255).toBitVec = (P.toBitVec.sshiftRight k) &&& 255#32) := by
  intro k hk
  rcases hk with rfl | rfl | rfl | rfl
  · rfl
  · rfl
  · rfl
  · rfl
theorem byte_e {p sh : Int} (h : sh = 24 ∨ sh = 16 ∨ sh = 8 ∨ sh = 0) : iand (iushr p sh) 255 = iand (ishr p sh) 255 := by
  unfold iand iushr ishr
  rw [Int32.ofInt_toInt, Int32.ofInt_toInt]
  rcases h with rfl | rfl | rfl | rfl
  · exact congrArg Int32.toInt (Int32.toBitVec_inj.mp ((byte_k (Int32.ofInt p) 24 (by decide)).trans ((byte_b _ 24 (by decide)).trans (byte_k2 (Int32.ofInt p) 24 (by decide)).symm)))
  · exact congrArg Int32.toInt (Int32.toBitVec_inj.mp ((byte_k (Int32.ofInt p) 16 (by decide)).trans ((byte_b _ 16 (by decide)).trans (byte_k2 (Int32.ofInt p) 16 (by decide)).symm)))
  · exact congrArg Int32.toInt (Int32.toBitVec_inj.mp ((byte_k (Int32.ofInt p) 8 (by decide)).trans ((byte_b _ 8 (by decide)).trans (byte_k2 (Int32.ofInt p) 8 (by decide)).symm)))
  · exact congrArg Int32.toInt (Int32.toBitVec_inj.mp ((byte_k (Int32.ofInt p) 0 (by decide)).trans ((byte_b _ 0 (by decide)).trans (byte_k2 (Int32.ofInt p) 0 (by decide)).symm)))
section
variable {s t : Mem}
def pushC (s : Mem) (v : Int) : Mem := mup (mup s 256 (s 236 4) v) 236 4 (s 236 4 + 1)
def pushM (t : Mem) (v : Int) : Mem := mup (mup t 8 (t 0 16) v) 0 16 (t 0 16 + 1)
theorem push_iv (h : IV s t) (hl : t 0 16 < 400) {v : Int} (hv : 0 ≤ v ∧ v ≤ 255) : IV (pushC s v) (pushM t v) ∧ pushM t v 0 16 = t 0 16 + 1 := by
  have hR := h.2.2.2.1
  obtain ⟨r1, r2, r3, r4, r5⟩ := hR
  refine ⟨?_, mup_e rfl rfl⟩
  obtain ⟨⟨lw, hX, hW⟩, hI, hP, -, hT⟩ := h
  unfold pushC pushM
  rw [r1]
  have eo : ∀ c : Nat, c ≠ 0 → c ≠ 8 → mup (mup t 8 (t 0 16) v) 0 16 (t 0 16 + 1) c = t c := fun c g1 g2 => by rw [mup_o g1, mup_o g2]
  have e0 : ∀ i : Int, i ≠ 16 → mup (mup t 8 (t 0 16) v) 0 16 (t 0 16 + 1) 0 i = t 0 i := fun i g => by rw [mup_n (Or.inr g), mup_o (by decide)]
  have es : ∀ c : Nat, c ≠ 236 → c ≠ 256 → mup (mup s 256 (t 0 16) v) 236 4 (t 0 16 + 1) c = s c := fun c g1 g2 => by rw [mup_o g1, mup_o g2]
  refine ⟨⟨lw, ?_, ?_⟩, ?_, ?_, ?_, ?_⟩
  · rw [eo 1 (by decide) (by decide)]
    exact hX.of hW (fun c q1 q2 => es c (by omega) (by omega))
  · rw [eo 1 (by decide) (by decide)]
    exact hW
  · exact hI.of (by rw [es 0 (by decide) (by decide)]) (e0 5 (by decide)) (eo 2 (by decide) (by decide)) (fun c q1 q2 => es c (by omega) (by omega))
  · rw [eo 1 (by decide) (by decide), eo 3 (by decide) (by decide), e0 4 (by decide)]
    exact hP.of (fun c q1 q2 => es c (by omega) (by omega)) (fun _ _ _ => rfl) (fun _ _ => rfl)
  · have e16 : mup (mup t 8 (t 0 16) v) 0 16 (t 0 16 + 1) 0 16 = t 0 16 + 1 := mup_e rfl rfl
    refine ⟨by rw [e16, mup_e rfl rfl], by rw [e16]; omega, ?_, by rw [e0 23 (by decide), mup_n (Or.inr (by decide)), mup_o (by decide)]; exact r4, by rw [e0 25 (by decide), mup_n (Or.inr (by decide)), mup_o (by decide)]; exact r5⟩
    rw [e16]
    intro i g1 g2
    rw [mup_o (a' := 256) (by decide), mup_o (a' := 8) (by decide)]
    by_cases e : i = t 0 16
    · rw [mup_e rfl e, mup_e rfl e]
      exact ⟨rfl, hv⟩
    · rw [mup_n (Or.inr e), mup_n (Or.inr e)]
      exact r3 i g1 (by omega)
  · unfold ThC at hT ⊢
    rw [es 133 (by decide) (by decide)]
    exact hT
theorem c_push1 {p : Int} {k : Mem → Res} {n : Nat} {sh : Int} (hsh : 0 ≤ sh ∧ sh ≤ 24) (hl : 0 ≤ s 236 4 ∧ s 236 4 < 400) : f_X7_take_3 236 p k (n + 1) sh s = f_X7_take_3 236 p k n (sh - 8) (pushC s (iand (iushr p sh) 255)) := by
  have e : sh + -8 = sh - 8 := rfl
  rw [f_X7_take_3]
  simp only [Nat.reduceAdd]
  rw [if_neg (by omega), jn_s, if_pos hl.2, gd_t hl, lm_s, mup_o (a := 256) (by decide), wr_n (x := s 236 4 + 1) (by omega), lm_s, wr_n (x := sh + -8) (by omega), e]
  rfl
theorem m_push1 {p1 p2 p3 p4 p5 x y : Int} {k : Mem → Res} {n : Nat} (hx : 0 ≤ x ∧ x < 20) (hl : 0 ≤ t 0 16 ∧ t 0 16 < 400) (hy : (x < 4 ∧ y = p1) ∨ (4 ≤ x ∧ x < 8 ∧ y = p2) ∨ (8 ≤ x ∧ x < 12 ∧ y = p3) ∨ (12 ≤ x ∧ x < 16 ∧ y = p4) ∨ (16 ≤ x ∧ y = p5)) : f_X12_feed_18 0 p1 p2 p3 p4 p5 k (n + 1) x t = f_X12_feed_18 0 p1 p2 p3 p4 p5 k n (x + 1) (pushM t (iand (ishr y (24 - 8 * x.tmod 4)) 255)) := by
  have ht : 0 ≤ x.tmod 4 ∧ x.tmod 4 ≤ 3 := by
    rw [Int.tmod_eq_emod_of_nonneg (by omega)]
    omega
  have fin : gd ((4 : Int) ≠ 0) (gd ((0 : Int) ≤ t 0 16 ∧ t 0 16 < 400) (lm (mup t (0 + 8) (t 0 16) (iand (ishr y (wr (24 - (wr (8 * (Int.tmod x 4)))))) 255)) fun s7 => lm (mup s7 0 16 (wr ((s7 0 16) + 1))) fun s8 => f_X12_feed_18 0 p1 p2 p3 p4 p5 k n (wr (x + 1)) s8)) = f_X12_feed_18 0 p1 p2 p3 p4 p5 k n (x + 1) (pushM t (iand (ishr y (24 - 8 * x.tmod 4)) 255)) := by
    rw [gd_t (by decide), gd_t hl, wr_n (x := 8 * x.tmod 4) (by omega), wr_n (x := 24 - 8 * x.tmod 4) (by omega), lm_s, mup_o (a' := 0) (a := 0 + 8) (by decide), wr_n (x := t 0 16 + 1) (by omega), lm_s, wr_n (x := x + 1) (by omega)]
    rfl
  rw [f_X12_feed_18, if_pos hx.2, jn_s]
  rcases hy with ⟨a, rfl⟩ | ⟨a, b, rfl⟩ | ⟨a, b, rfl⟩ | ⟨a, b, rfl⟩ | ⟨a, rfl⟩
  · rw [if_pos a]
    exact fin
  · rw [if_neg (by omega), if_pos b]
    exact fin
  · rw [if_neg (by omega), if_neg (by omega), if_pos b]
    exact fin
  · rw [if_neg (by omega), if_neg (by omega), if_neg (by omega), if_pos b]
    exact fin
  · rw [if_neg (by omega), if_neg (by omega), if_neg (by omega), if_neg (by omega)]
    exact fin
theorem IV.len (h : IV s t) : s 236 4 = t 0 16 ∧ 0 ≤ t 0 16 := ⟨h.2.2.2.1.1, h.2.2.2.1.2.1.1⟩
theorem take4 {p1 p2 p3 p4 p5 y q : Int} {k : Mem → Res} (h : IV s t) (hl : t 0 16 ≤ 396) (hq : 0 ≤ q ∧ q ≤ 16) (hq4 : q % 4 = 0) (hy : (q < 4 ∧ y = p1) ∨ (4 ≤ q ∧ q < 8 ∧ y = p2) ∨ (8 ≤ q ∧ q < 12 ∧ y = p3) ∨ (12 ≤ q ∧ q < 16 ∧ y = p4) ∨ (16 ≤ q ∧ y = p5)) : ∃ s1 t1 : Mem, f_X7_take 236 y s = some (0, s1) ∧ (∀ n : Nat, f_X12_feed_18 0 p1 p2 p3 p4 p5 k (n + 1 + 1 + 1 + 1) q t = f_X12_feed_18 0 p1 p2 p3 p4 p5 k n (q + 4) t1) ∧ IV s1 t1 ∧ t1 0 16 = t 0 16 + 4 := by
  have l0 := h.len
  have v : ∀ sh : Int, 0 ≤ iand (iushr y sh) 255 ∧ iand (iushr y sh) 255 ≤ 255 := fun sh => iand_le (y := 255) (iushr y sh) (by decide)
  have T : ∀ i : Int, 0 ≤ i → i ≤ 3 → (q + i).tmod 4 = i := fun i g1 g2 => by
    rw [Int.tmod_eq_emod_of_nonneg (by omega)]
    omega
  obtain ⟨h1, g1⟩ := push_iv h (by omega) (v 24)
  have l1 := h1.len
  obtain ⟨h2, g2⟩ := push_iv h1 (by omega) (v 16)
  have l2 := h2.len
  obtain ⟨h3, g3⟩ := push_iv h2 (by omega) (v 8)
  have l3 := h3.len
  obtain ⟨h4, g4⟩ := push_iv h3 (by omega) (v 0)
  refine ⟨_, _, ?_, fun n => ?_, h4, by omega⟩
  · unfold f_X7_take
    have ef : ∃ m : Nat, FU = m + 1 + 1 + 1 + 1 + 1 := ⟨5995, rfl⟩
    obtain ⟨m, em⟩ := ef
    have d1 : (24 : Int) - 8 = 16 := rfl
    have d2 : (16 : Int) - 8 = 8 := rfl
    have d3 : (8 : Int) - 8 = 0 := rfl
    rw [jn_s, em, c_push1 (by decide) (by omega), d1, c_push1 (by decide) (by omega), d2, c_push1 (by decide) (by omega), d3, c_push1 (by decide) (by omega), f_X7_take_3, if_pos (by decide)]
  · have E1 := m_push1 (t := t) (p1 := p1) (p2 := p2) (p3 := p3) (p4 := p4) (p5 := p5) (x := q) (y := y) (k := k) (n := n + 1 + 1 + 1) (by omega) (by omega) (by omega)
    have t0 := T 0 (by decide) (by decide)
    rw [Int.add_zero] at t0
    rw [E1, t0]
    have b24 : iand (ishr y (24 - 8 * 0)) 255 = iand (iushr y 24) 255 := (byte_e (sh := 24) (by decide)).symm
    rw [b24]
    have E2 := m_push1 (t := pushM t (iand (iushr y 24) 255)) (p1 := p1) (p2 := p2) (p3 := p3) (p4 := p4) (p5 := p5) (x := q + 1) (y := y) (k := k) (n := n + 1 + 1) (by omega) (by omega) (by omega)
    rw [E2, T 1 (by decide) (by decide)]
    have b16 : iand (ishr y (24 - 8 * 1)) 255 = iand (iushr y 16) 255 := (byte_e (sh := 16) (by decide)).symm
    rw [b16]
    have E3 := m_push1 (t := pushM (pushM t (iand (iushr y 24) 255)) (iand (iushr y 16) 255)) (p1 := p1) (p2 := p2) (p3 := p3) (p4 := p4) (p5 := p5) (x := q + 1 + 1) (y := y) (k := k) (n := n + 1) (by omega) (by omega) (by omega)
    have e2 : q + 1 + 1 = q + 2 := by omega
    rw [E3, e2, T 2 (by decide) (by decide)]
    have b8 : iand (ishr y (24 - 8 * 2)) 255 = iand (iushr y 8) 255 := (byte_e (sh := 8) (by decide)).symm
    rw [b8]
    have E4 := m_push1 (t := pushM (pushM (pushM t (iand (iushr y 24) 255)) (iand (iushr y 16) 255)) (iand (iushr y 8) 255)) (p1 := p1) (p2 := p2) (p3 := p3) (p4 := p4) (p5 := p5) (x := q + 2 + 1) (y := y) (k := k) (n := n) (by omega) (by omega) (by omega)
    have e3 : q + 2 + 1 = q + 3 := by omega
    have e4 : q + 2 + 1 + 1 = q + 4 := by omega
    rw [E4, e4, e3, T 3 (by decide) (by decide)]
    have b0 : iand (ishr y (24 - 8 * 3)) 255 = iand (iushr y 0) 255 := (byte_e (sh := 0) (by decide)).symm
    rw [b0]
theorem k_feed (h : IV s t) (x1 x2 x3 x4 x5 : Int) : Sim (f_X11_feed 0 x1 x2 x3 x4 x5 s) (f_X12_feed 0 x1 x2 x3 x4 x5 t) := by
  obtain ⟨l1, l2⟩ := h.len
  have l3 := h.2.2.2.1.2.1.2
  unfold f_X11_feed f_X12_feed
  simp only [Nat.zero_add]
  rw [l1, wr_n (by omega)]
  by_cases c : 380 < t 0 16
  · rw [if_pos c, if_pos (by omega)]
    exact Sim.rf h _
  · rw [if_neg c, if_neg (by omega), jn_s]
    have ef : ∃ m : Nat, FU = m + 1 + 1 + 1 + 1 + 1 + 1 + 1 + 1 + 1 + 1 + 1 + 1 + 1 + 1 + 1 + 1 + 1 + 1 + 1 + 1 + 1 := ⟨5979, rfl⟩
    obtain ⟨m, em⟩ := ef
    obtain ⟨s1, t1, a1, b1, i1, n1⟩ := take4 (p1 := x1) (p2 := x2) (p3 := x3) (p4 := x4) (p5 := x5) (y := x1) (q := 0) (k := fun s2 => some (s2 0 16, s2)) h (by omega) (by decide) (by decide) (by omega)
    obtain ⟨s2, t2, a2, b2, i2, n2⟩ := take4 (p1 := x1) (p2 := x2) (p3 := x3) (p4 := x4) (p5 := x5) (y := x2) (q := 4) (k := fun s2 => some (s2 0 16, s2)) i1 (by omega) (by decide) (by decide) (by omega)
    obtain ⟨s3, t3, a3, b3, i3, n3⟩ := take4 (p1 := x1) (p2 := x2) (p3 := x3) (p4 := x4) (p5 := x5) (y := x3) (q := 8) (k := fun s2 => some (s2 0 16, s2)) i2 (by omega) (by decide) (by decide) (by omega)
    obtain ⟨s4, t4, a4, b4, i4, n4⟩ := take4 (p1 := x1) (p2 := x2) (p3 := x3) (p4 := x4) (p5 := x5) (y := x4) (q := 12) (k := fun s2 => some (s2 0 16, s2)) i3 (by omega) (by decide) (by decide) (by omega)
    obtain ⟨s5, t5, a5, b5, i5, n5⟩ := take4 (p1 := x1) (p2 := x2) (p3 := x3) (p4 := x4) (p5 := x5) (y := x5) (q := 16) (k := fun s2 => some (s2 0 16, s2)) i4 (by omega) (by decide) (by decide) (by omega)
    rw [bd_e a1, bd_e a2, bd_e a3, bd_e a4, bd_e a5, em, b1, Int.zero_add]
    have e8 : (4 : Int) + 4 = 8 := rfl
    have e12 : (8 : Int) + 4 = 12 := rfl
    have e16 : (12 : Int) + 4 = 16 := rfl
    have e20 : (16 : Int) + 4 = 20 := rfl
    rw [b2, e8, b3, e12, b4, e16, b5, e20, f_X12_feed_18, if_neg (by decide)]
    exact Sim.eq rfl rfl i5.len.1 i5
end

/-! ===== L3: rests, share ===== -/
theorem mmx_comm (x y : Int) : mmx x y = mmx y x := by
  unfold mmx
  by_cases h : x < y
  · rw [if_pos h, if_neg (by omega)]
  · rw [if_neg h]
    by_cases h2 : y < x
    · rw [if_pos h2]
    · rw [if_neg h2]
      omega
def sDe (w : Int → Int) (p : Int) : Int := mmx (wr (wr (p * w 241) + wr (wr (1000 - p) * w 239))) (wr (wr (p * w 240) + wr (wr (1000 - p) * w 238)))
def gRe (w : Int → Int) (i x : Int) : Int := if sDe w i < sDe w x then i else x
def sRe (w : Int → Int) : Int := fo (gRe w) 1000 1 0
section
variable {s t : Mem}
theorem c_dearer (h : IV s t) (p : Int) : f_X3_dearer 36 p s = some (sDe (t 1) p, s) := by
  obtain ⟨l1, l2, l3⟩ := h.led.1
  have a0 : s 37 0 = t 1 238 := l2 0 (by decide) (by decide)
  have a1 : s 37 1 = t 1 239 := l2 1 (by decide) (by decide)
  have a2 : s 37 2 = t 1 240 := l2 2 (by decide) (by decide)
  have a3 : s 37 3 = t 1 241 := l2 3 (by decide) (by decide)
  unfold f_X3_dearer
  simp only [Nat.reduceAdd]
  rw [a0, a1, a2, a3, gd_t (by decide), gd_t (by decide), lts_s, gd_t (by decide), gd_t (by decide), lts_s]
  rfl
theorem m_costsBy (p : Int) : f_X12_costsBy 0 p t = some (sDe (t 1) p, t) := by
  unfold f_X12_costsBy
  rw [gd_t (by decide), gd_t (by decide), gd_t (by decide), gd_t (by decide), bd_e (e_greater _ _ t), Nat.zero_add, mmx_comm]
  rfl
theorem c_cheapest (h : IV s t) : f_X3_cheapest 36 s = some (sRe (t 1), s) := by
  unfold f_X3_cheapest
  rw [jn_s]
  refine (fold1 (F := fun n' x i s => f_X3_cheapest_4 36 (fun v1 s2 => some (v1, s2)) n' x i s) (k := fun v1 s2 => some (v1, s2)) (s := s) (N := 1001) (g := gRe (t 1)) (fun _ _ => True) (fun m x i h1 h2 _ => ⟨?_, trivial⟩) (fun m x _ => ?_) 1000 FU 0 1 (fu_lt (by omega)) (by decide) (by decide) trivial).1
  · show f_X3_cheapest_4 _ _ _ _ _ _ = _
    rw [f_X3_cheapest_4, if_neg (by omega), bd_e (c_dearer h i), bd_e (c_dearer h x), jn_s, wr_n (x := i + 1) (by omega)]
    unfold gRe
    by_cases c : sDe (t 1) i < sDe (t 1) x
    · rw [if_pos c, if_pos c]
    · rw [if_neg c, if_neg c]
  · show f_X3_cheapest_4 _ _ _ _ _ _ = _
    rw [f_X3_cheapest_4, if_pos (by decide)]
theorem k_rests (h : IV s t) (what : Int) : Sim (f_X11_rests 0 what s) (f_X12_rests 0 what t) := by
  have hm : ∀ k : Int → Mem → Res, f_X12_rests_15 0 k FU 0 1 t = k (sRe (t 1)) t := by
    intro k
    refine (fold1 (F := fun n' x i s => f_X12_rests_15 0 k n' x i s) (k := k) (s := t) (N := 1001) (g := gRe (t 1)) (fun _ _ => True) (fun m x i h1 h2 _ => ⟨?_, trivial⟩) (fun m x _ => ?_) 1000 FU 0 1 (fu_lt (by omega)) (by decide) (by decide) trivial).1
    · show f_X12_rests_15 _ _ _ _ _ _ = _
      rw [f_X12_rests_15, if_neg (by omega), bd_e (m_costsBy i), bd_e (m_costsBy x), jn_s, wr_n (x := i + 1) (by omega)]
      unfold gRe
      by_cases c : sDe (t 1) i < sDe (t 1) x
      · rw [if_pos c, if_pos c]
      · rw [if_neg c, if_neg c]
    · show f_X12_rests_15 _ _ _ _ _ _ = _
      rw [f_X12_rests_15, if_pos (by decide)]
  unfold f_X11_rests f_X12_rests
  simp only [Nat.zero_add, Nat.reduceAdd]
  rw [bd_e (e_within _ _ _ _), bd_e (e_isIn _ _ _ _), bI_z, bI_z]
  by_cases c : 0 ≤ what ∧ what ≤ 1
  · rw [if_pos c, if_pos c, bd_e (c_cheapest h), jn_s, hm]
    by_cases c0 : what = 0
    · rw [if_pos c0, if_pos c0]
      exact Sim.rf h _
    · rw [if_neg c0, if_neg c0, bd_e (c_dearer h _), bd_e (m_costsBy _)]
      exact Sim.rf h _
  · rw [if_neg c, if_neg c]
    exact Sim.rf h _
end
/-! share -/
def gMk (w : Int → Int) (i x : Int) : Int := x + w (242 + i)
def sMk (w : Int → Int) : Int := fo (gMk w) (w 64).toNat 0 0
def sOt (w : Int → Int) (n i : Int) : Int := (n * w (242 + i)).tmod (sMk w)
def gSh (w : Int → Int) (n o i : Int) (p : Int × Int) : Int × Int := (wr (p.1 - (n * w (242 + i)).tdiv (sMk w)), if sOt w n o < sOt w n i ∨ (sOt w n i = sOt w n o ∧ i < o) then p.2 + 1 else p.2)
def sSh (w : Int → Int) (n o : Int) : Int × Int := fo (gSh w n o) (w 64).toNat 0 (n, 0)
theorem sMk_in {w : Int → Int} (hM : WM w) : (0 ≤ sMk w ∧ sMk w ≤ 5994) ∧ (0 < w 64 → 1 ≤ sMk w) := by
  obtain ⟨m1, m2, m3⟩ := hM
  have h := fo_in (g := gMk w) (fun i x => i ≤ x ∧ x ≤ 999 * i) (N := w 64) (fun x i h1 h2 hx => by
    have := m3 i h1 h2
    unfold gMk
    omega) (w 64).toNat 0 0 (by decide) (by omega) ⟨by decide, by decide⟩
  unfold sMk
  omega
theorem pr_in {a b : Int} (ha : 0 ≤ a ∧ a ≤ 9999) (hb : 0 ≤ b ∧ b ≤ 999) : 0 ≤ a * b ∧ a * b ≤ 9989001 := by
  have h1 := Int.mul_nonneg ha.1 hb.1
  have h2 : a * b ≤ 9999 * b := Int.mul_le_mul_of_nonneg_right ha.2 hb.1
  omega
section
variable {s t : Mem}
theorem m_marked (hM : WM (t 1)) : f_X12_marked 0 t = some (sMk (t 1), t) := by
  obtain ⟨m1, m2, m3⟩ := hM
  unfold f_X12_marked
  rw [jn_s]
  refine (fold1 (F := fun n' x i (_ : Mem) => f_X12_marked_4 0 (fun v1 => some (v1, t)) t n' x i) (k := fun v1 _ => some (v1, t)) (s := t) (N := t 1 64) (g := gMk (t 1)) (fun i x => 0 ≤ x ∧ x ≤ 999 * i) (fun m x i h1 h2 hx => ?_) (fun m x _ => ?_) (t 1 64).toNat FU 0 0 (fu_lt (by omega)) (by decide) (by omega) ⟨by decide, by decide⟩).1
  · have := m3 i h1 h2
    refine ⟨?_, ?_⟩
    · show f_X12_marked_4 _ _ _ _ _ _ = _
      rw [f_X12_marked_4, gd_t (by decide), Nat.zero_add, if_pos h2, wr_n (x := 242 + i) (by omega), gd_t (by omega), wr_n (x := i + 1) (by omega), wr_n (by omega)]
      rfl
    · unfold gMk
      omega
  · show f_X12_marked_4 _ _ _ _ _ _ = _
    rw [f_X12_marked_4, gd_t (by decide), Nat.zero_add, if_neg (by omega)]
theorem m_restOf (hM : WM (t 1)) {n i : Int} (hn : 0 ≤ n ∧ n ≤ 9999) (hi : 0 ≤ i ∧ i < t 1 64) : f_X12_restOf 0 n i t = some (sOt (t 1) n i, t) := by
  have h1 := hM.2.2 i hi.1 hi.2
  have h2 := pr_in hn (show 0 ≤ t 1 (242 + i) ∧ t 1 (242 + i) ≤ 999 by omega)
  have h3 := (sMk_in hM).2 (by omega)
  have h6 := hM.1
  unfold f_X12_restOf
  rw [wr_n (x := 242 + i) (by omega), gd_t (by omega), bd_e (m_marked hM), gd_t (by omega), Nat.zero_add, wr_n (by omega)]
  rfl
theorem tm_in3 {a m : Int} (ha : 0 ≤ a) (hm : 1 ≤ m) : 0 ≤ a.tmod m ∧ a.tmod m < m := by
  rw [Int.tmod_eq_emod_of_nonneg ha]
  exact ⟨Int.emod_nonneg _ (by omega), Int.emod_lt_of_pos _ (by omega)⟩
theorem td_in {a m : Int} (ha : 0 ≤ a) (hm : 1 ≤ m) : 0 ≤ a.tdiv m ∧ a.tdiv m ≤ a := by
  rw [Int.tdiv_eq_ediv_of_nonneg ha]
  exact ⟨Int.ediv_nonneg ha (by omega), Int.ediv_le_self _ ha⟩
theorem k_share (h : IV s t) (n o : Int) : Sim (f_X11_share 0 n o s) (f_X12_share 0 n o t) := by
  obtain ⟨l1, l2, l3⟩ := h.led.1
  have hM := h.led.2
  obtain ⟨m1, m2, m3⟩ := h.led.2
  have hS := sMk_in hM
  have l3' : ∀ i : Int, 0 ≤ i → i < 6 → s 38 i = t 1 (242 + i) := l3
  have l1' : s 36 2 = t 1 64 := l1
  unfold f_X11_share f_X12_share
  simp only [Nat.zero_add, Nat.reduceAdd]
  rw [bd_e (e_within _ _ _ _), bd_e (e_isIn _ _ _ _), bI_z, bI_z]
  by_cases c : 0 ≤ n ∧ n ≤ 9999
  · rw [if_pos c, if_pos c, gd_t (by decide), bd_e (e_within _ _ _ _), bd_e (e_isIn _ _ _ _), bI_z, bI_z, l1', wr_n (x := t 1 64 - 1) (by omega)]
    by_cases c1 : 0 ≤ o ∧ o ≤ t 1 64 - 1
    · have ho := m3 o c1.1 (by omega)
      have hp := pr_in c (show 0 ≤ t 1 (242 + o) ∧ t 1 (242 + o) ≤ 999 by omega)
      have h1 := hS.2 (by omega)
      have oin : ∀ i : Int, 0 ≤ i → i < t 1 64 → (0 ≤ n * t 1 (242 + i) ∧ n * t 1 (242 + i) ≤ 9989001) ∧ (0 ≤ sOt (t 1) n i ∧ sOt (t 1) n i < sMk (t 1)) ∧ (0 ≤ (n * t 1 (242 + i)).tdiv (sMk (t 1)) ∧ (n * t 1 (242 + i)).tdiv (sMk (t 1)) ≤ 9989001) := by
        intro i g1 g2
        have := m3 i g1 g2
        have a := pr_in c (show 0 ≤ t 1 (242 + i) ∧ t 1 (242 + i) ≤ 999 by omega)
        have b := tm_in3 a.1 h1
        have d := td_in a.1 h1
        exact ⟨a, b, d.1, by omega⟩
      have oo := oin o c1.1 (by omega)
      have ca : ∀ k : Int → Res, f_X3_part_5 36 k s FU 0 0 = k (sMk (t 1)) := by
        intro k
        refine (fold1 (F := fun n' x i (_ : Mem) => f_X3_part_5 36 k s n' x i) (k := fun v1 _ => k v1) (s := s) (N := t 1 64) (g := gMk (t 1)) (fun i x => 0 ≤ x ∧ x ≤ 999 * i) (fun m x i h1 h2 hx => ?_) (fun m x _ => ?_) (t 1 64).toNat FU 0 0 (fu_lt (by omega)) (by decide) (by omega) ⟨by decide, by decide⟩).1
        · have := m3 i h1 h2
          refine ⟨?_, ?_⟩
          · show f_X3_part_5 _ _ _ _ _ _ = _
            rw [f_X3_part_5]
            simp only [Nat.reduceAdd]
            rw [l1', if_pos h2, gd_t (by omega), l3' i h1 (by omega), wr_n (x := i + 1) (by omega), wr_n (by omega)]
            rfl
          · unfold gMk
            omega
        · show f_X3_part_5 _ _ _ _ _ _ = _
          rw [f_X3_part_5, l1', if_neg (by omega)]
      have cb : ∀ k : Int → Int → Res, f_X3_part_58 36 n o (sMk (t 1)) (sOt (t 1) n o) k s FU n 0 0 = k (sSh (t 1) n o).1 (sSh (t 1) n o).2 := by
        intro k
        refine (fold1 (F := fun n' (p : Int × Int) i (_ : Mem) => f_X3_part_58 36 n o (sMk (t 1)) (sOt (t 1) n o) k s n' p.1 p.2 i) (k := fun p _ => k p.1 p.2) (s := s) (N := t 1 64) (g := gSh (t 1) n o) (fun i p => 0 ≤ p.2 ∧ p.2 ≤ i) (fun m x i h1 h2 hx => ?_) (fun m x _ => ?_) (t 1 64).toNat FU (n, 0) 0 (fu_lt (by omega)) (by decide) (by omega) ⟨Int.le_refl 0, Int.le_refl 0⟩).1
        · obtain ⟨o1, o2, o3⟩ := oin i h1 h2
          refine ⟨?_, ?_⟩
          · show f_X3_part_58 _ _ _ _ _ _ _ _ _ _ _ = _
            rw [f_X3_part_58]
            simp only [Nat.reduceAdd]
            have ei : (n * t 1 (242 + i)).tmod (sMk (t 1)) = sOt (t 1) n i := rfl
            rw [l1', if_pos h2, l3' i h1 (by omega), gd_t (by omega), gd_t (by omega), gd_t (by omega), gd_t (by omega), jn_s, jn_s, wr_n (x := i + 1) (by omega), wr_n (x := n * t 1 (242 + i)) (by omega), wr_n (x := (n * t 1 (242 + i)).tdiv (sMk (t 1))) (by omega), wr_n (x := x.2 + 1) (by omega), ei]
            unfold gSh
            by_cases q1 : sOt (t 1) n o < sOt (t 1) n i
            · rw [if_pos q1, if_pos (Or.inl q1)]
            · rw [if_neg q1]
              by_cases q2 : sOt (t 1) n i = sOt (t 1) n o
              · rw [if_pos q2]
                by_cases q3 : i < o
                · rw [if_pos q3, if_pos (Or.inr ⟨q2, q3⟩)]
                · rw [if_neg q3, if_neg (fun z => z.elim q1 (fun z => q3 z.2))]
              · rw [if_neg q2, if_neg (fun z => z.elim q1 (fun z => q2 z.1))]
          · unfold gSh
            dsimp only at hx ⊢
            split
            · omega
            · omega
        · show f_X3_part_58 _ _ _ _ _ _ _ _ _ _ _ = _
          rw [f_X3_part_58, l1', if_neg (by omega)]
      have mb : ∀ k : Int → Int → Mem → Res, f_X12_share_38 0 n o k FU n 0 0 t = k (sSh (t 1) n o).1 (sSh (t 1) n o).2 t := by
        intro k
        refine (fold1 (F := fun n' (p : Int × Int) i s => f_X12_share_38 0 n o k n' p.1 p.2 i s) (k := fun p s => k p.1 p.2 s) (s := t) (N := t 1 64) (g := gSh (t 1) n o) (fun i p => 0 ≤ p.2 ∧ p.2 ≤ i) (fun m x i h1 h2 hx => ?_) (fun m x _ => ?_) (t 1 64).toNat FU (n, 0) 0 (fu_lt (by omega)) (by decide) (by omega) ⟨Int.le_refl 0, Int.le_refl 0⟩).1
        · obtain ⟨o1, o2, o3⟩ := oin i h1 h2
          refine ⟨?_, ?_⟩
          · show f_X12_share_38 _ _ _ _ _ _ _ _ _ = _
            rw [f_X12_share_38, gd_t (by decide), Nat.zero_add, if_pos h2, wr_n (x := 242 + i) (by omega), gd_t (by omega), bd_e (m_marked hM), gd_t (by omega), bd_e (m_restOf hM c ⟨h1, h2⟩), bd_e (m_restOf hM c ⟨c1.1, by omega⟩), jn_s, jn_s, jn_s, wr_n (x := i + 1) (by omega), wr_n (x := n * t 1 (242 + i)) (by omega), wr_n (x := (n * t 1 (242 + i)).tdiv (sMk (t 1))) (by omega), wr_n (x := sOt (t 1) n i - sOt (t 1) n o) (by omega)]
            dsimp only
            rw [wr_n (x := x.2 + 1) (by omega), Int.add_zero, wr_n (x := x.2) (by omega)]
            unfold gSh
            by_cases q1 : sOt (t 1) n o < sOt (t 1) n i
            · rw [if_pos (by omega), if_pos (Or.inl q1)]
            · rw [if_neg (by omega)]
              by_cases q2 : sOt (t 1) n i = sOt (t 1) n o
              · rw [if_pos (by omega)]
                by_cases q3 : i < o
                · rw [if_pos q3, if_pos (Or.inr ⟨q2, q3⟩)]
                · rw [if_neg q3, if_neg (fun z => z.elim q1 (fun z => q3 z.2))]
              · rw [if_neg (by omega), if_neg (fun z => z.elim q1 (fun z => q2 z.1))]
          · unfold gSh
            dsimp only at hx ⊢
            split
            · omega
            · omega
        · show f_X12_share_38 _ _ _ _ _ _ _ _ _ = _
          rw [f_X12_share_38, gd_t (by decide), Nat.zero_add, if_neg (by omega)]
      have eo : (n * t 1 (242 + o)).tmod (sMk (t 1)) = sOt (t 1) n o := rfl
      rw [if_pos c1, if_pos c1, jn_s, mb]
      unfold f_X3_part
      simp only [Nat.reduceAdd]
      rw [jn_s, ca, if_neg (by omega), gd_t (by omega), gd_t (by omega), l3' o c1.1 (by omega), wr_n (x := n * t 1 (242 + o)) (by omega), eo, jn_s, cb, gd_t (by omega), gd_t (by omega), wr_n (x := 242 + o) (by omega), gd_t (by omega), bd_e (m_marked hM), gd_t (by omega), wr_n (x := n * t 1 (242 + o)) (by omega)]
      by_cases q : (sSh (t 1) n o).2 < (sSh (t 1) n o).1
      · rw [if_pos q, if_pos q, bd_s]
        exact Sim.rf h _
      · rw [if_neg q, if_neg q, bd_s]
        exact Sim.rf h _
    · rw [if_neg c1, if_neg c1]
      exact Sim.rf h _
  · rw [if_neg c, if_neg c]
    exact Sim.rf h _
end

/-! ===== L3: loops that add up ===== -/
def fo {α : Type} (g : Int → α → α) : Nat → Int → α → α
  | 0, _, x => x
  | j + 1, i, x => fo g j (i + 1) (g i x)
theorem fold1 {α : Type} {F : Nat → α → Int → Mem → Res} {k : α → Mem → Res} {s : Mem} {N : Int} {g : Int → α → α} (P : Int → α → Prop) (hS : ∀ (n : Nat) (x : α) (i : Int), 0 ≤ i → i < N → P i x → F (n + 1) x i s = F n (g i x) (i + 1) s ∧ P (i + 1) (g i x)) (hE : ∀ (n : Nat) (x : α), P N x → F (n + 1) x N s = k x s) : ∀ (j fu : Nat) (x : α) (i : Int), j < fu → 0 ≤ i → i + j = N → P i x → F fu x i s = k (fo g j i x) s ∧ P N (fo g j i x) := by
  intro j
  induction j with
  | zero =>
    intro fu x i h1 h2 h3 h4
    have e : i = N := by omega
    subst e
    cases fu with
    | zero => exact absurd h1 (Nat.not_lt_zero _)
    | succ fu => exact ⟨hE fu x h4, h4⟩
  | succ j ih =>
    intro fu x i h1 h2 h3 h4
    cases fu with
    | zero => exact absurd h1 (Nat.not_lt_zero _)
    | succ fu =>
      obtain ⟨q1, q2⟩ := hS fu x i h2 (by omega) h4
      rw [q1]
      exact ih fu (g i x) (i + 1) (by omega) (by omega) (by omega) q2
theorem fo_in {α : Type} {g : Int → α → α} (P : Int → α → Prop) {N : Int} (hS : ∀ (x : α) (i : Int), 0 ≤ i → i < N → P i x → P (i + 1) (g i x)) : ∀ (j : Nat) (x : α) (i : Int), 0 ≤ i → i + j = N → P i x → P N (fo g j i x) := by
  intro j
  induction j with
  | zero =>
    intro x i h2 h3 h4
    have e : i = N := by omega
    subst e
    exact h4
  | succ j ih =>
    intro x i h2 h3 h4
    exact ih (g i x) (i + 1) (by omega) (by omega) (hS x i h2 (by omega) h4)
theorem ior_0 {x : Int} (h : InR x) : ior x 0 = x := by
  unfold ior
  have e : Int32.ofInt 0 = 0 := rfl
  rw [e, Int32.or_zero, i32_toInt h]
theorem inr_ior (x y : Int) : InR (ior x y) := inr_i32 _
theorem inr_iand (x y : Int) : InR (iand x y) := inr_i32 _
theorem inr_ixor (x y : Int) : InR (ixor x y) := inr_i32 _
/-- the boats that are lost, as a set -/
def sLostG (w : Int → Int) (b x : Int) : Int := if afl w b then x else ior x (ishl 1 b)
def sLost (w : Int → Int) : Int := fo (sLostG w) (w 58).toNat 0 0
def sHadG (w : Int → Int) (b x : Int) : Int := if afl w b then wr (x + sStk w b) else x
def sHad (w : Int → Int) : Int := fo (sHadG w) (w 58).toNat 0 (w 4)
def sManyG (w : Int → Int) (b x : Int) : Int := if afl w b then x else x + 1
def sMany (w : Int → Int) : Int := fo (sManyG w) (w 58).toNat 0 0
def sAtG (w : Int → Int) (r b x : Int) : Int := if afl w b ∧ w (7 + b) = r then x + 1 else x
def sAt (w : Int → Int) (r : Int) : Int := fo (sAtG w r) (w 58).toNat 0 0
section
variable {s : Mem} {n : Nat} {w : Int → Int}
theorem c_allLost (h : NR s n w) (hw : WN w) : f_X4_allLost n s = some (sLost w, s) := by
  have h58 := hw.boats
  unfold f_X4_allLost
  rw [jn_s]
  refine (fold1 (F := fun n' x i s => f_X4_allLost_4 n (fun v1 s2 => some (v1, s2)) n' x i s) (k := fun v1 s2 => some (v1, s2)) (s := s) (N := w 58) (g := sLostG w) (fun _ _ => True) (fun m x i h1 h2 _ => ⟨?_, trivial⟩) (fun m x _ => ?_) (w 58).toNat FU 0 0 (fu_lt (by omega)) (by decide) (by omega) trivial).1
  · show f_X4_allLost_4 _ _ _ _ _ _ = _
    rw [f_X4_allLost_4, h.boats, if_pos h2, bd_e (e_afloat h hw i), jn_s, bI_z, wr_n (x := i + 1) (by omega)]
    unfold sLostG
    by_cases c : afl w i
    · rw [if_pos c, if_pos c]
    · rw [if_neg c, if_neg c]
  · show f_X4_allLost_4 _ _ _ _ _ _ = _
    rw [f_X4_allLost_4, h.boats, if_neg (by omega)]
theorem c_had (h : NR s n w) (hw : WN w) : f_X4_had n s = some (sHad w, s) := by
  have h58 := hw.boats
  unfold f_X4_had
  rw [jn_s, h.arrows]
  refine (fold1 (F := fun n' x i s => f_X4_had_7 n (fun v1 s2 => some (v1, s2)) n' x i s) (k := fun v1 s2 => some (v1, s2)) (s := s) (N := w 58) (g := sHadG w) (fun _ _ => True) (fun m x i h1 h2 _ => ⟨?_, trivial⟩) (fun m x _ => ?_) (w 58).toNat FU (w 4) 0 (fu_lt (by omega)) (by decide) (by omega) trivial).1
  · show f_X4_had_7 _ _ _ _ _ _ = _
    rw [f_X4_had_7, h.boats, if_pos h2, bd_e (e_afloat h hw i), jn_s, bI_z, wr_n (x := i + 1) (by omega)]
    unfold sHadG
    by_cases c : afl w i
    · rw [if_pos c, if_pos c, bd_e (e_stuckIn h hw (afl_10 hw c))]
    · rw [if_neg c, if_neg c]
  · show f_X4_had_7 _ _ _ _ _ _ = _
    rw [f_X4_had_7, h.boats, if_neg (by omega)]
theorem c_boatsAt (h : NR s n w) (hw : WN w) (r : Int) : f_X4_boatsAt n r s = some (sAt w r, s) := by
  have h58 := hw.boats
  unfold f_X4_boatsAt
  rw [jn_s]
  refine (fold1 (F := fun n' x i s => f_X4_boatsAt_4 n r (fun v1 s2 => some (v1, s2)) n' x i s) (k := fun v1 s2 => some (v1, s2)) (s := s) (N := w 58) (g := sAtG w r) (fun i x => 0 ≤ x ∧ x ≤ i) (fun m x i h1 h2 hx => ⟨?_, ?_⟩) (fun m x _ => ?_) (w 58).toNat FU 0 0 (fu_lt (by omega)) (by decide) (by omega) ⟨by decide, by decide⟩).1
  · show f_X4_boatsAt_4 _ _ _ _ _ _ _ = _
    rw [f_X4_boatsAt_4, h.boats, if_pos h2, bd_e (e_afloat h hw i), jn_s, bI_z, wr_n (x := i + 1) (by omega), wr_n (x := x + 1) (by omega)]
    unfold sAtG
    by_cases c : afl w i
    · rw [if_pos c, gd_t (afl_10 hw c), h.reach (afl_10 hw c)]
      by_cases c2 : w (7 + i) = r
      · rw [if_pos c2, if_pos ⟨c, c2⟩]
      · rw [if_neg c2, if_neg (fun q => c2 q.2)]
    · rw [if_neg c, if_neg (fun q => c q.1)]
  · unfold sAtG
    split
    · omega
    · omega
  · show f_X4_boatsAt_4 _ _ _ _ _ _ _ = _
    rw [f_X4_boatsAt_4, h.boats, if_neg (by omega)]
end
section
variable {t : Mem}
theorem m_lostOnes (hw : WN (t 1)) : f_X12_lostOnes 0 t = some (sLost (t 1), t) := by
  have h58 := hw.boats
  unfold f_X12_lostOnes
  rw [jn_s]
  refine (fold1 (F := fun n' x i s => f_X12_lostOnes_4 0 (fun v1 s2 => some (v1, s2)) n' x i s) (k := fun v1 s2 => some (v1, s2)) (s := t) (N := t 1 58) (g := sLostG (t 1)) (fun _ x => InR x) (fun m x i h1 h2 hx => ⟨?_, ?_⟩) (fun m x _ => ?_) (t 1 58).toNat FU 0 0 (fu_lt (by omega)) (by decide) (by omega) inr_0).1
  · show f_X12_lostOnes_4 _ _ _ _ _ _ = _
    rw [f_X12_lostOnes_4, gd_t (by decide), Nat.zero_add, if_pos h2, bd_e (e_isAfloat hw i), jn_s, bI_z, wr_n (x := i + 1) (by omega)]
    dsimp only
    unfold sLostG
    by_cases c : afl (t 1) i
    · rw [if_pos c, if_pos c, ior_0 hx]
    · rw [if_neg c, if_neg c]
  · unfold sLostG
    split
    · exact hx
    · exact inr_ior _ _
  · show f_X12_lostOnes_4 _ _ _ _ _ _ = _
    rw [f_X12_lostOnes_4, gd_t (by decide), Nat.zero_add, if_neg (by omega)]
theorem m_allArrows (hw : WN (t 1)) : f_X12_allArrows 0 t = some (sHad (t 1), t) := by
  have h58 := hw.boats
  unfold f_X12_allArrows
  rw [gd_t (by decide), jn_s, Nat.zero_add]
  refine (fold1 (F := fun n' x i s => f_X12_allArrows_9 0 (fun v1 s2 => some (v1, s2)) n' x i s) (k := fun v1 s2 => some (v1, s2)) (s := t) (N := t 1 58) (g := sHadG (t 1)) (fun _ x => InR x) (fun m x i h1 h2 hx => ⟨?_, ?_⟩) (fun m x _ => ?_) (t 1 58).toNat FU (t 1 4) 0 (fu_lt (by omega)) (by decide) (by omega) hw.arrows).1
  · show f_X12_allArrows_9 _ _ _ _ _ _ = _
    rw [f_X12_allArrows_9, gd_t (by decide), Nat.zero_add, if_pos h2, bd_e (e_isAfloat hw i), jn_s, bI_z, wr_n (x := i + 1) (by omega)]
    dsimp only
    unfold sHadG
    by_cases c : afl (t 1) i
    · rw [if_pos c, if_pos c, bd_e (e_mStuckIn hw (afl_10 hw c))]
    · rw [if_neg c, if_neg c, Int.add_zero, wr_id hx]
  · unfold sHadG
    split
    · exact inr_wr _
    · exact hx
  · show f_X12_allArrows_9 _ _ _ _ _ _ = _
    rw [f_X12_allArrows_9, gd_t (by decide), Nat.zero_add, if_neg (by omega)]
theorem m_lostMany (hw : WN (t 1)) : f_X12_lostMany 0 t = some (sMany (t 1), t) := by
  have h58 := hw.boats
  unfold f_X12_lostMany
  rw [jn_s]
  refine (fold1 (F := fun n' x i s => f_X12_lostMany_4 0 (fun v1 s2 => some (v1, s2)) n' x i s) (k := fun v1 s2 => some (v1, s2)) (s := t) (N := t 1 58) (g := sManyG (t 1)) (fun i x => 0 ≤ x ∧ x ≤ i) (fun m x i h1 h2 hx => ⟨?_, ?_⟩) (fun m x _ => ?_) (t 1 58).toNat FU 0 0 (fu_lt (by omega)) (by decide) (by omega) ⟨by decide, by decide⟩).1
  · show f_X12_lostMany_4 _ _ _ _ _ _ = _
    rw [f_X12_lostMany_4, gd_t (by decide), Nat.zero_add, if_pos h2, bd_e (e_isAfloat hw i), jn_s, bI_z, wr_n (x := i + 1) (by omega)]
    dsimp only
    rw [wr_n (x := x + 1) (by omega), Int.add_zero, wr_n (x := x) (by omega)]
    unfold sManyG
    by_cases c : afl (t 1) i
    · rw [if_pos c, if_pos c]
    · rw [if_neg c, if_neg c]
  · unfold sManyG
    split
    · omega
    · omega
  · show f_X12_lostMany_4 _ _ _ _ _ _ = _
    rw [f_X12_lostMany_4, gd_t (by decide), Nat.zero_add, if_neg (by omega)]
theorem m_boatsAt (hw : WN (t 1)) (r : Int) : f_X12_boatsAt 0 r t = some (sAt (t 1) r, t) := by
  have h58 := hw.boats
  unfold f_X12_boatsAt
  rw [jn_s]
  refine (fold1 (F := fun n' x i s => f_X12_boatsAt_4 0 r (fun v1 s2 => some (v1, s2)) n' x i s) (k := fun v1 s2 => some (v1, s2)) (s := t) (N := t 1 58) (g := sAtG (t 1) r) (fun i x => 0 ≤ x ∧ x ≤ i) (fun m x i h1 h2 hx => ⟨?_, ?_⟩) (fun m x _ => ?_) (t 1 58).toNat FU 0 0 (fu_lt (by omega)) (by decide) (by omega) ⟨by decide, by decide⟩).1
  · show f_X12_boatsAt_4 _ _ _ _ _ _ _ = _
    rw [f_X12_boatsAt_4, gd_t (by decide), Nat.zero_add, if_pos h2, bd_e (e_isAfloat hw i), jn_s, jn_s, bI_z, wr_n (x := i + 1) (by omega)]
    dsimp only
    rw [wr_n (x := x + 1) (by omega), Int.add_zero, wr_n (x := x) (by omega)]
    unfold sAtG
    by_cases c : afl (t 1) i
    · have hb := afl_10 hw c
      rw [if_pos c, wr_n (x := 7 + i) (by omega), gd_t (by omega)]
      by_cases c2 : t 1 (7 + i) = r
      · rw [if_pos c2, if_pos ⟨c, c2⟩]
      · rw [if_neg c2, if_neg (fun q => c2 q.2)]
    · rw [if_neg c, if_neg (fun q => c q.1)]
  · unfold sAtG
    split
    · omega
    · omega
  · show f_X12_boatsAt_4 _ _ _ _ _ _ _ = _
    rw [f_X12_boatsAt_4, gd_t (by decide), Nat.zero_add, if_neg (by omega)]
end
/-- as many as are lost -/
theorem lost_many (w : Int → Int) : ∀ (j i : Nat) (x : Nat), i + j ≤ 12 → x < 2 ^ i → ∃ y : Nat, y < 2 ^ (i + j) ∧ fo (sLostG w) j (i : Int) (x : Int) = (y : Int) ∧ pc (y : Int) = fo (sManyG w) j (i : Int) (pc (x : Int)) := by
  intro j
  induction j with
  | zero => exact fun i x _ hx => ⟨x, hx, rfl, rfl⟩
  | succ j ih =>
    intro i x hj hx
    have e : ((i : Nat) : Int) + 1 = ((i + 1 : Nat) : Int) := by omega
    have e2 : i + (j + 1) = i + 1 + j := by omega
    have p2 : 2 ^ (i + 1) = 2 ^ i + 2 ^ i := by rw [Nat.pow_succ]; omega
    have q : fo (sLostG w) (j + 1) (i : Int) (x : Int) = fo (sLostG w) j ((i : Int) + 1) (sLostG w (i : Int) (x : Int)) := rfl
    have q' : fo (sManyG w) (j + 1) (i : Int) (pc (x : Int)) = fo (sManyG w) j ((i : Int) + 1) (sManyG w (i : Int) (pc (x : Int))) := rfl
    rw [q, q', e, e2]
    by_cases c : afl w (i : Int)
    · have g1 : sLostG w (i : Int) (x : Int) = (x : Int) := if_pos c
      have g2 : sManyG w (i : Int) (pc (x : Int)) = pc (x : Int) := if_pos c
      rw [g1, g2]
      exact ih (i + 1) x (by omega) (by omega)
    · obtain ⟨b1, b2⟩ := setb_e (b := i) (x := x) (by omega) hx
      have g1 : sLostG w (i : Int) (x : Int) = ((x + 2 ^ i : Nat) : Int) := (if_neg c).trans b1
      have g2 : sManyG w (i : Int) (pc (x : Int)) = pc ((x + 2 ^ i : Nat) : Int) := (if_neg c).trans b2.symm
      rw [g1, g2]
      exact ih (i + 1) (x + 2 ^ i) (by omega) (by omega)
theorem c_howMany {s : Mem} {n : Nat} {w : Int → Int} (h : NR s n w) (hw : WN w) : f_X4_howManyLost n s = some (sMany w, s) := by
  have h58 := hw.boats
  unfold f_X4_howManyLost
  rw [bd_e (c_allLost h hw), bc_e, bd_s]
  obtain ⟨y, y1, y2, y3⟩ := lost_many w (w 58).toNat 0 0 (by omega) (by decide)
  have hy : y < 4096 := Nat.lt_of_lt_of_le y1 (Nat.pow_le_pow_right (by decide) (show 0 + (w 58).toNat ≤ 12 by omega))
  have e1 : sLost w = (y : Int) := y2
  have e2 : pc ((0 : Nat) : Int) = 0 := by decide
  rw [e2] at y3
  have e3 : pc (y : Int) = sMany w := y3
  rw [e1, bcv_e (by omega), e3]

/-! ===== L3: what the leaves of a night answer ===== -/
abbrev hasB (w : Int → Int) (b : Int) : Prop := 0 ≤ b ∧ b < w 58
abbrev afl (w : Int → Int) (b : Int) : Prop := (0 ≤ b ∧ b < w 58) ∧ w (47 + b) = 0
def sStk (w : Int → Int) (b : Int) : Int := w (17 + b) + w (27 + b)
def sLean (w : Int → Int) (b : Int) : Int := if w (17 + b) ≤ w (27 + b) then w (27 + b) - w (17 + b) else w (17 + b) - w (27 + b)
theorem afl_10 {w : Int → Int} (hw : WN w) {b : Int} (h : afl w b) : 0 ≤ b ∧ b < 10 := by
  have := hw.boats
  have := h.1
  omega
theorem sLean_in {w : Int → Int} (hw : WN w) {b : Int} (hb : 0 ≤ b ∧ b < 10) : 0 ≤ sLean w b ∧ sLean w b ≤ 999 := by
  have h1 := hw.left hb
  have h2 := hw.right hb
  unfold sLean
  split
  · omega
  · omega
theorem sStk_in {w : Int → Int} (hw : WN w) {b : Int} (hb : 0 ≤ b ∧ b < 10) : 0 ≤ sStk w b ∧ sStk w b ≤ 1998 := by
  have h1 := hw.left hb
  have h2 := hw.right hb
  unfold sStk
  omega
section
variable {s : Mem} {n : Nat} {w : Int → Int}
theorem e_has (h : NR s n w) (b : Int) : f_X4_has n b s = some (bI (hasB w b), s) := by
  unfold f_X4_has bI hasB
  rw [h.boats]
  by_cases h1 : b < 0
  · rw [if_pos h1, if_neg (by omega)]
  · rw [if_neg h1]
    by_cases h2 : b < w 58
    · rw [if_pos h2, if_pos (by omega)]
    · rw [if_neg h2, if_neg (by omega)]
theorem e_afloat (h : NR s n w) (hw : WN w) (b : Int) : f_X4_afloat n b s = some (bI (afl w b), s) := by
  unfold f_X4_afloat
  rw [bd_e (e_has h b), bI_z]
  have h58 := hw.boats
  by_cases hb : hasB w b
  · have hb' : 0 ≤ b ∧ b < w 58 := hb
    have hb2 : 0 ≤ b ∧ b < 10 := by omega
    rw [if_pos hb, gd_t hb2, h.lost hb2]
    unfold bI
    by_cases h1 : w (47 + b) = 0
    · rw [if_pos h1, if_pos ⟨hb, h1⟩]
    · rw [if_neg h1, if_neg (fun q => h1 q.2)]
  · rw [if_neg hb, bI_f (fun q => hb q.1)]
theorem e_stuckIn (h : NR s n w) (hw : WN w) {b : Int} (hb : 0 ≤ b ∧ b < 10) : f_X4_stuckIn n b s = some (sStk w b, s) := by
  unfold f_X4_stuckIn sStk
  have h1 := hw.left hb
  have h2 := hw.right hb
  rw [gd_t hb, gd_t hb, h.left hb, h.right hb, wr_n (by omega)]
theorem e_lean (h : NR s n w) (hw : WN w) {b : Int} (hb : 0 ≤ b ∧ b < 10) : f_X4_lean n b s = some (sLean w b, s) := by
  unfold f_X4_lean sLean
  have h1 := hw.left hb
  have h2 := hw.right hb
  rw [gd_t hb, gd_t hb, h.left hb, h.right hb]
  by_cases h3 : w (27 + b) < w (17 + b)
  · rw [if_pos h3, gd_t hb, gd_t hb, if_neg (by omega), wr_n (by omega)]
  · rw [if_neg h3, gd_t hb, gd_t hb, if_pos (by omega), wr_n (by omega)]
end
section
variable {t : Mem}
theorem e_lesser (x y : Int) (t : Mem) : f_X12_lesser x y t = some (mmn x y, t) := by
  unfold f_X12_lesser mmn
  by_cases h : x < y
  · rw [if_pos h, if_neg (by omega)]
  · rw [if_neg h]
    by_cases h2 : y < x
    · rw [if_pos h2]
    · have : x = y := by omega
      rw [if_neg h2, this]
theorem e_greater (x y : Int) (t : Mem) : f_X12_greater x y t = some (mmx x y, t) := by
  unfold f_X12_greater mmx
  by_cases h : y < x
  · rw [if_pos h, if_neg (by omega)]
  · rw [if_neg h]
    by_cases h2 : x < y
    · rw [if_pos h2]
    · have : x = y := by omega
      rw [if_neg h2, this]
theorem e_held (v l g : Int) (t : Mem) : f_X12_held v l g t = some (mmx l (mmn g v), t) := by
  unfold f_X12_held
  rw [bd_e (e_lesser g v t), bd_e (e_greater l _ t)]
theorem e_isReach (r : Int) (t : Mem) : f_X12_isReach r t = some (bI (0 ≤ r ∧ r ≤ 15), t) := by
  unfold f_X12_isReach
  rw [bd_e (e_isIn r 0 15 t)]
theorem e_isBoat (hw : WN (t 1)) (b : Int) : f_X12_isBoat 0 b t = some (bI (hasB (t 1) b), t) := by
  unfold f_X12_isBoat
  have h58 := hw.boats
  rw [gd_t (by decide), Nat.zero_add, wr_n (by omega), bd_e (e_isIn b 0 _ t)]
  exact congrArg (fun x => some (x, t)) (bI_cg (by unfold hasB; omega))
theorem e_isAfloat (hw : WN (t 1)) (b : Int) : f_X12_isAfloat 0 b t = some (bI (afl (t 1) b), t) := by
  unfold f_X12_isAfloat
  rw [bd_e (e_isBoat hw b), bI_z]
  have h58 := hw.boats
  by_cases hb : hasB (t 1) b
  · have hb' : 0 ≤ b ∧ b < t 1 58 := hb
    rw [if_pos hb, Nat.zero_add, wr_n (by omega), gd_t (by omega)]
    unfold bI
    by_cases h1 : t 1 (47 + b) = 0
    · rw [if_pos h1, if_pos ⟨hb, h1⟩]
    · rw [if_neg h1, if_neg (fun q => h1 q.2)]
  · rw [if_neg hb, bI_f (fun q => hb q.1)]
theorem e_mStuckIn (hw : WN (t 1)) {b : Int} (hb : 0 ≤ b ∧ b < 10) : f_X12_stuckIn 0 b t = some (sStk (t 1) b, t) := by
  unfold f_X12_stuckIn sStk
  have h1 := hw.left hb
  have h2 := hw.right hb
  rw [Nat.zero_add, wr_n (x := 17 + b) (by omega), wr_n (x := 27 + b) (by omega), gd_t (by omega), gd_t (by omega), wr_n (by omega)]
theorem e_leanOf (hw : WN (t 1)) {b : Int} (hb : 0 ≤ b ∧ b < 10) : f_X12_leanOf 0 b t = some (sLean (t 1) b, t) := by
  unfold f_X12_leanOf sLean
  have h1 := hw.left hb
  have h2 := hw.right hb
  rw [Nat.zero_add, wr_n (x := 17 + b) (by omega), wr_n (x := 27 + b) (by omega), gd_t (by omega), gd_t (by omega), gd_t (by omega), gd_t (by omega), wr_n (by omega), wr_n (by omega), bd_e (e_greater _ _ t)]
  unfold mmx
  by_cases h3 : t 1 (17 + b) ≤ t 1 (27 + b)
  · rw [if_pos h3]
    by_cases h4 : t 1 (17 + b) - t 1 (27 + b) < t 1 (27 + b) - t 1 (17 + b)
    · rw [if_pos h4]
    · rw [if_neg h4]
      have : t 1 (17 + b) - t 1 (27 + b) = t 1 (27 + b) - t 1 (17 + b) := by omega
      rw [this]
  · rw [if_neg h3, if_neg (by omega)]
theorem e_forgets (t : Mem) : f_X12_forgets 0 t = some (0, mup t 0 4 0) := rfl
end

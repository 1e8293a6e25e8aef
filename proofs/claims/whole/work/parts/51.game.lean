/-! ===== L3: game ===== -/
theorem ixor_0 {x : Int} (h : InR x) : ixor x 0 = x := by
  unfold ixor
  have e : Int32.ofInt 0 = 0 := rfl
  rw [e, Int32.xor_zero, i32_toInt h]
def gOd (w : Int → Int) (b x : Int) : Int := if afl w b then ixor x ((sLean w b).tmod (w 2 + 2)) else x
def sOd (w : Int → Int) : Int := fo (gOd w) (w 58).toNat 0 0
/-- the first taking from a heap -/
def sTk (H M R D : Int) : Nat → Int → Option Int
  | 0, _ => none
  | j + 1, k => if M < k then none else if H < k then none else if (H - k).tmod R = D then some k else sTk H M R D j (k + 1)
theorem c_tk {H M R D p5 : Int} {k1 : Unit → Res} {k2 : Int → Int → Mem → Res} {s : Mem} (hR : R ≠ 0) (hM : M ≤ 100) (hH : 0 ≤ H ∧ H ≤ 999) : ∀ (j fu : Nat) (k : Int), j < fu → 1 ≤ k → M < k + j → f_X4_takesWell_103 M R p5 H D k1 k2 s fu k = match sTk H M R D j k with
    | none => k1 ()
    | some v => k2 p5 v s := by
  intro j
  induction j with
  | zero =>
    intro fu k h1 h2 h3
    cases fu with
    | zero => exact absurd h1 (Nat.not_lt_zero _)
    | succ fu =>
      rw [f_X4_takesWell_103, if_pos (by omega)]
      rfl
  | succ j ih =>
    intro fu k h1 h2 h3
    cases fu with
    | zero => exact absurd h1 (Nat.not_lt_zero _)
    | succ fu =>
      have e : sTk H M R D (j + 1) k = if M < k then none else if H < k then none else if (H - k).tmod R = D then some k else sTk H M R D j (k + 1) := rfl
      rw [f_X4_takesWell_103, e]
      by_cases c1 : M < k
      · rw [if_pos c1, if_pos c1]
      · rw [if_neg c1, if_neg c1]
        by_cases c2 : H < k
        · rw [if_pos c2, if_pos c2]
        · rw [if_neg c2, if_neg c2, gd_t hR, wr_n (x := H - k) (by omega), wr_n (x := k + 1) (by omega)]
          by_cases c3 : (H - k).tmod R = D
          · rw [if_pos c3, if_pos c3]
          · rw [if_neg c3, if_neg c3]
            exact ih fu (k + 1) (by omega) (by omega) (by omega)
section
variable {s t : Mem}
theorem m_heap {w : Int → Int} (hw : WN w) (ht : t 1 = w) (b : Int) : f_X12_heapOf 0 b t = some (if afl w b then (sLean w b).tmod (w 2 + 2) else 0, t) := by
  have hd := hw.drums
  have ea := e_isAfloat (t := t) (by rw [ht]; exact hw) b
  rw [ht] at ea
  unfold f_X12_heapOf
  rw [bd_e ea, bI_z]
  by_cases c : afl w b
  · have el := e_leanOf (t := t) (by rw [ht]; exact hw) (afl_10 hw c)
    rw [ht] at el
    rw [if_pos c, if_pos c, bd_e el, gd_t (by decide), Nat.zero_add, ht, wr_n (by omega), gd_t (by omega)]
  · rw [if_neg c, if_neg c]
theorem m_tk {w : Int → Int} (hw : WN w) (ht : t 1 = w) {A b : Int} {k1 : Mem → Res} {k2 : Int → Int → Mem → Res} (ca : afl w b) : ∀ (j fu : Nat) (k : Int), j < fu → 1 ≤ k → w 2 + 1 < k + j → f_X12_game_56 0 A b k1 k2 fu k t = match sTk (sLean w b) (w 2 + 1) (w 2 + 2) (ixor A ((sLean w b).tmod (w 2 + 2))) j k with
    | none => k1 t
    | some v => k2 b v t := by
  have hd := hw.drums
  have hb := afl_10 hw ca
  have ea := e_isAfloat (t := t) (by rw [ht]; exact hw) b
  have el := e_leanOf (t := t) (by rw [ht]; exact hw) hb
  have eh := m_heap hw ht b
  have hl := sLean_in hw hb
  rw [ht] at ea el
  rw [if_pos ca] at eh
  intro j
  induction j with
  | zero =>
    intro fu k h1 h2 h3
    cases fu with
    | zero => exact absurd h1 (Nat.not_lt_zero _)
    | succ fu =>
      rw [f_X12_game_56, bd_e ea, bI_z, if_pos ca, gd_t (by decide), Nat.zero_add, ht, wr_n (x := w 2 + 1) (by omega), if_pos (by omega)]
      rfl
  | succ j ih =>
    intro fu k h1 h2 h3
    cases fu with
    | zero => exact absurd h1 (Nat.not_lt_zero _)
    | succ fu =>
      have e : sTk (sLean w b) (w 2 + 1) (w 2 + 2) (ixor A ((sLean w b).tmod (w 2 + 2))) (j + 1) k = if w 2 + 1 < k then none else if sLean w b < k then none else if (sLean w b - k).tmod (w 2 + 2) = ixor A ((sLean w b).tmod (w 2 + 2)) then some k else sTk (sLean w b) (w 2 + 1) (w 2 + 2) (ixor A ((sLean w b).tmod (w 2 + 2))) j (k + 1) := rfl
      rw [f_X12_game_56, e, bd_e ea, bI_z, if_pos ca, gd_t (by decide), Nat.zero_add, ht, wr_n (x := w 2 + 1) (by omega)]
      by_cases c1 : w 2 + 1 < k
      · rw [if_pos c1, if_pos c1]
      · rw [if_neg c1, if_neg c1, bd_e el]
        by_cases c2 : sLean w b < k
        · rw [if_pos c2, if_pos c2]
        · rw [if_neg c2, if_neg c2, bd_e eh, bd_e el, gd_t (by decide), ht, wr_n (x := w 2 + 2) (by omega), gd_t (by omega), wr_n (x := sLean w b - k) (by omega), wr_n (x := k + 1) (by omega)]
          by_cases c3 : (sLean w b - k).tmod (w 2 + 2) = ixor A ((sLean w b).tmod (w 2 + 2))
          · rw [if_pos c3, if_pos c3.symm]
          · rw [if_neg c3, if_neg (fun q => c3 q.symm)]
            exact ih fu (k + 1) (by omega) (by omega) (by omega)
theorem k_game (h : IV s t) (what : Int) : Sim (f_X11_game 0 what s) (f_X12_game 0 what t) := by
  have hw := h.wn
  have hd := hw.drums
  have h58 := hw.boats
  have hN := h.nr
  have eR : mmx 2 (t 1 2 + 1 + 1) = t 1 2 + 2 := by
    unfold mmx
    split
    · omega
    · omega
  have c21 : ∀ k : Int → Mem → Res, f_X4_takesWell_21 2 (t 1 2 + 2) k FU 0 0 s = k (sOd (t 1)) s := by
    intro k
    refine (fold1 (F := fun n' x i s => f_X4_takesWell_21 2 (t 1 2 + 2) k n' x i s) (k := k) (s := s) (N := t 1 58) (g := gOd (t 1)) (fun _ _ => True) (fun m x i h1 h2 _ => ⟨?_, trivial⟩) (fun m x _ => ?_) (t 1 58).toNat FU 0 0 (fu_lt (by omega)) (by decide) (by omega) trivial).1
    · show f_X4_takesWell_21 _ _ _ _ _ _ _ = _
      rw [f_X4_takesWell_21, hN.boats, if_pos h2, bd_e (e_afloat hN hw i), jn_s, bI_z, wr_n (x := i + 1) (by omega)]
      unfold gOd
      by_cases c : afl (t 1) i
      · rw [if_pos c, if_pos c, bd_e (e_lean hN hw (afl_10 hw c)), gd_t (by omega)]
      · rw [if_neg c, if_neg c]
    · show f_X4_takesWell_21 _ _ _ _ _ _ _ = _
      rw [f_X4_takesWell_21, hN.boats, if_neg (by omega)]
  have m15 : ∀ k : Int → Mem → Res, f_X12_game_15 0 k FU 0 0 t = k (sOd (t 1)) t := by
    intro k
    refine (fold1 (F := fun n' x i s => f_X12_game_15 0 k n' x i s) (k := k) (s := t) (N := t 1 58) (g := gOd (t 1)) (fun _ x => InR x) (fun m x i h1 h2 hx => ⟨?_, ?_⟩) (fun m x _ => ?_) (t 1 58).toNat FU 0 0 (fu_lt (by omega)) (by decide) (by omega) inr_0).1
    · show f_X12_game_15 _ _ _ _ _ _ = _
      rw [f_X12_game_15, gd_t (by decide), Nat.zero_add, if_pos h2, bd_e (m_heap hw rfl i), wr_n (x := i + 1) (by omega)]
      unfold gOd
      by_cases c : afl (t 1) i
      · rw [if_pos c, if_pos c]
      · rw [if_neg c, if_neg c, ixor_0 hx]
    · unfold gOd
      split
      · exact inr_ixor _ _
      · exact hx
    · show f_X12_game_15 _ _ _ _ _ _ = _
      rw [f_X12_game_15, gd_t (by decide), Nat.zero_add, if_neg (by omega)]
  have srch : ∀ (A : Int) (j f1 f2 : Nat) (b : Int), j < f1 → j < f2 → 0 ≤ b → b + j = t 1 58 → Sim (f_X4_takesWell_61 2 (t 1 2 + 1) (t 1 2 + 2) A (fun s3 => some (-1, s3)) (fun (v4 : Int) (v5 : Int) (s6 : Mem) => if what = 0 then (some (v4, s6)) else (some (v5, s6))) f1 b s) (f_X12_game_42 0 A (fun s6 => some (-1, s6)) (fun (v7 : Int) (v8 : Int) (s9 : Mem) => if what = 0 then (some (v7, s9)) else (some (v8, s9))) f2 b t) := by
    intro A j
    induction j with
    | zero =>
      intro f1 f2 b g1 g2 hb hj
      cases f1 with
      | zero => exact absurd g1 (Nat.not_lt_zero _)
      | succ f1 =>
        cases f2 with
        | zero => exact absurd g2 (Nat.not_lt_zero _)
        | succ f2 =>
          rw [f_X4_takesWell_61, f_X12_game_42, gd_t (by decide), hN.boats, Nat.zero_add, if_neg (by omega), if_neg (by omega)]
          exact Sim.rf h _
    | succ j ih =>
      intro f1 f2 b g1 g2 hb hj
      cases f1 with
      | zero => exact absurd g1 (Nat.not_lt_zero _)
      | succ f1 =>
        cases f2 with
        | zero => exact absurd g2 (Nat.not_lt_zero _)
        | succ f2 =>
          have nx := ih f1 f2 (b + 1) (by omega) (by omega) (by omega) (by omega)
          rw [f_X4_takesWell_61, f_X12_game_42, gd_t (by decide), hN.boats, Nat.zero_add, if_pos (by omega), if_pos (by omega), bd_e (e_afloat hN hw b), jn_s, jn_s, bI_z, wr_n (x := b + 1) (by omega)]
          by_cases ca : afl (t 1) b
          · have hl := sLean_in hw (afl_10 hw ca)
            rw [if_pos ca, bd_e (e_lean hN hw (afl_10 hw ca))]
            show Sim (gd (t 1 2 + 2 ≠ 0) (jn _ _)) _
            rw [gd_t (by omega), jn_s, c_tk (by omega) (by omega) hl 12 FU 1 (fu_lt (by omega)) (by decide) (by omega), m_tk hw rfl ca 12 FU 1 (fu_lt (by omega)) (by decide) (by omega)]
            cases sTk (sLean (t 1) b) (t 1 2 + 1) (t 1 2 + 2) (ixor A ((sLean (t 1) b).tmod (t 1 2 + 2))) 12 1 with
            | none => exact nx
            | some v =>
              show Sim (if what = 0 then (some (b, s)) else (some (v, s))) (if what = 0 then (some (b, t)) else (some (v, t)))
              by_cases c0 : what = 0
              · rw [if_pos c0, if_pos c0]
                exact Sim.rf h _
              · rw [if_neg c0, if_neg c0]
                exact Sim.rf h _
          · rw [if_neg ca]
            show Sim (gd (t 1 2 + 2 ≠ 0) (jn _ _)) _
            rw [gd_t (by omega), jn_s, c_tk (by omega) (by omega) (by decide) 12 FU 1 (fu_lt (by omega)) (by decide) (by omega)]
            have e0 : ∀ D : Int, sTk 0 (t 1 2 + 1) (t 1 2 + 2) D 12 1 = none := by
              intro D
              show (if t 1 2 + 1 < 1 then none else if (0 : Int) < 1 then none else _) = none
              rw [if_neg (by omega), if_pos (by decide)]
            rw [e0]
            have ef : ∃ m : Nat, FU = m + 1 := ⟨5999, rfl⟩
            obtain ⟨m, em⟩ := ef
            rw [em, f_X12_game_56, bd_e (e_isAfloat hw b), bI_z, if_neg ca]
            exact nx
  unfold f_X11_game f_X12_game
  simp only [Nat.zero_add, Nat.reduceAdd]
  rw [bd_e (e_within _ _ _ _), bd_e (e_isIn _ _ _ _), bI_z, bI_z]
  by_cases c : 0 ≤ what ∧ what ≤ 1
  · rw [if_pos c, if_pos c]
    have bs : ∀ o : Res, (bd o fun r4 s5 => some (r4, s5)) = o := by
      intro o
      cases o with
      | none => rfl
      | some q => rfl
    rw [bs, jn_s, m15]
    unfold f_X4_takesWell
    rw [jn_s, hN.drums, wr_n (x := t 1 2 + 1) (by omega), wr_n (x := t 1 2 + 1 + 1) (by omega), eR, c21]
    show Sim (jn _ _) (jn _ _)
    rw [jn_s, jn_s, jn_s, jn_s]
    exact srch (sOd (t 1)) (t 1 58).toNat FU FU 0 (fu_lt (by omega)) (fu_lt (by omega)) (by decide) (by omega)
  · rw [if_neg c, if_neg c]
    exact Sim.rf h _
end

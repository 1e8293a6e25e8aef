/-! ===== L3: turnings ===== -/
theorem mrF_fo (p0 p1 : Int) : ∀ (j : Nat) (i x : Int), fo (mrG p0 p1) j i x = mrF p0 p1 j i x
  | 0, _, _ => rfl
  | j + 1, i, x => mrF_fo p0 p1 j (i + 1) (mrG p0 p1 i x)
theorem c_mirrored (x n : Int) (hn : 0 ≤ n ∧ n ≤ 10) (s : Mem) : f_X8_mirrored x n s = some (mrv x n, s) := by
  unfold f_X8_mirrored
  rw [jn_s]
  have h := (fold1 (F := fun n' a i (_ : Mem) => f_X8_mirrored_4 x n (fun v1 => some (v1, s)) s n' a i) (k := fun v1 _ => some (v1, s)) (s := s) (N := n) (g := mrG x n) (fun _ _ => True) (fun m a i h1 h2 _ => ⟨by
    show f_X8_mirrored_4 _ _ _ _ _ _ _ = _
    rw [f_X8_mirrored_4, if_pos h2, wr_n (x := i + 1) (by omega)]
    rfl, trivial⟩) (fun m a _ => by
    show f_X8_mirrored_4 _ _ _ _ _ _ _ = _
    rw [f_X8_mirrored_4, if_neg (by omega)]) n.toNat FU 0 0 (fu_lt (by omega)) (by decide) (by omega) trivial).1
  rw [mrF_fo] at h
  exact h
/-- the boat turned, or not, then an HOUR -/
def tSt (lw : List Lin) (b : Int) (on : Bool) (w : Int → Int) : Int → Int := sHour 0 (if on = true then sTurn 0 w b else w) lw
/-- behind i HOURS of a row of bits -/
def tPath (lw : List Lin) (b : Int) (f : Nat → Bool) (w0 : Int → Int) : Nat → (Int → Int)
  | 0 => w0
  | i + 1 => tSt lw b (f i) (tPath lw b f w0 i)
def mSt (lw : List Lin) (b : Int) (on : Bool) (w : Int → Int) : Int → Int := sHour 0 (if on = true ∧ afl w b then sTurn 0 w b else w) lw
def mPath (lw : List Lin) (b : Int) (f : Nat → Bool) (w0 : Int → Int) : Nat → (Int → Int)
  | 0 => w0
  | i + 1 => mSt lw b (f i) (mPath lw b f w0 i)
def sHas (w : Int → Int) (b : Int) : Int := if afl w b then sStk w b else -1
theorem sTurn_0 (w : Int → Int) (b : Int) : sTurn 0 w b = up w (37 + b) (1 - w (37 + b)) := by
  unfold sTurn sNote
  rw [if_pos (Or.inl rfl)]
theorem tPath_cg {lw : List Lin} {b : Int} {f g : Nat → Bool} {w0 : Int → Int} : ∀ i : Nat, (∀ k : Nat, k < i → f k = g k) → tPath lw b f w0 i = tPath lw b g w0 i
  | 0, _ => rfl
  | i + 1, h => by
    show tSt lw b (f i) (tPath lw b f w0 i) = tSt lw b (g i) (tPath lw b g w0 i)
    rw [tPath_cg i (fun k hk => h k (by omega)), h i (by omega)]
theorem mPath_cg {lw : List Lin} {b : Int} {f g : Nat → Bool} {w0 : Int → Int} : ∀ i : Nat, (∀ k : Nat, k < i → f k = g k) → mPath lw b f w0 i = mPath lw b g w0 i
  | 0, _ => rfl
  | i + 1, h => by
    show mSt lw b (f i) (mPath lw b f w0 i) = mSt lw b (g i) (mPath lw b g w0 i)
    rw [mPath_cg i (fun k hk => h k (by omega)), h i (by omega)]
theorem WT_turn {w0 w : Int → Int} {b k : Int} (h : WT w0 w k) (hb : 0 ≤ b ∧ b < 10) : WT w0 (sTurn 0 w b) k := by
  rw [sTurn_0]
  have ht := h.2.2.turned hb
  exact ⟨fun i hi => by rw [up_ne (by omega)]; exact h.1 i hi, by rw [up_ne (by omega)]; exact h.2.1, h.2.2.u_turned hb (by omega)⟩
section
variable {s t s0 t0 : Mem} {w0 : Int → Int} {lw : List Lin}
theorem WT_tSt (hh : HW s0 w0 lw) {w : Int → Int} {b k : Int} {on : Bool} (hb : 0 ≤ b ∧ b < 10) (hk : 0 ≤ k ∧ k ≤ 9000) (h : WT w0 w k) : WT w0 (tSt lw b on w) (k + 1) := by
  unfold tSt
  by_cases c : on = true
  · rw [if_pos c]
    exact WT_hour hh hk (WT_turn h hb)
  · rw [if_neg c]
    exact WT_hour hh hk h
theorem WT_mSt (hh : HW s0 w0 lw) {w : Int → Int} {b k : Int} {on : Bool} (hb : 0 ≤ b ∧ b < 10) (hk : 0 ≤ k ∧ k ≤ 9000) (h : WT w0 w k) : WT w0 (mSt lw b on w) (k + 1) := by
  unfold mSt
  by_cases c : on = true ∧ afl w b
  · rw [if_pos c]
    exact WT_hour hh hk (WT_turn h hb)
  · rw [if_neg c]
    exact WT_hour hh hk h
theorem WT_tPath (hh : HW s0 w0 lw) {b : Int} {f : Nat → Bool} (hb : 0 ≤ b ∧ b < 10) (hw : WN w0) : ∀ i : Nat, i ≤ 20 → WT w0 (tPath lw b f w0 i) i
  | 0, _ => WT.rf hw
  | i + 1, h => by
    have h1 := WT_tSt hh (b := b) (k := i) (on := f i) hb (by omega) (WT_tPath hh (f := f) hb hw i (by omega))
    exact h1
theorem WT_mPath (hh : HW s0 w0 lw) {b : Int} {f : Nat → Bool} (hb : 0 ≤ b ∧ b < 10) (hw : WN w0) : ∀ i : Nat, i ≤ 20 → WT w0 (mPath lw b f w0 i) i
  | 0, _ => WT.rf hw
  | i + 1, h => by
    have h1 := WT_mSt hh (b := b) (k := i) (on := f i) hb (by omega) (WT_mPath hh (f := f) hb hw i (by omega))
    exact h1
end
/-! one that is lost stays lost -/
def Lst (w : Int → Int) (b : Int) : Prop := w (47 + b) ≠ 0
theorem Lst_off {w : Int → Int} {b c : Int} (hb : 0 ≤ b ∧ b < 10) (hc : 0 ≤ c ∧ c < 10) (h : Lst w b) : Lst (sOff w c) b := by
  unfold Lst sOff
  rw [up_ne (by omega), up_ne (by omega)]
  exact h
theorem sNote_0 (w : Int → Int) (x y z : Int) : sNote 0 w x y z = w := if_pos (Or.inl rfl)
theorem Lst_do {w : Int → Int} {b l : Int} (hw : WN w) (hb : 0 ≤ b ∧ b < 10) (h : Lst w b) : Lst (sDo 0 w l) b := by
  unfold sDo
  by_cases c1 : w (l + 1) = 12
  · rw [if_pos c1]
    unfold Lst
    rw [up_ne (by omega)]
    exact h
  · rw [if_neg c1]
    by_cases c2 : afl w (w (l + 2))
    · have hc := afl_10 hw c2
      rw [if_pos c2]
      by_cases c3 : w (l + 1) = 11
      · rw [if_pos c3, sTurn_0]
        unfold Lst
        rw [up_ne (by omega)]
        exact h
      · rw [if_neg c3]
        by_cases c4 : w (l + 1) = 13
        · rw [if_pos c4]
          unfold sHome
          rw [sNote_0]
          unfold Lst
          rw [up_ne (by omega)]
          exact Lst_off hb hc h
        · rw [if_neg c4]
          unfold sMove
          rw [sNote_0]
          unfold Lst
          rw [up_ne (by omega)]
          exact h
    · rw [if_neg c2]
      exact h
theorem Lst_w4 {w : Int → Int} {lw : List Lin} {b c : Int} (hw : WN w) (hb : 0 ≤ b ∧ b < 10) (hc : 0 ≤ c ∧ c < 10) (h : Lst w b) : Lst (sW4 0 w lw c) b := by
  have h1 : Lst (sW1 w lw c) b := by
    have := sSide_in w hc
    unfold sW1 Lst
    rw [up_ne (by omega)]
    exact h
  have h2 : Lst (sW2 0 w lw c) b := by
    unfold sW2
    rw [sNote_0]
    split
    · exact h1
    · exact h1
  have h3 : Lst (sW3 0 w lw c) b := by
    unfold sW3 Lst
    rw [up_ne (by omega)]
    exact h2
  unfold sW4
  split
  · unfold sLose
    rw [sNote_0]
    refine Lst_off hb hc ?_
    unfold Lst
    by_cases e : c = b
    · rw [up_eq (by omega)]
      decide
    · rw [up_ne (by omega)]
      exact h3
  · unfold sFire
    rw [if_pos rfl]
    exact h3
theorem Lst_plans {w0 : Int → Int} {b : Int} (hP : WPl w0) (hb : 0 ≤ b ∧ b < 10) : ∀ (j : Nat) (i : Int) (w : Int → Int), 0 ≤ i → i + j = w0 61 → WN w → St 0 w0 w → Lst w b → WN (sPlans 0 j i w) ∧ St 0 w0 (sPlans 0 j i w) ∧ Lst (sPlans 0 j i w) b := by
  intro j
  induction j with
  | zero => exact fun i w _ _ h1 h2 h3 => ⟨h1, h2, h3⟩
  | succ j ih =>
    intro i w hi hj h1 h2 h3
    have h16 := hP.1
    have hP' : WPl w := hP.of h2.c61
    have h61 : w 61 = w0 61 := h2.c61 61 (Or.inl rfl)
    obtain ⟨g1, g2, g3⟩ := hP'.2 i hi (by omega)
    have hs : sPlans 0 (j + 1) i w = sPlans 0 j (i + 1) (if w (133 + 4 * i) = w 0 then sDo 0 w (133 + 4 * i) else w) := rfl
    rw [hs]
    by_cases c : w (133 + 4 * i) = w 0
    · rw [if_pos c]
      exact ih (i + 1) _ (by omega) (by omega) (WN_do h1 g2 (fun q1 q2 q3 => g3 (by omega))) (St_do h2 h1 (fun q1 q2 q3 => g3 (by omega))) (Lst_do h1 hb h3)
    · rw [if_neg c]
      exact ih (i + 1) w (by omega) (by omega) h1 h2 h3
theorem Lst_drifts {w0 : Int → Int} {b v : Int} (hb : 0 ≤ b ∧ b < 10) : ∀ (j : Nat) (c : Int) (w : Int → Int), WN w → St 0 w0 w → Lst w b → WN (sDrifts v j c w) ∧ St 0 w0 (sDrifts v j c w) ∧ Lst (sDrifts v j c w) b := by
  intro j
  induction j with
  | zero => exact fun i w h1 h2 h3 => ⟨h1, h2, h3⟩
  | succ j ih =>
    intro c w h1 h2 h3
    have hs : sDrifts v (j + 1) c w = sDrifts v j (c + 1) (if afl w c then up w (7 + c) (mmx 0 (mmn 15 (wr (w (7 + c) + v)))) else w) := rfl
    rw [hs]
    by_cases ca : afl w c
    · have hc := afl_10 h1 ca
      rw [if_pos ca]
      refine ih (c + 1) _ (h1.u_reach hc (mm_in (by decide))) (h2.up (by omega)) ?_
      unfold Lst
      rw [up_ne (by omega)]
      exact h3
    · rw [if_neg ca]
      exact ih (c + 1) w h1 h2 h3
theorem Lst_shots {w0 : Int → Int} {lw : List Lin} {b : Int} (hb : 0 ≤ b ∧ b < 10) : ∀ (j : Nat) (c m : Int) (w : Int → Int), WN w → St 0 w0 w → Lst w b → Lst (sShots 0 lw j c m w).2 b := by
  intro j
  induction j with
  | zero => exact fun c m w h1 h2 h3 => h3
  | succ j ih =>
    intro c m w h1 h2 h3
    have hs : sShots 0 lw (j + 1) c m w = if afl w c then sShots 0 lw j (c + 1) (wr (m + sMore w lw c)) (sW4 0 w lw c) else sShots 0 lw j (c + 1) m w := rfl
    rw [hs]
    by_cases ca : afl w c
    · have hc := afl_10 h1 ca
      rw [if_pos ca]
      exact ih (c + 1) _ _ (WN_w4 h1 lw hc) (St_w4 h2 h1 lw hc) (Lst_w4 h1 hb hc h3)
    · rw [if_neg ca]
      exact ih (c + 1) m w h1 h2 h3
theorem Lst_hour {s0 : Mem} {w0 w : Int → Int} {lw : List Lin} {b k : Int} (hh : HW s0 w0 lw) (hw : WT w0 w k) (hb : 0 ≤ b ∧ b < 10) (h : Lst w b) : Lst (sHour 0 w lw) b := by
  have hP : WPl w := hh.2.2.1.of (fun i hi => hw.1 i (by omega))
  have h61 := hP.1
  obtain ⟨a1, a2, a3⟩ := Lst_plans hP hb (w 61).toNat 0 w (by decide) (by omega) hw.2.2 (St.rf 0 w) h
  obtain ⟨b1, b2, b3⟩ := Lst_drifts (v := sCur (sBeg 0 w) ((sBeg 0 w 0).tmod 24)) hb (w 58).toNat 0 (sBeg 0 w) a1 a2 a3
  have c3 : Lst (sShot2 0 w lw).2 b := Lst_shots hb (w 58).toNat 0 0 (sMid 0 w) b1 b2 b3
  unfold sHour sEnd Lst
  rw [if_pos rfl, up_ne (by omega), up_ne (by omega)]
  exact c3
/-- both ways come to the same -/
theorem path_rel {s0 : Mem} {w0 : Int → Int} {lw : List Lin} {b : Int} {f : Nat → Bool} (hh : HW s0 w0 lw) (hw : WN w0) (hb : 0 ≤ b ∧ b < 10) (hB : b < w0 58) : ∀ i : Nat, i ≤ 20 → tPath lw b f w0 i = mPath lw b f w0 i ∨ (Lst (tPath lw b f w0 i) b ∧ Lst (mPath lw b f w0 i) b)
  | 0, _ => Or.inl rfl
  | i + 1, hi => by
    have w1 := WT_tPath hh (f := f) hb hw i (by omega)
    have w2 := WT_mPath hh (f := f) hb hw i (by omega)
    show tSt lw b (f i) (tPath lw b f w0 i) = mSt lw b (f i) (mPath lw b f w0 i) ∨ (Lst (tSt lw b (f i) (tPath lw b f w0 i)) b ∧ Lst (mSt lw b (f i) (mPath lw b f w0 i)) b)
    have lt : ∀ w : Int → Int, WT w0 w i → Lst w b → Lst (tSt lw b (f i) w) b := by
      intro w hw h
      unfold tSt
      by_cases c : f i = true
      · rw [if_pos c]
        refine Lst_hour hh (WT_turn hw hb) hb ?_
        rw [sTurn_0]
        unfold Lst
        rw [up_ne (by omega)]
        exact h
      · rw [if_neg c]
        exact Lst_hour hh hw hb h
    have ltm : ∀ w : Int → Int, WT w0 w i → Lst w b → Lst (mSt lw b (f i) w) b := by
      intro w hw h
      unfold mSt
      rw [if_neg (fun q => h q.2.2)]
      exact Lst_hour hh hw hb h
    rcases path_rel hh hw hb hB (f := f) i (by omega) with h | ⟨h1, h2⟩
    · rw [← h]
      by_cases c : Lst (tPath lw b f w0 i) b
      · exact Or.inr ⟨lt _ w1 c, ltm _ w1 c⟩
      · have c0 : tPath lw b f w0 i (47 + b) = 0 := Decidable.byContradiction c
        have e58 := w1.1 58 (by omega)
        refine Or.inl ?_
        unfold tSt mSt
        have ca : afl (tPath lw b f w0 i) b := ⟨⟨hb.1, by omega⟩, c0⟩
        by_cases cf : f i = true
        · rw [if_pos cf, if_pos ⟨cf, ca⟩]
        · rw [if_neg cf, if_neg (fun q => cf q.1)]
    · exact Or.inr ⟨lt _ w1 h1, ltm _ w2 h2⟩
theorem has_rel {s0 : Mem} {w0 : Int → Int} {lw : List Lin} {b : Int} {f : Nat → Bool} (hh : HW s0 w0 lw) (hw : WN w0) (hb : 0 ≤ b ∧ b < 10) (hB : b < w0 58) (n : Nat) (hn : n ≤ 20) : sHas (tPath lw b f w0 n) b = sHas (mPath lw b f w0 n) b := by
  rcases path_rel hh hw hb hB (f := f) n hn with h | ⟨h1, h2⟩
  · rw [h]
  · unfold sHas
    rw [if_neg (fun q => h1 q.2), if_neg (fun q => h2 q.2)]
theorem sHas_in {w : Int → Int} (hw : WN w) (b : Int) : -1 ≤ sHas w b := by
  unfold sHas
  by_cases c : afl w b
  · rw [if_pos c]
    have := sStk_in hw (afl_10 hw c)
    omega
  · rw [if_neg c]
    decide
/-! the best row, found in two orders -/
def gTc (H : Nat → Int) (mr : Nat → Int) (i : Int) (p : Int × Int) : Int × Int := if p.1 < H i.toNat then (H i.toNat, mr i.toNat) else if H i.toNat = p.1 then (if mr i.toNat < p.2 then (H i.toNat, mr i.toNat) else p) else p
def gTm (M : Nat → Int) (i : Int) (p : Int × Int) : Int × Int := if p.1 < M i.toNat then (M i.toNat, i) else p
theorem tc_in {H : Nat → Int} {mr : Nat → Int} {N : Nat} (hH : ∀ r : Nat, r < N → -1 ≤ H r) (hm : ∀ r : Nat, r < N → 0 ≤ mr r) : (fo (gTc H mr) N 0 (-1, -1) = (-1, -1) ∧ ∀ r : Nat, r < N → H r = -1) ∨ (0 ≤ (fo (gTc H mr) N 0 (-1, -1)).1 ∧ (∃ r : Nat, r < N ∧ mr r = (fo (gTc H mr) N 0 (-1, -1)).2 ∧ H r = (fo (gTc H mr) N 0 (-1, -1)).1) ∧ ∀ r : Nat, r < N → H r < (fo (gTc H mr) N 0 (-1, -1)).1 ∨ (H r = (fo (gTc H mr) N 0 (-1, -1)).1 ∧ (fo (gTc H mr) N 0 (-1, -1)).2 ≤ mr r)) := by
  have h := fo_in (g := gTc H mr) (N := (N : Int)) (fun i p => (p = (-1, -1) ∧ ∀ r : Nat, (r : Int) < i → H r = -1) ∨ (0 ≤ p.1 ∧ (∃ r : Nat, (r : Int) < i ∧ mr r = p.2 ∧ H r = p.1) ∧ ∀ r : Nat, (r : Int) < i → H r < p.1 ∨ (H r = p.1 ∧ p.2 ≤ mr r))) (fun p i h1 h2 hp => ?_) N (-1, -1) 0 (by decide) (by omega) (Or.inl ⟨rfl, fun r hr => by omega⟩)
  · rcases h with ⟨a1, a2⟩ | ⟨a1, ⟨r, a2, a3, a4⟩, a5⟩
    · exact Or.inl ⟨a1, fun r hr => a2 r (by omega)⟩
    · exact Or.inr ⟨a1, ⟨r, by omega, a3, a4⟩, fun r hr => a5 r (by omega)⟩
  · have hi := hH i.toNat (by omega)
    have hmi := hm i.toNat (by omega)
    have spl : ∀ r : Nat, (r : Int) < i + 1 → (r : Int) < i ∨ r = i.toNat := fun r hr => by omega
    unfold gTc
    by_cases c1 : p.1 < H i.toNat
    · rw [if_pos c1]
      refine Or.inr ⟨?_, ⟨i.toNat, by omega, rfl, rfl⟩, fun r hr => ?_⟩
      · show 0 ≤ H i.toNat
        rcases hp with ⟨a1, a2⟩ | ⟨a1, a2, a3⟩
        · rw [a1] at c1
          have : (-1 : Int) < H i.toNat := c1
          omega
        · omega
      · show H r < H i.toNat ∨ (H r = H i.toNat ∧ mr i.toNat ≤ mr r)
        rcases spl r hr with q | q
        · left
          rcases hp with ⟨a1, a2⟩ | ⟨a1, a2, a3⟩
          · rw [a1] at c1
            have : (-1 : Int) < H i.toNat := c1
            rw [a2 r q]
            exact this
          · rcases a3 r q with z | z
            · omega
            · omega
        · subst q
          exact Or.inr ⟨rfl, Int.le_refl _⟩
    · rw [if_neg c1]
      by_cases c2 : H i.toNat = p.1
      · rw [if_pos c2]
        by_cases c3 : mr i.toNat < p.2
        · rw [if_pos c3]
          rcases hp with ⟨a1, a2⟩ | ⟨a1, a2, a3⟩
          · exfalso
            rw [a1] at c3
            have : mr i.toNat < -1 := c3
            omega
          · refine Or.inr ⟨by show 0 ≤ H i.toNat; omega, ⟨i.toNat, by omega, rfl, rfl⟩, fun r hr => ?_⟩
            show H r < H i.toNat ∨ (H r = H i.toNat ∧ mr i.toNat ≤ mr r)
            rcases spl r hr with q | q
            · rcases a3 r q with z | z
              · exact Or.inl (by omega)
              · exact Or.inr ⟨by omega, by omega⟩
            · subst q
              exact Or.inr ⟨rfl, Int.le_refl _⟩
        · rw [if_neg c3]
          rcases hp with ⟨a1, a2⟩ | ⟨a1, ⟨r0, b1, b2, b3⟩, a3⟩
          · refine Or.inl ⟨a1, fun r hr => ?_⟩
            rcases spl r hr with q | q
            · exact a2 r q
            · subst q
              rw [c2, a1]
          · refine Or.inr ⟨a1, ⟨r0, by omega, b2, b3⟩, fun r hr => ?_⟩
            rcases spl r hr with q | q
            · exact a3 r q
            · subst q
              exact Or.inr ⟨c2, by omega⟩
      · rw [if_neg c2]
        rcases hp with ⟨a1, a2⟩ | ⟨a1, ⟨r0, b1, b2, b3⟩, a3⟩
        · exfalso
          rw [a1] at c1 c2
          have e1 : ¬ (-1 : Int) < H i.toNat := c1
          have e2 : ¬ H i.toNat = -1 := c2
          omega
        · refine Or.inr ⟨a1, ⟨r0, by omega, b2, b3⟩, fun r hr => ?_⟩
          rcases spl r hr with q | q
          · exact a3 r q
          · subst q
            exact Or.inl (by omega)
theorem tm_in {M : Nat → Int} {N : Nat} (hH : ∀ r : Nat, r < N → -1 ≤ M r) : (fo (gTm M) N 0 (-1, -1) = (-1, -1) ∧ ∀ r : Nat, r < N → M r = -1) ∨ (0 ≤ (fo (gTm M) N 0 (-1, -1)).1 ∧ (∃ r : Nat, r < N ∧ (r : Int) = (fo (gTm M) N 0 (-1, -1)).2 ∧ M r = (fo (gTm M) N 0 (-1, -1)).1) ∧ ∀ r : Nat, r < N → M r < (fo (gTm M) N 0 (-1, -1)).1 ∨ (M r = (fo (gTm M) N 0 (-1, -1)).1 ∧ (fo (gTm M) N 0 (-1, -1)).2 ≤ (r : Int))) := by
  have h := fo_in (g := gTm M) (N := (N : Int)) (fun i p => (p = (-1, -1) ∧ ∀ r : Nat, (r : Int) < i → M r = -1) ∨ (0 ≤ p.1 ∧ (∃ r : Nat, (r : Int) < i ∧ (r : Int) = p.2 ∧ M r = p.1) ∧ ∀ r : Nat, (r : Int) < i → M r < p.1 ∨ (M r = p.1 ∧ p.2 ≤ (r : Int)))) (fun p i h1 h2 hp => ?_) N (-1, -1) 0 (by decide) (by omega) (Or.inl ⟨rfl, fun r hr => by omega⟩)
  · rcases h with ⟨a1, a2⟩ | ⟨a1, ⟨r, a2, a3, a4⟩, a5⟩
    · exact Or.inl ⟨a1, fun r hr => a2 r (by omega)⟩
    · exact Or.inr ⟨a1, ⟨r, by omega, a3, a4⟩, fun r hr => a5 r (by omega)⟩
  · have hi := hH i.toNat (by omega)
    have spl : ∀ r : Nat, (r : Int) < i + 1 → (r : Int) < i ∨ r = i.toNat := fun r hr => by omega
    have ei : ((i.toNat : Nat) : Int) = i := by omega
    unfold gTm
    by_cases c1 : p.1 < M i.toNat
    · rw [if_pos c1]
      refine Or.inr ⟨?_, ⟨i.toNat, by omega, ei, rfl⟩, fun r hr => ?_⟩
      · show 0 ≤ M i.toNat
        rcases hp with ⟨a1, a2⟩ | ⟨a1, a2, a3⟩
        · rw [a1] at c1
          have : (-1 : Int) < M i.toNat := c1
          omega
        · omega
      · show M r < M i.toNat ∨ (M r = M i.toNat ∧ i ≤ (r : Int))
        rcases spl r hr with q | q
        · left
          rcases hp with ⟨a1, a2⟩ | ⟨a1, a2, a3⟩
          · rw [a1] at c1
            have : (-1 : Int) < M i.toNat := c1
            rw [a2 r q]
            exact this
          · rcases a3 r q with z | z
            · omega
            · omega
        · subst q
          exact Or.inr ⟨rfl, by omega⟩
    · rw [if_neg c1]
      rcases hp with ⟨a1, a2⟩ | ⟨a1, ⟨r0, b1, b2, b3⟩, a3⟩
      · refine Or.inl ⟨a1, fun r hr => ?_⟩
        rcases spl r hr with q | q
        · exact a2 r q
        · subst q
          rw [a1] at c1
          have : ¬ (-1 : Int) < M i.toNat := c1
          omega
      · refine Or.inr ⟨a1, ⟨r0, by omega, b2, b3⟩, fun r hr => ?_⟩
        rcases spl r hr with q | q
        · exact a3 r q
        · subst q
          by_cases e : M i.toNat = p.1
          · exact Or.inr ⟨e, by omega⟩
          · exact Or.inl (by omega)
theorem tu_same {H M : Nat → Int} {mr : Nat → Int} {N : Nat} (hH : ∀ r : Nat, r < N → -1 ≤ H r) (hm : ∀ r : Nat, r < N → ∃ m : Nat, m < N ∧ mr r = (m : Int) ∧ mr m = (r : Int) ∧ M m = H r) : fo (gTc H mr) N 0 (-1, -1) = fo (gTm M) N 0 (-1, -1) := by
  have hM : ∀ m : Nat, m < N → -1 ≤ M m ∧ ∃ r : Nat, r < N ∧ mr r = (m : Int) ∧ M m = H r := by
    intro m hmN
    obtain ⟨r, r1, r2, r3, r4⟩ := hm m hmN
    obtain ⟨m2, q1, q2, q3, q4⟩ := hm r r1
    have e : m2 = m := by omega
    subst e
    have := hH r r1
    exact ⟨by omega, r, r1, r3, q4⟩
  rcases tc_in (mr := mr) hH (fun r hr => by obtain ⟨m, _, q, _, _⟩ := hm r hr; omega) with ⟨a1, a2⟩ | ⟨a1, ⟨ra, a2, a3, a4⟩, a5⟩
  · rcases tm_in (fun m hq => (hM m hq).1) with ⟨b1, b2⟩ | ⟨b1, ⟨rb, b2, b3, b4⟩, b5⟩
    · rw [a1, b1]
    · exfalso
      obtain ⟨r, r1, r2, r3⟩ := (hM rb b2).2
      have := a2 r r1
      omega
  · rcases tm_in (fun m hq => (hM m hq).1) with ⟨b1, b2⟩ | ⟨b1, ⟨rb, b2, b3, b4⟩, b5⟩
    · exfalso
      obtain ⟨m, m1, m2, m3, m4⟩ := hm ra a2
      have := b2 m m1
      omega
    · generalize fo (gTc H mr) N 0 (-1, -1) = p at *
      generalize fo (gTm M) N 0 (-1, -1) = q at *
      obtain ⟨ma, m1, m2, m3, m4⟩ := hm ra a2
      obtain ⟨r, r1, r2, r3⟩ := (hM rb b2).2
      have h1 := b5 ma m1
      have h2 := a5 r r1
      have e1 : p.1 = q.1 := by omega
      have e2 : p.2 = q.2 := by omega
      exact Prod.ext e1 e2

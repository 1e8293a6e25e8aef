/-! ===== L3: an HOUR: currents ===== -/
def CurC (s : Mem) (a : Nat) (w : Int → Int) : Prop := s a 2 = w 60 ∧ ∀ i : Int, 0 ≤ i → i < w 60 → s (a + 1) i = w (101 + 2 * i) ∧ s (a + 2) i = w (101 + 2 * i + 1)
def actC (x : Int) : Int := if x = 11 then 21 else if x = 12 then 1 else if x = 13 then 22 else 23
def PlanC (s : Mem) (a : Nat) (w : Int → Int) : Prop := s a 4 = w 61 ∧ ∀ i : Int, 0 ≤ i → i < w 61 → s (a + 1) i = w (133 + 4 * i) ∧ s (a + 2) i = actC (w (133 + 4 * i + 1)) ∧ (w (133 + 4 * i + 1) ≠ 12 → s (a + 3) i = w (133 + 4 * i + 2)) ∧ (w (133 + 4 * i + 1) = 12 → s (a + 4) i = w (133 + 4 * i + 2)) ∧ (w (133 + 4 * i + 1) = 14 → s (a + 4) i = w (133 + 4 * i + 3))
def WC (w : Int → Int) : Prop := (0 ≤ w 60 ∧ w 60 ≤ 16) ∧ ∀ i : Int, 0 ≤ i → i < w 60 → (0 ≤ w (101 + 2 * i) ∧ w (101 + 2 * i) ≤ 23) ∧ (-5 ≤ w (101 + 2 * i + 1) ∧ w (101 + 2 * i + 1) ≤ 5)
def WPl (w : Int → Int) : Prop := (0 ≤ w 61 ∧ w 61 ≤ 16) ∧ ∀ i : Int, 0 ≤ i → i < w 61 → (11 ≤ w (133 + 4 * i + 1) ∧ w (133 + 4 * i + 1) ≤ 14) ∧ (w (133 + 4 * i + 1) = 12 → 0 ≤ w (133 + 4 * i + 2) ∧ w (133 + 4 * i + 2) ≤ 9) ∧ (w (133 + 4 * i + 1) = 14 → 0 ≤ w (133 + 4 * i + 3) ∧ w (133 + 4 * i + 3) ≤ 15)
def sLat (w : Int → Int) (h : Int) : Nat → Int → Int → Int
  | 0, _, best => best
  | j + 1, i, best => sLat w h j (i + 1) (if w (101 + 2 * i) ≤ h ∧ (best = -1 ∨ w (101 + 2 * best) ≤ w (101 + 2 * i)) then i else best)
def sCurB (w : Int → Int) (h : Int) : Int := if sLat w h (w 60).toNat 0 (-1) = -1 then sLat w 24 (w 60).toNat 0 (-1) else sLat w h (w 60).toNat 0 (-1)
def sCur (w : Int → Int) (h : Int) : Int := if sCurB w h = -1 then 0 else w (101 + 2 * sCurB w h + 1)
theorem sLat_in (w : Int → Int) (h : Int) : ∀ (j : Nat) (i best : Int), 0 ≤ i → (best = -1 ∨ (0 ≤ best ∧ best < i)) → (sLat w h j i best = -1 ∨ (0 ≤ sLat w h j i best ∧ sLat w h j i best < i + j))
  | 0, i, best, _, hb => by
    have e : i + ((0 : Nat) : Int) = i := Int.add_zero i
    rw [e]
    exact hb
  | j + 1, i, best, hi, hb => by
    have e : i + ((j + 1 : Nat) : Int) = i + 1 + (j : Int) := by omega
    rw [e]
    refine sLat_in w h j (i + 1) _ (by omega) ?_
    split
    · right; omega
    · rcases hb with hb | hb
      · left; exact hb
      · right; omega
section
variable {s : Mem} {w : Int → Int}
theorem c_lat {h : Int} {k : Int → Res} (hC : CurC s 19 w) (hW : WC w) : ∀ (j n : Nat) (i best : Int), j < n → 0 ≤ i → i + j = w 60 → (best = -1 ∨ (0 ≤ best ∧ best < i)) → f_X1_latest_4 19 h k s n best i = k (sLat w h j i best) := by
  intro j
  induction j with
  | zero =>
    intro n i best hn hi hj hb
    cases n with
    | zero => exact absurd hn (Nat.not_lt_zero _)
    | succ n =>
      rw [f_X1_latest_4, hC.1, if_neg (by omega)]
      rfl
  | succ j ih =>
    intro n i best hn hi hj hb
    have h16 := hW.1
    cases n with
    | zero => exact absurd hn (Nat.not_lt_zero _)
    | succ n =>
      have ei : s (19 + 1) i = w (101 + 2 * i) := (hC.2 i hi (by omega)).1
      have W1 : wr (i + 1) = i + 1 := wr_n (by omega)
      rw [f_X1_latest_4, hC.1, if_pos (by omega), gd_t (by omega), jn_s, ei, W1]
      have hs : sLat w h (j + 1) i best = sLat w h j (i + 1) (if w (101 + 2 * i) ≤ h ∧ (best = -1 ∨ w (101 + 2 * best) ≤ w (101 + 2 * i)) then i else best) := rfl
      rw [hs]
      by_cases c1 : h < w (101 + 2 * i)
      · rw [if_pos c1, if_neg (fun q => by omega)]
        exact ih n (i + 1) best (by omega) (by omega) (by omega) (by omega)
      · rw [if_neg c1, jn_s]
        by_cases c2 : best = -1
        · rw [if_pos c2, if_pos ⟨by omega, Or.inl c2⟩]
          exact ih n (i + 1) i (by omega) (by omega) (by omega) (by omega)
        · have hb2 : 0 ≤ best ∧ best < i := hb.resolve_left c2
          have eb : s (19 + 1) best = w (101 + 2 * best) := (hC.2 best hb2.1 (by omega)).1
          rw [if_neg c2, gd_t (by omega), gd_t (by omega), eb]
          by_cases c3 : w (101 + 2 * i) < w (101 + 2 * best)
          · rw [if_pos c3, if_neg (fun q => q.2.elim c2 (fun z => by omega))]
            exact ih n (i + 1) best (by omega) (by omega) (by omega) (by omega)
          · rw [if_neg c3, if_pos ⟨by omega, Or.inr (by omega)⟩]
            exact ih n (i + 1) i (by omega) (by omega) (by omega) (by omega)
theorem c_latest (hC : CurC s 19 w) (hW : WC w) (h : Int) : f_X1_latest 19 h s = some (sLat w h (w 60).toNat 0 (-1), s) := by
  have h16 := hW.1
  unfold f_X1_latest
  rw [jn_s]
  exact c_lat hC hW (w 60).toNat FU 0 (-1) (fu_lt (by omega)) (by omega) (by omega) (Or.inl rfl)
theorem c_goesAt (hC : CurC s 19 w) (hW : WC w) (h : Int) : f_X1_goesAt 19 h s = some (sCur w h, s) := by
  have h16 := hW.1
  unfold f_X1_goesAt
  rw [bd_e (c_latest hC hW h), jn_s]
  have e : ∀ v : Int, v = sCurB w h → (if v = (-1) then some (0, s) else gd ((0 : Int) ≤ v ∧ v < 16) (some (s (19 + 2) v, s))) = some (sCur w h, s) := by
    intro v hv
    unfold sCur
    rw [← hv]
    by_cases c : v = -1
    · rw [if_pos c, if_pos c]
    · rw [if_neg c, if_neg c]
      have hb : 0 ≤ v ∧ v < w 60 := by
        have q1 := sLat_in w h (w 60).toNat 0 (-1) (by omega) (Or.inl rfl)
        have q2 := sLat_in w 24 (w 60).toNat 0 (-1) (by omega) (Or.inl rfl)
        unfold sCurB at hv
        split at hv
        · omega
        · omega
      rw [gd_t (by omega), (hC.2 v hb.1 hb.2).2]
  by_cases c : sLat w h (w 60).toNat 0 (-1) = -1
  · rw [if_pos c, bd_e (c_latest hC hW 24)]
    exact e _ (by unfold sCurB; rw [if_pos c])
  · rw [if_neg c]
    exact e _ (by unfold sCurB; rw [if_neg c])
end
/-! the model's -/
def sSince (w : Int → Int) (h i : Int) : Int := (h - w (101 + 2 * i) + 24).tmod 24
def sCm (w : Int → Int) (h : Int) : Nat → Int → Int → Int
  | 0, _, b => b
  | j + 1, i, b => sCm w h j (i + 1) (if (if b = -1 then 24 else sSince w h b) < sSince w h i then b else i)
theorem sSince_e {w : Int → Int} {h i : Int} (h1 : 0 ≤ h ∧ h ≤ 23) (h2 : 0 ≤ w (101 + 2 * i) ∧ w (101 + 2 * i) ≤ 23) : sSince w h i = if w (101 + 2 * i) ≤ h then h - w (101 + 2 * i) else h - w (101 + 2 * i) + 24 := by
  unfold sSince
  rw [Int.tmod_eq_emod_of_nonneg (by omega)]
  split
  · omega
  · omega
theorem sCm_eq {w : Int → Int} {h : Int} (hW : WC w) (hh : 0 ≤ h ∧ h ≤ 23) : ∀ (j : Nat) (i b1 b2 : Int), 0 ≤ i → i + j = w 60 → (b1 = -1 ∨ (0 ≤ b1 ∧ b1 < i ∧ w (101 + 2 * b1) ≤ h)) → (b2 = -1 ∨ (0 ≤ b2 ∧ b2 < i)) → (b1 = -1 → b2 ≠ -1 → h < w (101 + 2 * b2)) → sCm w h j i (if b1 = -1 then b2 else b1) = if sLat w h j i b1 = -1 then sLat w 24 j i b2 else sLat w h j i b1 := by
  intro j
  induction j with
  | zero =>
    intro i b1 b2 hi hj h1 h2 h3
    rfl
  | succ j ih =>
    intro i b1 b2 hi hj h1 h2 h3
    have gi := (hW.2 i hi (by omega)).1
    have si := sSince_e (w := w) (h := h) (i := i) hh gi
    have e1 : sLat w h (j + 1) i b1 = sLat w h j (i + 1) (if w (101 + 2 * i) ≤ h ∧ (b1 = -1 ∨ w (101 + 2 * b1) ≤ w (101 + 2 * i)) then i else b1) := rfl
    have e2 : sLat w 24 (j + 1) i b2 = sLat w 24 j (i + 1) (if w (101 + 2 * i) ≤ 24 ∧ (b2 = -1 ∨ w (101 + 2 * b2) ≤ w (101 + 2 * i)) then i else b2) := rfl
    have e3 : ∀ b : Int, sCm w h (j + 1) i b = sCm w h j (i + 1) (if (if b = -1 then 24 else sSince w h b) < sSince w h i then b else i) := fun _ => rfl
    rw [e1, e2, e3]
    generalize hn1 : (if w (101 + 2 * i) ≤ h ∧ (b1 = -1 ∨ w (101 + 2 * b1) ≤ w (101 + 2 * i)) then i else b1) = n1
    generalize hn2 : (if w (101 + 2 * i) ≤ 24 ∧ (b2 = -1 ∨ w (101 + 2 * b2) ≤ w (101 + 2 * i)) then i else b2) = n2
    generalize hz : (if (if (if b1 = -1 then b2 else b1) = -1 then 24 else sSince w h (if b1 = -1 then b2 else b1)) < sSince w h i then (if b1 = -1 then b2 else b1) else i) = z
    suffices hq : z = (if n1 = -1 then n2 else n1) ∧ (n1 = -1 ∨ (0 ≤ n1 ∧ n1 < i + 1 ∧ w (101 + 2 * n1) ≤ h)) ∧ (n2 = -1 ∨ (0 ≤ n2 ∧ n2 < i + 1)) ∧ (n1 = -1 → n2 ≠ -1 → h < w (101 + 2 * n2)) by
      rw [hq.1]
      exact ih (i + 1) n1 n2 (by omega) (by omega) hq.2.1 hq.2.2.1 hq.2.2.2
    have q2 : n2 = -1 ∨ (0 ≤ n2 ∧ n2 < i + 1) := by
      rw [← hn2]
      split
      · right; omega
      · rcases h2 with h2 | h2
        · left; exact h2
        · right; omega
    by_cases c1 : b1 = -1
    · rw [if_pos c1] at hz
      by_cases c2 : b2 = -1
      · rw [if_pos c2, si] at hz
        rw [if_pos ⟨by omega, Or.inl c2⟩] at hn2
        have z1 : z = i := by
          rw [← hz]
          split
          · rw [if_neg (by omega)]
          · rw [if_neg (by omega)]
        by_cases c3 : w (101 + 2 * i) ≤ h
        · rw [if_pos ⟨c3, Or.inl c1⟩] at hn1
          subst hn1
          rw [if_neg (by omega)]
          exact ⟨z1, Or.inr (by omega), q2, fun q => by omega⟩
        · rw [if_neg (fun q => c3 q.1)] at hn1
          subst hn1
          rw [if_pos c1]
          subst hn2
          exact ⟨z1, Or.inl c1, q2, fun _ _ => by omega⟩
      · have hb2 : 0 ≤ b2 ∧ b2 < i := h2.resolve_left c2
        have g2 := (hW.2 b2 hb2.1 (by omega)).1
        have s2 := sSince_e (w := w) (h := h) (i := b2) hh g2
        have hlt := h3 c1 c2
        rw [if_neg (by omega)] at s2
        rw [if_neg c2, s2, si] at hz
        by_cases c3 : w (101 + 2 * i) ≤ h
        · rw [if_pos c3] at hz
          rw [if_neg (by omega)] at hz
          rw [if_pos ⟨c3, Or.inl c1⟩] at hn1
          subst hn1
          rw [if_neg (by omega)]
          exact ⟨hz.symm, Or.inr (by omega), q2, fun q => by omega⟩
        · rw [if_neg c3] at hz
          rw [if_neg (fun q => c3 q.1)] at hn1
          subst hn1
          rw [if_pos c1]
          by_cases c4 : w (101 + 2 * b2) ≤ w (101 + 2 * i)
          · rw [if_neg (by omega)] at hz
            rw [if_pos ⟨by omega, Or.inr c4⟩] at hn2
            subst hn2
            exact ⟨hz.symm, Or.inl c1, q2, fun _ _ => by omega⟩
          · rw [if_pos (by omega)] at hz
            rw [if_neg (fun q => q.2.elim c2 c4)] at hn2
            subst hn2
            exact ⟨hz.symm, Or.inl c1, q2, fun _ _ => hlt⟩
    · have hb1 : 0 ≤ b1 ∧ b1 < i ∧ w (101 + 2 * b1) ≤ h := h1.resolve_left c1
      have g1 := (hW.2 b1 hb1.1 (by omega)).1
      have s1 := sSince_e (w := w) (h := h) (i := b1) hh g1
      rw [if_pos hb1.2.2] at s1
      rw [if_neg c1, if_neg c1, s1, si] at hz
      by_cases c3 : w (101 + 2 * i) ≤ h
      · rw [if_pos c3] at hz
        by_cases c4 : w (101 + 2 * b1) ≤ w (101 + 2 * i)
        · rw [if_neg (by omega)] at hz
          rw [if_pos ⟨c3, Or.inr c4⟩] at hn1
          subst hn1
          rw [if_neg (by omega)]
          exact ⟨hz.symm, Or.inr (by omega), q2, fun q => by omega⟩
        · rw [if_pos (by omega)] at hz
          rw [if_neg (fun q => q.2.elim c1 c4)] at hn1
          subst hn1
          rw [if_neg c1]
          exact ⟨hz.symm, Or.inr (by omega), q2, fun q => absurd q c1⟩
      · rw [if_neg c3] at hz
        rw [if_pos (by omega)] at hz
        rw [if_neg (fun q => c3 q.1)] at hn1
        subst hn1
        rw [if_neg c1]
        exact ⟨hz.symm, Or.inr (by omega), q2, fun q => absurd q c1⟩
section
variable {t : Mem}
theorem m_cur {h : Int} {k : Int → Res} (hW : WC (t 1)) (hh : 0 ≤ h ∧ h ≤ 23) : ∀ (j n : Nat) (i b : Int), j < n → 0 ≤ i → i + j = t 1 60 → (b = -1 ∨ (0 ≤ b ∧ b < i)) → f_X12_currentAt_4 0 h k t n b i = k (sCm (t 1) h j i b) := by
  intro j
  induction j with
  | zero =>
    intro n i b hn hi hj hb
    cases n with
    | zero => exact absurd hn (Nat.not_lt_zero _)
    | succ n =>
      rw [f_X12_currentAt_4, gd_t (by decide), Nat.zero_add, if_neg (by omega)]
      rfl
  | succ j ih =>
    intro n i b hn hi hj hb
    have h16 := hW.1
    cases n with
    | zero => exact absurd hn (Nat.not_lt_zero _)
    | succ n =>
      have gi := (hW.2 i hi (by omega)).1
      have W0 : wr (2 * i) = 2 * i := wr_n (by omega)
      have W1 : wr (101 + 2 * i) = 101 + 2 * i := wr_n (by omega)
      have W2 : wr (h - t 1 (101 + 2 * i)) = h - t 1 (101 + 2 * i) := wr_n (by omega)
      have W3 : wr (h - t 1 (101 + 2 * i) + 24) = h - t 1 (101 + 2 * i) + 24 := wr_n (by omega)
      have W4 : wr (i + 1) = i + 1 := wr_n (by omega)
      have hs : sCm (t 1) h (j + 1) i b = sCm (t 1) h j (i + 1) (if (if b = -1 then 24 else sSince (t 1) h b) < sSince (t 1) h i then b else i) := rfl
      rw [f_X12_currentAt_4, gd_t (by decide), Nat.zero_add, if_pos (by omega), W0, W1, gd_t (by omega), gd_t (by decide), lts_s, jn_s, W2, W3, W4, hs]
      have hx : (h - t 1 (101 + 2 * i) + 24).tmod 24 = sSince (t 1) h i := rfl
      rw [hx]
      have fin : ∀ y : Int, y = (if b = -1 then 24 else sSince (t 1) h b) → (jn (fun y10 : Int => f_X12_currentAt_4 0 h k t n y10 (i + 1)) fun j79 => if y < sSince (t 1) h i then j79 b else j79 i) = k (sCm (t 1) h j (i + 1) (if (if b = -1 then 24 else sSince (t 1) h b) < sSince (t 1) h i then b else i)) := by
        intro y hy
        rw [jn_s, ← hy]
        by_cases c : y < sSince (t 1) h i
        · rw [if_pos c, if_pos c]
          exact ih n (i + 1) b (by omega) (by omega) (by omega) (by omega)
        · rw [if_neg c, if_neg c]
          exact ih n (i + 1) i (by omega) (by omega) (by omega) (by omega)
      by_cases c1 : b = -1
      · rw [if_pos c1]
        exact fin 24 (by rw [if_pos c1])
      · have hb2 : 0 ≤ b ∧ b < i := hb.resolve_left c1
        have gb := (hW.2 b hb2.1 (by omega)).1
        rw [if_neg c1, wr_n (x := 2 * b) (by omega), wr_n (x := 101 + 2 * b) (by omega), gd_t (by omega), gd_t (by decide), wr_n (x := h - t 1 (101 + 2 * b)) (by omega), wr_n (x := h - t 1 (101 + 2 * b) + 24) (by omega)]
        exact fin ((h - t 1 (101 + 2 * b) + 24).tmod 24) (by rw [if_neg c1]; rfl)
theorem m_currentAt (hW : WC (t 1)) {h : Int} (hh : 0 ≤ h ∧ h ≤ 23) : f_X12_currentAt 0 h t = some (sCur (t 1) h, t) := by
  have h16 := hW.1
  unfold f_X12_currentAt
  rw [jn_s, m_cur hW hh (t 1 60).toNat FU 0 (-1) (fu_lt (by omega)) (by omega) (by omega) (Or.inl rfl)]
  have e := sCm_eq hW hh (t 1 60).toNat 0 (-1) (-1) (by omega) (by omega) (Or.inl rfl) (Or.inl rfl) (fun _ q => absurd rfl q)
  rw [if_pos rfl] at e
  rw [e]
  have e2 : (if sLat (t 1) h (t 1 60).toNat 0 (-1) = -1 then sLat (t 1) 24 (t 1 60).toNat 0 (-1) else sLat (t 1) h (t 1 60).toNat 0 (-1)) = sCurB (t 1) h := rfl
  rw [e2]
  unfold sCur
  by_cases c : sCurB (t 1) h = -1
  · rw [if_pos c, if_pos c]
  · have hb : 0 ≤ sCurB (t 1) h ∧ sCurB (t 1) h < t 1 60 := by
      have q1 := sLat_in (t 1) h (t 1 60).toNat 0 (-1) (by omega) (Or.inl rfl)
      have q2 := sLat_in (t 1) 24 (t 1 60).toNat 0 (-1) (by omega) (Or.inl rfl)
      unfold sCurB at c ⊢
      split at c
      · rename_i c2
        rw [if_pos c2]
        omega
      · rename_i c2
        rw [if_neg c2]
        omega
    rw [if_neg c, if_neg c, Nat.zero_add, wr_n (x := 2 * sCurB (t 1) h) (by omega), wr_n (x := 101 + 2 * sCurB (t 1) h) (by omega), wr_n (x := 101 + 2 * sCurB (t 1) h + 1) (by omega), gd_t (by omega)]
end

/-! ===== L3: what THE LAW tells of a BOAT, on both sides ===== -/
def sShot (w : Int → Int) (lw : List Lin) (b : Int) : Int := mmx 0 (mmn 99 (sTell (sFx w b) 20 (wr (w (85 + w (7 + b)) - wr (2 * w 1))) lw))
def sStick (w : Int → Int) (lw : List Lin) (b : Int) : Int := mmx 0 (mmn 100 (sTell (sFx w b) 21 (wr (40 + w (65 + b))) lw))
def sList (w : Int → Int) (lw : List Lin) (b : Int) : Int := mmx 1 (mmn 999 (sTell (sFx w b) 22 (wr (10 * w (65 + b))) lw))
def sFade (w : Int → Int) (lw : List Lin) : Int := mmx 0 (mmn 99 (sTell (sFx w (-1)) 23 5 lw))
theorem no_B (w : Int → Int) : ¬ hasB w (-1) := fun h => absurd h.1 (by decide)
section
variable {t : Mem} {lw : List Lin}
theorem m_lays0 {k : Mem → Res} {Q : Int → Mem → Prop} (h : ∀ t1 : Mem, (∀ i : Int, 0 ≤ i → i < 11 → t1 10 i = 0) → (∀ a : Nat, a ≠ 10 → t1 a = t a) → wp (k t1) Q) : wp (f_X12_laysNight_2 0 k FU 0 t) Q := by
  refine wp_loop (F := fun n (a : Int × Mem) => f_X12_laysNight_2 0 k n a.1 a.2) (fun j a => a.1 + j = 11 ∧ 0 ≤ a.1 ∧ (∀ i : Int, 0 ≤ i → i < a.1 → a.2 10 i = 0) ∧ ∀ c : Nat, c ≠ 10 → a.2 c = t c) (fun n j a hP ih => ?_) FU 11 (0, t) (fu_lt (by decide)) ⟨rfl, Int.le_refl 0, fun i h1 h2 => absurd h2 (by omega), fun _ _ => rfl⟩
  obtain ⟨x, s⟩ := a
  obtain ⟨h1, h2, h3, h4⟩ := hP
  replace h1 : x + (j : Int) = 11 := h1
  replace h2 : 0 ≤ x := h2
  show wp (f_X12_laysNight_2 0 k (n + 1) x s) Q
  rw [f_X12_laysNight_2]
  refine wp_i (fun hx => wp_g (by omega) ?_) (fun hx => ?_)
  · rw [wr_n (by omega)]
    refine ih (j - 1) (x + 1, mup s 10 x 0) (by omega) ⟨by show x + 1 + ((j - 1 : Nat) : Int) = 11; omega, by show 0 ≤ x + 1; omega, fun i g1 g2 => ?_, fun c hc => by show mup s 10 x 0 c = t c; rw [mup_o hc]; exact h4 c hc⟩
    show mup s 10 x 0 10 i = 0
    replace g2 : i < x + 1 := g2
    by_cases e : i = x
    · rw [mup_e rfl e]
    · rw [mup_n (Or.inr e)]
      exact h3 i g1 (by show i < x; omega)
  · have : x = 11 := by omega
    exact h s (fun i g1 g2 => h3 i g1 (by show i < x; omega)) h4
theorem e_laysNight (t : Mem) : ∃ f : Int → Int, f_X12_laysNight 0 t = some (0, sr t 10 f) ∧ ∀ k : Int, 1 ≤ k → k ≤ 10 → f k = sFx (t 1) (-1) k := by
  have h : wp (f_X12_laysNight 0 t) (fun r s => r = 0 ∧ ∃ f : Int → Int, s = sr t 10 f ∧ ∀ k : Int, 1 ≤ k → k ≤ 10 → f k = sFx (t 1) (-1) k) := by
    unfold f_X12_laysNight
    rw [jn_s]
    refine m_lays0 (t := t) (fun t1 hz ho => ?_)
    have e0 : t1 = sr t 10 (t1 10) := sr_of ho
    generalize t1 10 = g at e0 hz
    subst e0
    refine wp_g (by decide) (wp_g (by decide) (wp_g (by decide) (wp_g (by decide) (wp_g (by decide) (wp_g (by decide) (wp_g (by decide) (wp_g (by decide) (wp_g (by decide) ?_))))))))
    refine wp_s ⟨rfl, up (up (up (up g 1 (t 1 1)) 2 (t 1 2)) 3 (t 1 3)) 8 ((t 1 0).tmod 24), ?_, fun k h1 h2 => ?_⟩
    · show mup (mup (mup (mup (sr t 10 g) 10 1 (t 1 1)) 10 2 (t 1 2)) 10 3 (t 1 3)) 10 8 ((t 1 0).tmod 24) = _
      rw [mup_sr, mup_sr, mup_sr, mup_sr]
    · unfold sFx
      by_cases k8 : k = 8
      · rw [up_eq k8, if_neg (by omega), if_neg (by omega), if_neg (by omega), if_pos k8]
      · rw [up_ne k8]
        by_cases k3 : k = 3
        · rw [up_eq k3, if_neg (by omega), if_neg (by omega), if_pos k3]
        · rw [up_ne k3]
          by_cases k2 : k = 2
          · rw [up_eq k2, if_neg (by omega), if_pos k2]
          · rw [up_ne k2]
            by_cases k1 : k = 1
            · rw [up_eq k1, if_pos k1]
            · rw [up_ne k1, if_neg k1, if_neg k2, if_neg k3, if_neg k8, if_neg (no_B _)]
              exact hz k (by omega) (by omega)
  obtain ⟨r, s, h1, h2, f, h3, h4⟩ := h
  subst h2
  subst h3
  exact ⟨f, h1, h4⟩
theorem e_laysBoat {b : Int} (hw : WN (t 1)) (hb : hasB (t 1) b) : ∃ f : Int → Int, f_X12_laysBoat 0 b t = some (0, sr t 10 f) ∧ ∀ k : Int, 1 ≤ k → k ≤ 10 → f k = sFx (t 1) b k := by
  obtain ⟨f, e1, hf⟩ := e_laysNight t
  have h58 := hw.boats
  have hb2 : 0 ≤ b ∧ b < 10 := by have h' : 0 ≤ b ∧ b < t 1 58 := hb; omega
  have hr := hw.reach hb2
  have E7 : wr (7 + b) = 7 + b := wr_n (by omega)
  have E65 : wr (65 + b) = 65 + b := wr_n (by omega)
  have E75 : wr (75 + b) = 75 + b := wr_n (by omega)
  have E85 : wr (85 + t 1 (7 + b)) = 85 + t 1 (7 + b) := wr_n (by omega)
  have es : ∀ g : Int → Int, f_X12_stuckIn 0 b (sr t 10 g) = some (sStk (t 1) b, sr t 10 g) := fun g => e_mStuckIn (t := sr t 10 g) hw hb2
  have el : ∀ g : Int → Int, f_X12_leanOf 0 b (sr t 10 g) = some (sLean (t 1) b, sr t 10 g) := fun g => e_leanOf (t := sr t 10 g) hw hb2
  have e1r : ∀ g : Int → Int, sr t 10 g 1 = t 1 := fun g => sr_o (by decide)
  refine ⟨up (up (up (up (up (up f 4 (t 1 (85 + t 1 (7 + b)))) 5 (t 1 (65 + b))) 6 (t 1 (75 + b))) 7 (t 1 (7 + b))) 9 (sStk (t 1) b)) 10 (sLean (t 1) b), ?_, fun k h1 h2 => ?_⟩
  · unfold f_X12_laysBoat
    rw [bd_e e1]
    simp only [Nat.zero_add, e1r, E7, E65, E75, E85, lm_s, mup_sr]
    rw [gd_t (by omega), gd_t (by omega), gd_t (by omega), gd_t (by omega), gd_t (by omega), gd_t (by omega), gd_t (by omega), gd_t (by omega), gd_t (by omega), bd_e (es _), gd_t (by omega)]
    rw [mup_sr, bd_e (el _), gd_t (by omega), mup_sr]
  · unfold sFx
    by_cases k10 : k = 10
    · rw [up_eq k10, if_neg (by omega), if_neg (by omega), if_neg (by omega), if_neg (by omega), if_pos hb, if_neg (by omega), if_neg (by omega), if_neg (by omega), if_neg (by omega), if_neg (by omega), if_pos k10]
    · rw [up_ne k10]
      by_cases k9 : k = 9
      · rw [up_eq k9, if_neg (by omega), if_neg (by omega), if_neg (by omega), if_neg (by omega), if_pos hb, if_neg (by omega), if_neg (by omega), if_neg (by omega), if_neg (by omega), if_pos k9]
      · rw [up_ne k9]
        by_cases k7 : k = 7
        · rw [up_eq k7, if_neg (by omega), if_neg (by omega), if_neg (by omega), if_neg (by omega), if_pos hb, if_neg (by omega), if_neg (by omega), if_neg (by omega), if_pos k7]
        · rw [up_ne k7]
          by_cases k6 : k = 6
          · rw [up_eq k6, if_neg (by omega), if_neg (by omega), if_neg (by omega), if_neg (by omega), if_pos hb, if_neg (by omega), if_neg (by omega), if_pos k6]
          · rw [up_ne k6]
            by_cases k5 : k = 5
            · rw [up_eq k5, if_neg (by omega), if_neg (by omega), if_neg (by omega), if_neg (by omega), if_pos hb, if_neg (by omega), if_pos k5]
            · rw [up_ne k5]
              by_cases k4 : k = 4
              · rw [up_eq k4, if_neg (by omega), if_neg (by omega), if_neg (by omega), if_neg (by omega), if_pos hb, if_pos k4]
              · rw [up_ne k4, hf k h1 h2]
                unfold sFx
                rw [if_neg (no_B _)]
                by_cases k1 : k = 1
                · rw [if_pos k1, if_pos k1]
                · rw [if_neg k1, if_neg k1]
                  by_cases k2 : k = 2
                  · rw [if_pos k2, if_pos k2]
                  · rw [if_neg k2, if_neg k2]
                    by_cases k3 : k = 3
                    · rw [if_pos k3, if_pos k3]
                    · rw [if_neg k3, if_neg k3, if_pos (by omega), if_pos (by omega)]
theorem e_shotAt {b : Int} (hw : WN (t 1)) (hM : LawM (t 1) lw) (hO : OkW lw) (hb : hasB (t 1) b) : ∃ t1 : Mem, f_X12_shotAt 0 b t = some (sShot (t 1) lw b, t1) ∧ ∀ a : Nat, a ≠ 9 → a ≠ 10 → t1 a = t a := by
  obtain ⟨f, e1, hf⟩ := e_laysBoat hw hb
  have f4 : f 4 = t 1 (85 + t 1 (7 + b)) := by
    rw [hf 4 (by decide) (by decide)]
    unfold sFx
    rw [if_neg (by decide), if_neg (by decide), if_neg (by decide), if_neg (by decide), if_pos hb, if_pos rfl]
  obtain ⟨t1, e2, ho⟩ := e_says (fx := sFx (t 1) b) (t := sr t 10 f) (lw := lw) (wd := 20) (d := wr (t 1 (85 + t 1 (7 + b)) - wr (2 * t 1 1))) (lo := 0) (hi := 99) hM hO hf
  refine ⟨t1, ?_, fun a h9 h10 => (ho a h9).trans (sr_o h10)⟩
  unfold f_X12_shotAt
  rw [bd_e e1, gd_t (by decide), gd_t (by decide), Nat.zero_add, Nat.zero_add, sr_e, sr_o (by decide), f4, bd_e e2]
  rfl
theorem e_mStick {b : Int} (hw : WN (t 1)) (hM : LawM (t 1) lw) (hO : OkW lw) (hb : hasB (t 1) b) : ∃ t1 : Mem, f_X12_stickIn 0 b t = some (sStick (t 1) lw b, t1) ∧ ∀ a : Nat, a ≠ 9 → a ≠ 10 → t1 a = t a := by
  obtain ⟨f, e1, hf⟩ := e_laysBoat hw hb
  have h58 := hw.boats
  have hb2 : 0 ≤ b ∧ b < 10 := by have h' : 0 ≤ b ∧ b < t 1 58 := hb; omega
  obtain ⟨t1, e2, ho⟩ := e_says (fx := sFx (t 1) b) (t := sr t 10 f) (lw := lw) (wd := 21) (d := wr (40 + t 1 (65 + b))) (lo := 0) (hi := 100) hM hO hf
  refine ⟨t1, ?_, fun a h9 h10 => (ho a h9).trans (sr_o h10)⟩
  unfold f_X12_stickIn
  rw [bd_e e1, wr_n (x := 65 + b) (by omega), gd_t (by omega), Nat.zero_add, sr_o (by decide), bd_e e2]
  rfl
theorem e_listOf {b : Int} (hw : WN (t 1)) (hM : LawM (t 1) lw) (hO : OkW lw) (hb : hasB (t 1) b) : ∃ t1 : Mem, f_X12_listOf 0 b t = some (sList (t 1) lw b, t1) ∧ ∀ a : Nat, a ≠ 9 → a ≠ 10 → t1 a = t a := by
  obtain ⟨f, e1, hf⟩ := e_laysBoat hw hb
  have h58 := hw.boats
  have hb2 : 0 ≤ b ∧ b < 10 := by have h' : 0 ≤ b ∧ b < t 1 58 := hb; omega
  obtain ⟨t1, e2, ho⟩ := e_says (fx := sFx (t 1) b) (t := sr t 10 f) (lw := lw) (wd := 22) (d := wr (10 * t 1 (65 + b))) (lo := 1) (hi := 999) hM hO hf
  refine ⟨t1, ?_, fun a h9 h10 => (ho a h9).trans (sr_o h10)⟩
  unfold f_X12_listOf
  rw [bd_e e1, wr_n (x := 65 + b) (by omega), gd_t (by omega), Nat.zero_add, sr_o (by decide), bd_e e2]
  rfl
theorem e_fadeNow (hM : LawM (t 1) lw) (hO : OkW lw) : ∃ t1 : Mem, f_X12_fadeNow 0 t = some (sFade (t 1) lw, t1) ∧ ∀ a : Nat, a ≠ 9 → a ≠ 10 → t1 a = t a := by
  obtain ⟨f, e1, hf⟩ := e_laysNight t
  obtain ⟨t1, e2, ho⟩ := e_says (fx := sFx (t 1) (-1)) (t := sr t 10 f) (lw := lw) (wd := 23) (d := 5) (lo := 0) (hi := 99) hM hO hf
  refine ⟨t1, ?_, fun a h9 h10 => (ho a h9).trans (sr_o h10)⟩
  unfold f_X12_fadeNow
  rw [bd_e e1, bd_e e2]
  rfl
end

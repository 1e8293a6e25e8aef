/-! ===== L3: a BOAT is shot at ===== -/
def sCome (w : Int → Int) (lw : List Lin) (b : Int) : Int := if w (75 + b) = 2 then 0 else wr ((wr (sShot w lw b * sStick w lw b)).tdiv 100)
def sSide (w : Int → Int) (b : Int) : Int := if w (37 + b) = 1 then 17 + b else 27 + b
def sMore (w : Int → Int) (lw : List Lin) (b : Int) : Int := mmn 999 (w (sSide w b) + sCome w lw b) - w (sSide w b)
def sW1 (w : Int → Int) (lw : List Lin) (b : Int) : Int → Int := up w (sSide w b) (w (sSide w b) + sMore w lw b)
def sW2 (real : Int) (w : Int → Int) (lw : List Lin) (b : Int) : Int → Int := if 0 < sMore w lw b then sNote real (sW1 w lw b) 0 b (sMore w lw b) else sW1 w lw b
def sW3 (real : Int) (w : Int → Int) (lw : List Lin) (b : Int) : Int → Int := up (sW2 real w lw b) 3 (mmn 99 (sW2 real w lw b 3 + sW2 real w lw b 2))
def sDrew (w : Int → Int) : Int := wr (wr (1664525 * w 5) + 1013904223)
def sDrawn (w : Int → Int) (m : Int) : Int := (iushr (sDrew w) 8).tmod m
def sFire (real : Int) (w : Int → Int) (b : Int) : Int → Int :=
  if real = 0 then w else if 0 < w 57 then (if w 3 < 50 then w else if sDrawn w 1000 < w 57 then sLose real (up w 5 (sDrew w)) b 2 else up w 5 (sDrew w)) else w
def sW4 (real : Int) (w : Int → Int) (lw : List Lin) (b : Int) : Int → Int := if sList (sW3 real w lw b) lw b < sLean (sW3 real w lw b) b then sLose real (sW3 real w lw b) b 1 else sFire real (sW3 real w lw b) b
theorem mm_in {lo hi v : Int} (h : lo ≤ hi) : lo ≤ mmx lo (mmn hi v) ∧ mmx lo (mmn hi v) ≤ hi := by
  unfold mmx mmn
  repeat' split
  all_goals omega
theorem mul_in {a b : Int} (ha : 0 ≤ a ∧ a ≤ 99) (hb : 0 ≤ b ∧ b ≤ 100) : 0 ≤ a * b ∧ a * b ≤ 9900 := by
  refine ⟨Int.mul_nonneg ha.1 hb.1, ?_⟩
  have h := Int.mul_le_mul ha.2 hb.2 hb.1 (by decide)
  exact h
theorem sCome_in (w : Int → Int) (lw : List Lin) (b : Int) : 0 ≤ sCome w lw b ∧ sCome w lw b ≤ 99 := by
  unfold sCome
  split
  · omega
  · have h := mul_in (a := sShot w lw b) (b := sStick w lw b) (mm_in (by decide)) (mm_in (by decide))
    rw [wr_n (x := sShot w lw b * sStick w lw b) (by omega), Int.tdiv_eq_ediv_of_nonneg h.1, wr_n (by omega)]
    omega
theorem sSide_v {w : Int → Int} (hw : WN w) {b : Int} (hb : 0 ≤ b ∧ b < 10) : 0 ≤ w (sSide w b) ∧ w (sSide w b) ≤ 999 := by
  unfold sSide
  split
  · exact hw.left hb
  · exact hw.right hb
theorem sMore_in {w : Int → Int} (hw : WN w) (lw : List Lin) {b : Int} (hb : 0 ≤ b ∧ b < 10) : 0 ≤ sMore w lw b ∧ sMore w lw b ≤ 99 ∧ w (sSide w b) + sMore w lw b ≤ 999 := by
  have h1 := sCome_in w lw b
  have h2 := sSide_v hw hb
  unfold sMore mmn
  split
  · omega
  · omega
theorem WN_w1 {w : Int → Int} (hw : WN w) (lw : List Lin) {b : Int} (hb : 0 ≤ b ∧ b < 10) : WN (sW1 w lw b) := by
  have h1 := sMore_in hw lw hb
  have h2 := sSide_v hw hb
  unfold sW1
  unfold sSide at h1 h2 ⊢
  by_cases h : w (37 + b) = 1
  · rw [if_pos h] at h1 h2 ⊢
    exact hw.u_left hb (by omega)
  · rw [if_neg h] at h1 h2 ⊢
    exact hw.u_right hb (by omega)
theorem sSide_in (w : Int → Int) {b : Int} (hb : 0 ≤ b ∧ b < 10) : 17 ≤ sSide w b ∧ sSide w b < 37 := by
  unfold sSide
  split
  · omega
  · omega
theorem WN_w2 {real : Int} {w : Int → Int} (hw : WN w) (lw : List Lin) {b : Int} (hb : 0 ≤ b ∧ b < 10) : WN (sW2 real w lw b) := by
  unfold sW2
  split
  · exact WN_note (WN_w1 hw lw hb)
  · exact WN_w1 hw lw hb
theorem WN_w3 {real : Int} {w : Int → Int} (hw : WN w) (lw : List Lin) {b : Int} (hb : 0 ≤ b ∧ b < 10) : WN (sW3 real w lw b) := by
  have h := WN_w2 (real := real) hw lw hb
  have h1 := h.alarm
  have h2 := h.drums
  refine h.u_alarm ?_
  unfold mmn
  split
  · omega
  · omega
theorem WN_fire {real : Int} {w : Int → Int} (hw : WN w) {b : Int} (hb : 0 ≤ b ∧ b < 10) : WN (sFire real w b) := by
  have h := hw.u_draws (v := sDrew w) (inr_wr _)
  unfold sFire
  repeat' split
  · exact hw
  · exact hw
  · exact WN_lose h hb (by decide)
  · exact h
  · exact hw
theorem WN_w4 {real : Int} {w : Int → Int} (hw : WN w) (lw : List Lin) {b : Int} (hb : 0 ≤ b ∧ b < 10) : WN (sW4 real w lw b) := by
  unfold sW4
  split
  · exact WN_lose (WN_w3 hw lw hb) hb (by decide)
  · exact WN_fire (WN_w3 hw lw hb) hb
theorem St_w1 {real : Int} {w0 w : Int → Int} (h : St real w0 w) (lw : List Lin) {b : Int} (hb : 0 ≤ b ∧ b < 10) : St real w0 (sW1 w lw b) := h.up (by have := sSide_in w hb; omega)
theorem St_w2 {real : Int} {w0 w : Int → Int} (h : St real w0 w) (hw : WN w) (lw : List Lin) {b : Int} (hb : 0 ≤ b ∧ b < 10) : St real w0 (sW2 real w lw b) := by
  unfold sW2
  split
  · exact St_note (St_w1 h lw hb) (WN_w1 hw lw hb)
  · exact St_w1 h lw hb
theorem St_w3 {real : Int} {w0 w : Int → Int} (h : St real w0 w) (hw : WN w) (lw : List Lin) {b : Int} (hb : 0 ≤ b ∧ b < 10) : St real w0 (sW3 real w lw b) := (St_w2 h hw lw hb).up (by decide)
theorem St_w4 {real : Int} {w0 w : Int → Int} (h : St real w0 w) (hw : WN w) (lw : List Lin) {b : Int} (hb : 0 ≤ b ∧ b < 10) : St real w0 (sW4 real w lw b) := by
  have h3 := St_w3 h hw lw hb
  have hw3 := WN_w3 (real := real) hw lw hb
  have hd := h3.up (i := 5) (v := sDrew (sW3 real w lw b)) (by decide)
  have hwd := hw3.u_draws (v := sDrew (sW3 real w lw b)) (inr_wr _)
  unfold sW4
  split
  · exact St_lose h3 hw3 hb (by decide)
  · unfold sFire
    repeat' split
    · exact h3
    · exact h3
    · exact St_lose hd hwd hb (by decide)
    · exact hd
    · exact h3
/-! what THE LAW is read from stays -/
theorem StM_hi {f g : Int → Int} (q : ∀ i : Int, 848 ≤ i → g i = f i) : ∀ (L : List Sg) (p : Int), 0 ≤ p → StM f p L → StM g p L
  | [], _, _, _ => trivial
  | c :: L, p, h1, h => ⟨by rw [q _ (by omega)]; exact h.1, by rw [q _ (by omega)]; exact h.2.1, StM_hi q L (p + 1) (by omega) h.2.2⟩
theorem LwM_hi {f g : Int → Int} (q : ∀ i : Int, 848 ≤ i → g i = f i) : ∀ (r : List Lin) (i p : Int), 0 ≤ i → 0 ≤ p → LwM f i p r → LwM g i p r
  | [], _, _, _, _, _ => trivial
  | l :: r, i, p, hi, hp, h => by
    obtain ⟨g1, g2, g3, g4, g5, g6, g7⟩ := h
    exact ⟨by rw [q _ (by omega)]; exact g1, by rw [q _ (by omega)]; exact g2, by rw [q _ (by omega)]; exact g3, by rw [q _ (by omega)]; exact g4, StM_hi q _ _ hp g5, StM_hi q _ _ (by omega) g6, LwM_hi q r (i + 1) _ (by omega) (by omega) g7⟩
theorem LawM.st {real : Int} {w w' : Int → Int} {lw : List Lin} (h : LawM w lw) (hs : St real w w') : LawM w' lw := ⟨by rw [hs 59 (by decide) (Or.inr (Or.inl (by decide)))]; exact h.1, LwM_hi (fun i hi => hs i (by omega) (Or.inr (Or.inr hi))) lw 0 0 (by decide) (by decide) h.2⟩
theorem LawC.of {s s' : Mem} {lw : List Lin} (h : LawC s 12 lw) (q : ∀ a : Nat, 12 ≤ a → a ≤ 16 → s' a = s a) : LawC s' 12 lw := by
  unfold LawC at h ⊢
  rw [q 12 (by decide) (by decide), q (12 + 1) (by decide) (by decide), q (12 + 2) (by decide) (by decide), q (12 + 3) (by decide) (by decide), q (12 + 4) (by decide) (by decide)]
  exact h
/-! the model's -/
theorem m_draw {t : Mem} (hw : WN (t 1)) {m : Int} (hm : m ≠ 0) : f_X12_draw 0 m t = some (sDrawn (t 1) m, sr t 1 (up (t 1) 5 (sDrew (t 1)))) := by
  unfold f_X12_draw
  rw [gd_t (by decide), gd_t (by decide), lm_s, gd_t (by decide), gd_t hm, Nat.zero_add, mup_row, up_eq rfl, mup_to_sr]
  rfl
theorem m_isShot {t : Mem} {lw : List Lin} {b : Int} (hw : WN (t 1)) (hM : LawM (t 1) lw) (hO : OkW lw) (hb : hasB (t 1) b) : ∃ t1 : Mem, f_X12_isShot 0 b t = some (sMore (t 1) lw b, t1) ∧ t1 1 = sW4 (t 0 26) (t 1) lw b ∧ ∀ a : Nat, a ≠ 1 → a ≠ 9 → a ≠ 10 → t1 a = t a := by
  have h58 := hw.boats
  have hb2 : 0 ≤ b ∧ b < 10 := by have h' : 0 ≤ b ∧ b < t 1 58 := hb; omega
  have W37 : wr (37 + b) = 37 + b := wr_n (by omega)
  have W75 : wr (75 + b) = 75 + b := wr_n (by omega)
  have hm := sMore_in hw lw hb2
  have hside := sSide_v hw hb2
  have hsin := sSide_in (t 1) hb2
  have hcome := sCome_in (t 1) lw b
  obtain ⟨ta, ea, oa⟩ := e_shotAt hw hM hO hb
  have ta1 : ta 1 = t 1 := oa 1 (by decide) (by decide)
  suffices h : wp (f_X12_isShot 0 b t) (fun r s => r = sMore (t 1) lw b ∧ s 1 = sW4 (t 0 26) (t 1) lw b ∧ ∀ a : Nat, a ≠ 1 → a ≠ 9 → a ≠ 10 → s a = t a) by
    obtain ⟨r, s, h1, h2, h3, h4⟩ := h
    exact ⟨s, by rw [h1, h2], h3, h4⟩
  unfold f_X12_isShot
  rw [bd_e ea, W37, W75, Nat.zero_add]
  refine wp_g (by omega) ?_
  -- the join behind 'comes'
  refine wp_j (fun (J : Int → Mem → Res) => ∀ s5 : Mem, (∀ a : Nat, a ≠ 9 → a ≠ 10 → s5 a = t a) → wp (J (sCome (t 1) lw b) s5) (fun r s => r = sMore (t 1) lw b ∧ s 1 = sW4 (t 0 26) (t 1) lw b ∧ ∀ a : Nat, a ≠ 1 → a ≠ 9 → a ≠ 10 → s a = t a)) ?_ ?_
  · intro s5 o5
    have s51 : s5 1 = t 1 := o5 1 (by decide) (by decide)
    have s50 : s5 0 = t 0 := o5 0 (by decide) (by decide)
    try dsimp only
    refine wp_g (by omega) ?_
    refine wp_j (fun (J : Int → Res) => wp (J (sSide (t 1) b - b)) (fun r s => r = sMore (t 1) lw b ∧ s 1 = sW4 (t 0 26) (t 1) lw b ∧ ∀ a : Nat, a ≠ 1 → a ≠ 9 → a ≠ 10 → s a = t a)) ?_ ?_
    · have e1 : wr (sSide (t 1) b - b + b) = sSide (t 1) b := by
        rw [wr_n (by omega)]
        omega
      try dsimp only
      rw [e1, s51]
      have e2 : wr (t 1 (sSide (t 1) b) + sCome (t 1) lw b) = t 1 (sSide (t 1) b) + sCome (t 1) lw b := wr_n (by omega)
      refine wp_g (by omega) (wp_be (e_lesser _ _ _) ?_)
      rw [e2, s51]
      have e3 : mmn 999 (t 1 (sSide (t 1) b) + sCome (t 1) lw b) - t 1 (sSide (t 1) b) = sMore (t 1) lw b := rfl
      rw [e3, wr_n (x := sMore (t 1) lw b) (by omega), wr_n (x := t 1 (sSide (t 1) b) + sMore (t 1) lw b) (by omega)]
      refine wp_g (by omega) (wp_g (by omega) (wp_g (by omega) ?_))
      rw [lm_s, mup_to_sr s5 1, s51]
      -- the join behind THE BOOK's line
      refine wp_j (fun (J : Mem → Res) => ∀ s9 : Mem, s9 1 = sW2 (t 0 26) (t 1) lw b → (∀ a : Nat, a ≠ 1 → a ≠ 9 → a ≠ 10 → s9 a = t a) → wp (J s9) (fun r s => r = sMore (t 1) lw b ∧ s 1 = sW4 (t 0 26) (t 1) lw b ∧ ∀ a : Nat, a ≠ 1 → a ≠ 9 → a ≠ 10 → s a = t a)) ?_ ?_
      · intro s9 h9 o9
        have hw2 := WN_w2 (real := t 0 26) hw lw hb2
        have ha := hw2.alarm
        have hd := hw2.drums
        try dsimp only
        refine wp_g (by decide) (wp_g (by decide) (wp_be (e_lesser _ _ _) ?_))
        rw [h9, wr_n (by omega)]
        refine wp_g (by decide) ?_
        rw [lm_s, mup_to_sr s9 1, h9]
        have hw3 := WN_w3 (real := t 0 26) hw lw hb2
        have hw3' : WN (sr s9 1 (sW3 (t 0 26) (t 1) lw b) 1) := by rw [sr_e]; exact hw3
        have h3 : St (t 0 26) (t 1) (sW3 (t 0 26) (t 1) lw b) := St_w3 (St.rf _ _) hw lw hb2
        have hb3 : hasB (sW3 (t 0 26) (t 1) lw b) b := by
          unfold hasB
          rw [h3 58 (by decide) (Or.inr (Or.inl (by decide)))]
          exact hb
        show wp (bd (f_X12_leanOf 0 b (sr s9 1 (sW3 (t 0 26) (t 1) lw b))) _) _
        refine wp_be (e_leanOf hw3' hb2) ?_
        rw [sr_e]
        obtain ⟨tl, el, ol⟩ := e_listOf (t := sr s9 1 (sW3 (t 0 26) (t 1) lw b)) (lw := lw) (b := b) hw3' (by rw [sr_e]; exact hM.st h3) hO (by rw [sr_e]; exact hb3)
        rw [sr_e] at el
        refine wp_be el ?_
        have tl1 : tl 1 = sW3 (t 0 26) (t 1) lw b := (ol 1 (by decide) (by decide)).trans (sr_e _ _ _)
        have otl : ∀ a : Nat, a ≠ 1 → a ≠ 9 → a ≠ 10 → tl a = t a := fun a g1 g2 g3 => ((ol a g2 g3).trans (sr_o g1)).trans (o9 a g1 g2 g3)
        have tl0 : tl 0 = t 0 := otl 0 (by decide) (by decide) (by decide)
        have hwl : WN (tl 1) := by rw [tl1]; exact hw3
        refine wp_i (fun c1 => ?_) (fun c1 => ?_)
        · refine wp_be (m_goesDown hwl hb2 (Or.inl rfl)) (wp_s ⟨rfl, ?_, fun a g1 g2 g3 => (sr_o g1).trans (otl a g1 g2 g3)⟩)
          rw [sr_e, tl0, tl1]
          unfold sW4
          rw [if_pos c1]
        · have e4 : sW4 (t 0 26) (t 1) lw b = sFire (t 0 26) (sW3 (t 0 26) (t 1) lw b) b := by
            unfold sW4
            rw [if_neg c1]
          rw [e4]
          unfold sFire
          rw [tl0, tl1]
          refine wp_i (fun c2 => ?_) (fun c2 => ?_)
          · rw [if_pos c2]
            exact wp_s ⟨rfl, tl1, otl⟩
          · rw [if_neg c2]
            refine wp_g (by decide) (wp_i (fun c3 => ?_) (fun c3 => ?_))
            · rw [if_pos c3]
              refine wp_g (by decide) (wp_i (fun c5 => ?_) (fun c5 => ?_))
              · rw [if_pos c5]
                exact wp_s ⟨rfl, tl1, otl⟩
              · rw [if_neg c5]
                refine wp_be (m_draw hwl (by decide)) (wp_g (by decide) ?_)
                have e57 : sr tl 1 (up (tl 1) 5 (sDrew (tl 1))) (0 + 1) 57 = sW3 (t 0 26) (t 1) lw b 57 := by
                  show sr tl 1 (up (tl 1) 5 (sDrew (tl 1))) 1 57 = _
                  rw [sr_e, up_ne (by decide), tl1]
                rw [Nat.zero_add] at e57
                rw [e57, tl1]
                refine wp_i (fun c6 => ?_) (fun c6 => ?_)
                · rw [if_pos c6]
                  refine wp_be (m_goesDown (t := sr tl 1 (up (sW3 (t 0 26) (t 1) lw b) 5 (sDrew (sW3 (t 0 26) (t 1) lw b)))) (by rw [sr_e]; exact hw3.u_draws (inr_wr _)) hb2 (Or.inr rfl)) (wp_s ⟨rfl, ?_, fun a g1 g2 g3 => ((sr_o g1).trans (sr_o g1)).trans (otl a g1 g2 g3)⟩)
                  rw [sr_e, sr_e, sr_o (by decide), tl0]
                · rw [if_neg c6]
                  exact wp_s ⟨rfl, sr_e _ _ _, fun a g1 g2 g3 => (sr_o g1).trans (otl a g1 g2 g3)⟩
            · rw [if_neg c3]
              exact wp_s ⟨rfl, tl1, otl⟩
      · intro J hJ
        have hw1 := WN_w1 hw lw hb2
        have e1s : up (t 1) (sSide (t 1) b) (t 1 (sSide (t 1) b) + sMore (t 1) lw b) = sW1 (t 1) lw b := rfl
        rw [e1s]
        have o1 : ∀ f : Int → Int, ∀ a : Nat, a ≠ 1 → a ≠ 9 → a ≠ 10 → sr s5 1 f a = t a := fun f a g1 g2 g3 => (sr_o g1).trans (o5 a g2 g3)
        refine wp_i (fun c1 => ?_) (fun c1 => ?_)
        · refine wp_be (m_notes (t := sr s5 1 (sW1 (t 1) lw b)) (by rw [sr_e]; exact hw1) 0 b (sMore (t 1) lw b)) ?_
          rw [sr_sr, sr_e, sr_o (by decide), s50]
          refine hJ _ ?_ (o1 _)
          rw [sr_e]
          unfold sW2
          rw [if_pos c1]
        · refine hJ _ ?_ (o1 _)
          rw [sr_e]
          unfold sW2
          rw [if_neg c1]
    · intro J hJ
      rw [s51]
      unfold sSide at hJ
      refine wp_i (fun c1 => ?_) (fun c1 => ?_)
      · rw [if_pos c1] at hJ
        have e : 17 + b - b = 17 := by omega
        rw [e] at hJ
        exact hJ
      · rw [if_neg c1] at hJ
        have e : 27 + b - b = 27 := by omega
        rw [e] at hJ
        exact hJ
  · intro J hJ
    rw [ta1]
    unfold sCome at hJ
    refine wp_i (fun c1 => ?_) (fun c1 => ?_)
    · rw [if_pos c1] at hJ
      exact hJ ta oa
    · rw [if_neg c1] at hJ
      obtain ⟨tb, eb, ob⟩ := e_mStick (t := ta) (lw := lw) (b := b) (by rw [ta1]; exact hw) (by rw [ta1]; exact hM) hO (by rw [ta1]; exact hb)
      rw [ta1] at eb
      refine wp_be eb (wp_g (by decide) ?_)
      exact hJ tb (fun a g1 g2 => (ob a g1 g2).trans (oa a g1 g2))

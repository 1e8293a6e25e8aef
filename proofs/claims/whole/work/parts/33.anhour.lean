/-! ===== L3: an HOUR, in the model ===== -/
def MB (t0 t : Mem) (w0 w : Int → Int) : Prop := t 1 = w ∧ (∀ a : Nat, a ≠ 1 → a ≠ 9 → a ≠ 10 → t a = t0 a) ∧ WN w ∧ St (t0 0 26) w0 w
section
variable {t0 : Mem} {w0 : Int → Int} {lw : List Lin}
theorem m_plans {k : Mem → Res} {Q : Int → Mem → Prop} (hP : WPl w0) : ∀ (j fu : Nat) (i : Int) (t : Mem) (w : Int → Int), j < fu → 0 ≤ i → i + j = w0 61 → MB t0 t w0 w → (∀ t' : Mem, MB t0 t' w0 (sPlans (t0 0 26) j i w) → wp (k t') Q) → wp (f_X12_anHour_2 0 k fu i t) Q := by
  intro j
  induction j with
  | zero =>
    intro fu i t w hfu hi hj h hk
    have h61 : w 61 = w0 61 := h.2.2.2.c61 61 (Or.inl rfl)
    cases fu with
    | zero => exact absurd hfu (Nat.not_lt_zero _)
    | succ fu =>
      rw [f_X12_anHour_2, gd_t (by decide), Nat.zero_add, h.1, if_neg (by omega)]
      exact hk t h
  | succ j ih =>
    intro fu i t w hfu hi hj h hk
    have h16 := hP.1
    have h61 : w 61 = w0 61 := h.2.2.2.c61 61 (Or.inl rfl)
    have hP' : WPl w := hP.of h.2.2.2.c61
    obtain ⟨g1, g2, g3⟩ := hP'.2 i hi (by omega)
    have h26 : t 0 26 = t0 0 26 := by rw [h.2.1 0 (by decide) (by decide) (by decide)]
    cases fu with
    | zero => exact absurd hfu (Nat.not_lt_zero _)
    | succ fu =>
      rw [f_X12_anHour_2, gd_t (by decide), Nat.zero_add, h.1, if_pos (by omega), wr_n (x := 4 * i) (by omega), wr_n (x := 133 + 4 * i) (by omega), gd_t (by omega), gd_t (by decide), jn_s, wr_n (x := i + 1) (by omega)]
      have hs : sPlans (t0 0 26) (j + 1) i w = sPlans (t0 0 26) j (i + 1) (if w (133 + 4 * i) = w 0 then sDo (t0 0 26) w (133 + 4 * i) else w) := rfl
      rw [hs] at hk
      by_cases c : w (133 + 4 * i) = w 0
      · rw [if_pos c] at hk ⊢
        have hd := m_does (t := t) (l := 133 + 4 * i) (by rw [h.1]; exact h.2.2.1) (by omega) (by rw [h.1]; exact g1) (by rw [h.1]; exact g3)
        rw [h.1, h26] at hd
        rw [bd_e hd]
        exact ih fu (i + 1) _ _ (by omega) (by omega) (by omega) ⟨sr_e _ _ _, fun a a1 a2 a3 => (sr_o a1).trans (h.2.1 a a1 a2 a3), WN_do h.2.2.1 g2 (fun q1 q2 q3 => g3 (by omega)), St_do h.2.2.2 h.2.2.1 (fun q1 q2 q3 => g3 (by omega))⟩ hk
      · rw [if_neg c] at hk ⊢
        exact ih fu (i + 1) t w (by omega) (by omega) (by omega) h hk
theorem m_drift_l {k : Mem → Res} {Q : Int → Mem → Prop} {v : Int} (hv : -5 ≤ v ∧ v ≤ 5) (h58 : 0 ≤ w0 58 ∧ w0 58 ≤ 10) : ∀ (j fu : Nat) (b : Int) (t : Mem) (w : Int → Int), j < fu → 0 ≤ b → b + j = w0 58 → MB t0 t w0 w → (∀ t' : Mem, MB t0 t' w0 (sDrifts v j b w) → wp (k t') Q) → wp (f_X12_anHour_67 0 v k fu b t) Q := by
  intro j
  induction j with
  | zero =>
    intro fu b t w hfu hi hj h hk
    have hw58 : w 58 = w0 58 := h.2.2.2 58 (by decide) (Or.inr (Or.inl (by decide)))
    cases fu with
    | zero => exact absurd hfu (Nat.not_lt_zero _)
    | succ fu =>
      rw [f_X12_anHour_67, gd_t (by decide), Nat.zero_add, h.1, if_neg (by omega)]
      exact hk t h
  | succ j ih =>
    intro fu b t w hfu hi hj h hk
    have hw58 : w 58 = w0 58 := h.2.2.2 58 (by decide) (Or.inr (Or.inl (by decide)))
    cases fu with
    | zero => exact absurd hfu (Nat.not_lt_zero _)
    | succ fu =>
      have ea := e_isAfloat (t := t) (by rw [h.1]; exact h.2.2.1) b
      rw [h.1] at ea
      rw [f_X12_anHour_67, gd_t (by decide), Nat.zero_add, h.1, if_pos (by omega), bd_e ea, jn_s, bI_z, wr_n (x := b + 1) (by omega), h.1]
      have hs : sDrifts v (j + 1) b w = sDrifts v j (b + 1) (if afl w b then up w (7 + b) (mmx 0 (mmn 15 (wr (w (7 + b) + v)))) else w) := rfl
      rw [hs] at hk
      by_cases c : afl w b
      · have hb : 0 ≤ b ∧ b < 10 := by omega
        rw [if_pos c] at hk ⊢
        rw [wr_n (x := 7 + b) (by omega), gd_t (by omega), bd_e (e_held _ _ _ _), gd_t (by omega), lm_s, mup_to_sr t 1, h.1]
        exact ih fu (b + 1) _ _ (by omega) (by omega) (by omega) ⟨sr_e _ _ _, fun a a1 a2 a3 => (sr_o a1).trans (h.2.1 a a1 a2 a3), h.2.2.1.u_reach hb (mm_in (by decide)), h.2.2.2.up (by omega)⟩ hk
      · rw [if_neg c] at hk ⊢
        exact ih fu (b + 1) t w (by omega) (by omega) (by omega) h hk
theorem m_shots {k : Int → Mem → Res} {Q : Int → Mem → Prop} (hL : LawM w0 lw) (hO : OkW lw) (h58 : 0 ≤ w0 58 ∧ w0 58 ≤ 10) : ∀ (j fu : Nat) (b m : Int) (t : Mem) (w : Int → Int), j < fu → 0 ≤ b → b + j = w0 58 → InR m → MB t0 t w0 w → (∀ t' : Mem, MB t0 t' w0 (sShots (t0 0 26) lw j b m w).2 → wp (k (sShots (t0 0 26) lw j b m w).1 t') Q) → wp (f_X12_anHour_122 0 k fu m b t) Q := by
  intro j
  induction j with
  | zero =>
    intro fu b m t w hfu hi hj hm h hk
    have hw58 : w 58 = w0 58 := h.2.2.2 58 (by decide) (Or.inr (Or.inl (by decide)))
    cases fu with
    | zero => exact absurd hfu (Nat.not_lt_zero _)
    | succ fu =>
      rw [f_X12_anHour_122, gd_t (by decide), Nat.zero_add, h.1, if_neg (by omega)]
      exact hk t h
  | succ j ih =>
    intro fu b m t w hfu hi hj hm h hk
    have hw58 : w 58 = w0 58 := h.2.2.2 58 (by decide) (Or.inr (Or.inl (by decide)))
    have h26 : t 0 26 = t0 0 26 := by rw [h.2.1 0 (by decide) (by decide) (by decide)]
    cases fu with
    | zero => exact absurd hfu (Nat.not_lt_zero _)
    | succ fu =>
      have ea := e_isAfloat (t := t) (by rw [h.1]; exact h.2.2.1) b
      rw [h.1] at ea
      rw [f_X12_anHour_122, gd_t (by decide), Nat.zero_add, h.1, if_pos (by omega), bd_e ea, jn_s, bI_z, wr_n (x := b + 1) (by omega)]
      have hs : sShots (t0 0 26) lw (j + 1) b m w = if afl w b then sShots (t0 0 26) lw j (b + 1) (wr (m + sMore w lw b)) (sW4 (t0 0 26) w lw b) else sShots (t0 0 26) lw j (b + 1) m w := rfl
      rw [hs] at hk
      by_cases c : afl w b
      · have hb : 0 ≤ b ∧ b < 10 := by omega
        rw [if_pos c] at hk ⊢
        obtain ⟨t1, a1, a2, a3⟩ := m_isShot (t := t) (lw := lw) (b := b) (by rw [h.1]; exact h.2.2.1) (by rw [h.1]; exact hL.st h.2.2.2) hO (by rw [h.1]; exact c.1)
        rw [h.1, h26] at a2
        rw [h.1] at a1
        rw [bd_e a1]
        exact ih fu (b + 1) _ t1 _ (by omega) (by omega) (by omega) (inr_wr _) ⟨a2, fun a g1 g2 g3 => (a3 a g1 g2 g3).trans (h.2.1 a g1 g2 g3), WN_w4 h.2.2.1 lw hb, St_w4 h.2.2.2 h.2.2.1 lw hb⟩ hk
      · rw [if_neg c] at hk ⊢
        show wp (f_X12_anHour_122 0 k fu (wr (m + 0)) (b + 1) t) Q
        rw [Int.add_zero, wr_id hm]
        exact ih fu (b + 1) m t w (by omega) (by omega) (by omega) hm h hk
theorem tmod24 {x : Int} (h : 0 ≤ x) : 0 ≤ x.tmod 24 ∧ x.tmod 24 ≤ 23 := by
  rw [Int.tmod_eq_emod_of_nonneg h]
  omega
theorem iushr8 (x : Int) : 0 ≤ iushr x 8 ∧ iushr x 8 < 16777216 := by
  have h8 : ((Int32.ofInt 8).toUInt32 &&& Int32.toUInt32 31) = 8 := by decide
  unfold iushr
  rw [h8]
  generalize (Int32.ofInt x).toUInt32 = u
  have h1 : (u >>> 8).toNat < 16777216 := by
    rw [UInt32.toNat_shiftRight]
    have h3 := u.toNat_lt
    have h4 : (8 : UInt32).toNat % 32 = 8 := by decide
    rw [h4, Nat.shiftRight_eq_div_pow]
    omega
  have h2 : ((u >>> 8).toInt32).toInt = ((u >>> 8).toNat : Int) := by
    show (u >>> 8).toBitVec.toInt = ((u >>> 8).toBitVec.toNat : Int)
    have h5 : (u >>> 8).toBitVec.toNat < 16777216 := h1
    rw [BitVec.toInt_eq_toNat_cond, if_pos (by omega)]
  omega
theorem sDrawn_4 (w : Int → Int) : 0 ≤ sDrawn w 4 ∧ sDrawn w 4 ≤ 3 := by
  have h := iushr8 (sDrew w)
  unfold sDrawn
  rw [Int.tmod_eq_emod_of_nonneg h.1]
  omega
theorem m_pass {t : Mem} {w : Int → Int} (ht : t 1 = w) (hw : WN w) (hL : LawM w lw) (hC : WC w) (hP : WPl w) (hO : OkW lw) (h0 : w 0 ≤ 19999) :
    ∃ t1 : Mem, f_X12_anHour 0 t = some ((sShot2 (t 0 26) w lw).1, t1) ∧ t1 1 = sHour (t 0 26) w lw ∧ ∀ a : Nat, a ≠ 1 → a ≠ 9 → a ≠ 10 → t1 a = t a := by
  have h58 := hw.boats
  have h61 := hP.1
  suffices hx : wp (f_X12_anHour 0 t) (fun r t1 => r = (sShot2 (t 0 26) w lw).1 ∧ t1 1 = sHour (t 0 26) w lw ∧ ∀ a : Nat, a ≠ 1 → a ≠ 9 → a ≠ 10 → t1 a = t a) by
    obtain ⟨r, t1, a1, a2, a3⟩ := hx
    exact ⟨t1, by rw [a1, a2], a3⟩
  have fin : ∀ (t4 : Mem) (w4 : Int → Int) (m : Int), MB t t4 w w4 → m = (sShot2 (t 0 26) w lw).1 → w4 = (if t 0 26 = 0 then (sShot2 (t 0 26) w lw).2 else sFogs (sShot2 (t 0 26) w lw).2) →
      wp (gd ((0 : Int) ≤ 3 ∧ (3 : Int) < 1732) (bd (f_X12_fadeNow 0 t4) fun r13 s14 => bd (f_X12_greater 0 (wr ((t4 (0 + 1) 3) - r13)) s14) fun r15 s16 => gd ((0 : Int) ≤ 3 ∧ (3 : Int) < 1732) (lm (mup s16 (0 + 1) 3 r15) fun s18 => gd ((0 : Int) ≤ 0 ∧ (0 : Int) < 1732) (gd ((0 : Int) ≤ 0 ∧ (0 : Int) < 1732) (lm (mup s18 (0 + 1) 0 (wr ((s18 (0 + 1) 0) + 1))) fun s21 => some (m, s21)))))) (fun r t1 => r = (sShot2 (t 0 26) w lw).1 ∧ t1 1 = sHour (t 0 26) w lw ∧ ∀ a : Nat, a ≠ 1 → a ≠ 9 → a ≠ 10 → t1 a = t a) := by
    intro t4 w4 m h4 hm hw4
    obtain ⟨t5, a1, o5⟩ := e_fadeNow (t := t4) (lw := lw) (by rw [h4.1]; exact hL.st h4.2.2.2) hO
    rw [h4.1] at a1
    have ha := h4.2.2.1.alarm
    have hh := h4.2.2.1.hour
    have hf := sFade_in w4 lw
    have e51 : t5 1 = w4 := (o5 1 (by decide) (by decide)).trans h4.1
    refine wp_g (by decide) (wp_be a1 ?_)
    rw [Nat.zero_add, h4.1, wr_n (by omega)]
    refine wp_be (e_greater _ _ _) (wp_g (by decide) ?_)
    rw [lm_s, mup_to_sr t5 1, e51, lm_s, sr_e, mup_sr, up_ne (by decide), wr_n (by omega)]
    refine wp_g (by decide) (wp_g (by decide) (wp_s ⟨hm, ?_, fun a g1 g2 g3 => (sr_o g1).trans ((o5 a g2 g3).trans (h4.2.1 a g1 g2 g3))⟩))
    rw [sr_e]
    unfold sHour
    rw [← hw4]
    rfl
  unfold f_X12_anHour
  rw [jn_s]
  refine m_plans hP (w 61).toNat FU 0 t w (fu_lt (by omega)) (by omega) (by omega) ⟨ht, fun _ _ _ _ => rfl, hw, St.rf _ w⟩ (fun t1 hb => ?_)
  have eb : sPlans (t 0 26) (w 61).toNat 0 w = sBeg (t 0 26) w := rfl
  rw [eb] at hb
  refine wp_g (by decide) (wp_g (by decide) ?_)
  have hC1 : WC (sBeg (t 0 26) w) := hC.of hb.2.2.2.c60
  have hh1 := tmod24 hb.2.2.1.hour.1
  have ec := m_currentAt (t := t1) (by rw [hb.1]; exact hC1) hh1
  rw [Nat.zero_add, hb.1]
  rw [hb.1] at ec
  refine wp_be ec ?_
  rw [jn_s]
  refine m_drift_l (sCur_in hC1 _) (by omega) (w 58).toNat FU 0 t1 (sBeg (t 0 26) w) (fu_lt (by omega)) (by omega) (by omega) hb (fun t2 hb2 => ?_)
  have em : sDrifts (sCur (sBeg (t 0 26) w) ((sBeg (t 0 26) w 0).tmod 24)) (w 58).toNat 0 (sBeg (t 0 26) w) = sMid (t 0 26) w := rfl
  rw [em] at hb2
  rw [jn_s]
  refine m_shots hL hO (by omega) (w 58).toNat FU 0 0 t2 (sMid (t 0 26) w) (fu_lt (by omega)) (by omega) (by omega) inr_0 hb2 (fun t3 hb3 => ?_)
  have es : sShots (t 0 26) lw (w 58).toNat 0 0 (sMid (t 0 26) w) = sShot2 (t 0 26) w lw := rfl
  rw [es] at hb3 ⊢
  have h26 : t3 0 26 = t 0 26 := by rw [hb3.2.1 0 (by decide) (by decide) (by decide)]
  simp only [jn_s, h26]
  refine wp_i (fun c => ?_) (fun c => ?_)
  · first | rw [if_neg (by decide)] | skip
    exact fin t3 (sShot2 (t 0 26) w lw).2 (sShot2 (t 0 26) w lw).1 hb3 rfl (by rw [if_pos c])
  · have hd := m_draw (t := t3) (m := 4) (by rw [hb3.1]; exact hb3.2.2.1) (by decide)
    rw [hb3.1] at hd
    have h4 := sDrawn_4 (sShot2 (t 0 26) w lw).2
    have hfog := hb3.2.2.1.fog
    have hf4 : sFogs (sShot2 (t 0 26) w lw).2 = if sDrawn (sShot2 (t 0 26) w lw).2 4 < 2 then up (up (sShot2 (t 0 26) w lw).2 5 (sDrew (sShot2 (t 0 26) w lw).2)) 1 (mmx 0 (mmn 9 (wr ((sShot2 (t 0 26) w lw).2 1 + (if sDrawn (sShot2 (t 0 26) w lw).2 4 = 0 then -1 else 1))))) else up (sShot2 (t 0 26) w lw).2 5 (sDrew (sShot2 (t 0 26) w lw).2) := by
      unfold sFogs
      by_cases c0 : sDrawn (sShot2 (t 0 26) w lw).2 4 = 0
      · rw [if_pos c0, if_pos (by omega), if_pos c0, wr_n (by omega)]
        congr 1
        unfold mmx mmn
        repeat' split
        all_goals omega
      · rw [if_neg c0]
        by_cases c1 : sDrawn (sShot2 (t 0 26) w lw).2 4 = 1
        · rw [if_pos c1, if_pos (by omega), if_neg c0, wr_n (by omega)]
          congr 1
          unfold mmx mmn
          repeat' split
          all_goals omega
        · rw [if_neg c1, if_neg (by omega)]
    have key : ∀ t4 : Mem, MB t t4 w (sFogs (sShot2 (t 0 26) w lw).2) → wp (gd ((0 : Int) ≤ 3 ∧ (3 : Int) < 1732) (bd (f_X12_fadeNow 0 t4) fun r13 s14 => bd (f_X12_greater 0 (wr ((t4 (0 + 1) 3) - r13)) s14) fun r15 s16 => gd ((0 : Int) ≤ 3 ∧ (3 : Int) < 1732) (lm (mup s16 (0 + 1) 3 r15) fun s18 => gd ((0 : Int) ≤ 0 ∧ (0 : Int) < 1732) (gd ((0 : Int) ≤ 0 ∧ (0 : Int) < 1732) (lm (mup s18 (0 + 1) 0 (wr ((s18 (0 + 1) 0) + 1))) fun s21 => some ((sShot2 (t 0 26) w lw).1, s21)))))) (fun r t1 => r = (sShot2 (t 0 26) w lw).1 ∧ t1 1 = sHour (t 0 26) w lw ∧ ∀ a : Nat, a ≠ 1 → a ≠ 9 → a ≠ 10 → t1 a = t a) := fun t4 h => fin t4 _ _ h rfl (by rw [if_neg c])
    rw [bd_e hd]
    have mb : ∀ f : Int → Int, f = sFogs (sShot2 (t 0 26) w lw).2 → MB t (sr t3 1 f) w (sFogs (sShot2 (t 0 26) w lw).2) := by
      intro f hf
      exact ⟨(sr_e _ _ _).trans hf, fun a g1 g2 g3 => (sr_o g1).trans (hb3.2.1 a g1 g2 g3), WN_fogs hb3.2.2.1, St_fogs hb3.2.2.2⟩
    refine wp_i (fun c2 => ?_) (fun c2 => ?_)
    · rw [if_pos c2] at hf4
      refine wp_g (by decide) ?_
      have hx : ∀ y : Int, y = (if sDrawn (sShot2 (t 0 26) w lw).2 4 = 0 then -1 else 1) → wp (bd (f_X12_held (wr ((sr t3 1 (up (sShot2 (t 0 26) w lw).2 5 (sDrew (sShot2 (t 0 26) w lw).2)) (0 + 1) 1) + y)) 0 9 (sr t3 1 (up (sShot2 (t 0 26) w lw).2 5 (sDrew (sShot2 (t 0 26) w lw).2)))) fun r25 s26 => gd ((0 : Int) ≤ 1 ∧ (1 : Int) < 1732) (lm (mup s26 (0 + 1) 1 r25) fun s28 => gd ((0 : Int) ≤ 3 ∧ (3 : Int) < 1732) (bd (f_X12_fadeNow 0 s28) fun r13 s14 => bd (f_X12_greater 0 (wr ((s28 (0 + 1) 3) - r13)) s14) fun r15 s16 => gd ((0 : Int) ≤ 3 ∧ (3 : Int) < 1732) (lm (mup s16 (0 + 1) 3 r15) fun s18 => gd ((0 : Int) ≤ 0 ∧ (0 : Int) < 1732) (gd ((0 : Int) ≤ 0 ∧ (0 : Int) < 1732) (lm (mup s18 (0 + 1) 0 (wr ((s18 (0 + 1) 0) + 1))) fun s21 => some ((sShot2 (t 0 26) w lw).1, s21))))))) (fun r t1 => r = (sShot2 (t 0 26) w lw).1 ∧ t1 1 = sHour (t 0 26) w lw ∧ ∀ a : Nat, a ≠ 1 → a ≠ 9 → a ≠ 10 → t1 a = t a) := by
        intro y hy
        refine wp_be (e_held _ _ _ _) (wp_g (by decide) ?_)
        rw [lm_s]
        refine key _ ?_
        have e1 : (0 + 1 : Nat) = 1 := rfl
        rw [e1, sr_e, mup_sr, up_ne (by decide)]
        refine mb _ ?_
        rw [hf4, hy]
      by_cases c3 : sDrawn (sShot2 (t 0 26) w lw).2 4 = 0
      · rw [if_pos c3]
        exact hx (-1) (by rw [if_pos c3])
      · rw [if_neg c3]
        exact hx 1 (by rw [if_neg c3])
    · rw [if_neg c2] at hf4
      exact key _ (mb _ hf4.symm)
end

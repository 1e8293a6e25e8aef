/-! ===== L3: a BOAT is shot at, in the class ===== -/
section
variable {s : Mem} {n : Nat} {w : Int → Int} {lw : List Lin} {real : Int}
theorem c_stickIn (h : NB real s n w) (hw : WN w) (hn : n = 2 ∨ 137 ≤ n) {b : Int} (hb : 0 ≤ b ∧ b < 10) : ∃ s1 : Mem, f_X4_stickIn n b (sCome w lw b) s = some (sMore w lw b, s1) ∧ NB real s1 n (sW1 w lw b) ∧ FrH s s1 n real := by
  have hm := sMore_in hw lw hb
  have hside := sSide_v hw hb
  have hcome := sCome_in w lw b
  have ht := hw.turned hb
  have em : ∀ y : Int, y = w (sSide w b) → mmn (sCome w lw b) (wr (999 - y)) = sMore w lw b := by
    intro y hy
    rw [wr_n (by omega), hy]
    unfold sMore mmn
    split
    · split
      · omega
      · omega
    · split
      · omega
      · omega
  unfold f_X4_stickIn
  rw [gd_t hb, jn_s, h.1.turned hb]
  by_cases h1 : w (37 + b) = 0
  · have es : sSide w b = 27 + b := by
      unfold sSide
      rw [if_neg (by omega)]
    rw [if_pos h1, gd_t hb, h.1.right hb]
    dsimp only
    rw [if_pos h1, gd_t hb, gd_t hb, lm_s, em _ (by rw [es])]
    have e1 := NB.u h hn (by omega) (h.1.u_right hb (w (27 + b) + sMore w lw b)) (fun k g1 g2 => up_ne (by omega))
    rw [es] at hm hside
    rw [wr_n (by omega)]
    refine ⟨_, rfl, ?_, (FrH.rf s n real).up (by omega)⟩
    unfold sW1
    rw [es]
    exact e1
  · have es : sSide w b = 17 + b := by
      unfold sSide
      rw [if_pos (by omega)]
    rw [if_neg h1, gd_t hb, h.1.left hb]
    dsimp only
    rw [if_neg h1, gd_t hb, gd_t hb, lm_s, em _ (by rw [es])]
    have e1 := NB.u h hn (by omega) (h.1.u_left hb (w (17 + b) + sMore w lw b)) (fun k g1 g2 => up_ne (by omega))
    rw [es] at hm hside
    rw [wr_n (by omega)]
    refine ⟨_, rfl, ?_, (FrH.rf s n real).up (by omega)⟩
    unfold sW1
    rw [es]
    exact e1
theorem sDrew_c (w : Int → Int) : wr (wr (w 5 * 1664525) + 1013904223) = sDrew w := by
  unfold sDrew
  rw [Int.mul_comm]
theorem c_draw (h : NB real s n w) (hn : n = 2 ∨ 137 ≤ n) {m : Int} (hm : 1 ≤ m) : ∃ s1 : Mem, f_X4_draw n m s = some (sDrawn w m, s1) ∧ NB real s1 n (up w 5 (sDrew w)) ∧ FrH s s1 n real := by
  unfold f_X4_draw
  rw [lm_s, if_neg (by omega), gd_t (by omega), h.1.draws, sDrew_c, mup_e rfl rfl]
  exact ⟨_, rfl, NB.u h hn (by omega) (h.1.u_draws (sDrew w)) (fun k g1 g2 => up_ne (by omega)), (FrH.rf s n real).up (by omega)⟩
theorem c_burns (h : NB real s n w) (hn : n = 2 ∨ 137 ≤ n) : ∃ s1 : Mem, f_X4_burns n s = some (bI (0 < w 57 ∧ ¬ w 3 < 50 ∧ sDrawn w 1000 < w 57), s1) ∧ NB real s1 n (if 0 < w 57 ∧ ¬ w 3 < 50 then up w 5 (sDrew w) else w) ∧ FrH s s1 n real := by
  unfold f_X4_burns
  rw [h.1.fire, h.1.alarm]
  by_cases h1 : 0 < w 57
  · rw [if_pos h1]
    by_cases h2 : w 3 < 50
    · rw [if_pos h2, bI_f (fun q => q.2.1 h2), if_neg (fun q => q.2 h2)]
      exact ⟨s, rfl, h, FrH.rf s n real⟩
    · rw [if_neg h2, if_pos ⟨h1, h2⟩]
      obtain ⟨s1, e1, n1, f1⟩ := c_draw (m := 1000) h hn (by decide)
      rw [bd_e e1, n1.1.fire, up_ne (by decide)]
      by_cases h3 : sDrawn w 1000 < w 57
      · rw [if_pos h3, bI_t ⟨h1, h2, h3⟩]
        exact ⟨s1, rfl, n1, f1⟩
      · rw [if_neg h3, bI_f (fun q => h3 q.2.2)]
        exact ⟨s1, rfl, n1, f1⟩
  · rw [if_neg h1, bI_f (fun q => h1 q.1), if_neg (fun q => h1 q.1)]
    exact ⟨s, rfl, h, FrH.rf s n real⟩
theorem LawC.fr {s1 : Mem} (h : LawC s 12 lw) (hn : n = 2 ∨ 137 ≤ n) (f : FrH s s1 n real) : LawC s1 12 lw := h.of (fun a g1 g2 => f a (by omega) (by omega) (by omega) (Or.inr (by omega)))
theorem c_shoot (h : NB real s n w) (hw : WN w) (hn : n = 2 ∨ 137 ≤ n) (hC : LawC s 12 lw) (hO : OkW lw) {b : Int} (hb : hasB w b) : ∃ s1 : Mem, f_X10_shoot 1 n b real s = some (sMore w lw b, s1) ∧ NB real s1 n (sW4 real w lw b) ∧ FrH s s1 n real := by
  have h58 := hw.boats
  have hb2 : 0 ≤ b ∧ b < 10 := by have h' : 0 ≤ b ∧ b < w 58 := hb; omega
  obtain ⟨sa, ea, oa⟩ := e_shot h.1 hw hn hC hO hb
  have na := h.sc hn oa
  have fa : FrH s sa n real := (FrH.rf s n real).sc oa
  obtain ⟨sb, eb, ob⟩ := e_stick na.1 hw hn (hC.fr hn fa) hO hb
  have nb := na.sc hn ob
  have fb : FrH s sb n real := fa.sc ob
  suffices hx : wp (f_X10_shoot 1 n b real s) (fun r s1 => r = sMore w lw b ∧ NB real s1 n (sW4 real w lw b) ∧ FrH s s1 n real) by
    obtain ⟨r, s1, h1, h2, h3, h4⟩ := hx
    exact ⟨s1, by rw [h1, h2], h3, h4⟩
  unfold f_X10_shoot
  have e12 : (1 : Nat) + 11 = 12 := rfl
  rw [e12, bd_e ea, bd_e eb, gd_t hb2]
  refine wp_j (fun (J : Int → Res) => wp (J (sCome w lw b)) (fun r s1 => r = sMore w lw b ∧ NB real s1 n (sW4 real w lw b) ∧ FrH s s1 n real)) ?_ ?_
  · try dsimp only
    obtain ⟨s1, e1, n1, f1⟩ := c_stickIn (lw := lw) nb hw hn hb2
    rw [bd_e e1]
    have f1' := fb.tr f1
    refine wp_j (fun (J : Mem → Res) => ∀ s9 : Mem, NB real s9 n (sW2 real w lw b) → FrH s s9 n real → wp (J s9) (fun r s1 => r = sMore w lw b ∧ NB real s1 n (sW4 real w lw b) ∧ FrH s s1 n real)) ?_ ?_
    · intro s9 n9 f9
      have hw2 := WN_w2 (real := real) hw lw hb2
      have ha := hw2.alarm
      have hd := hw2.drums
      try dsimp only
      rw [lm_s, n9.1.alarm, n9.1.drums, wr_n (by omega)]
      have n3 : NB real (mup s9 n 10 (mmn 99 (sW2 real w lw b 3 + sW2 real w lw b 2))) n (sW3 real w lw b) := NB.u n9 hn (by omega) (n9.1.u_alarm _) (fun k g1 g2 => up_ne (by omega))
      have f3 := f9.up (a := n) (i := 10) (v := mmn 99 (sW2 real w lw b 3 + sW2 real w lw b 2)) (by omega)
      generalize mup s9 n 10 (mmn 99 (sW2 real w lw b 3 + sW2 real w lw b 2)) = s3 at n3 f3
      have hw3 := WN_w3 (real := real) hw lw hb2
      have h3 : St real w (sW3 real w lw b) := St_w3 (St.rf _ _) hw lw hb2
      have hb3 : hasB (sW3 real w lw b) b := by
        unfold hasB
        rw [h3 58 (by decide) (Or.inr (Or.inl (by decide)))]
        exact hb
      rw [bd_e (e_lean n3.1 hw3 hb2)]
      obtain ⟨s4, e4, o4⟩ := e_list n3.1 hw3 hn (hC.fr hn f3) hO hb3
      rw [bd_e e4]
      have n4 := n3.sc hn o4
      have f4 := f3.sc o4
      unfold sW4
      refine wp_i (fun c1 => ?_) (fun c1 => ?_)
      · rw [if_pos c1]
        obtain ⟨s5, e5, n5, f5⟩ := c_lose n4 hw3 hn hb2 (how := 1) (Or.inl rfl)
        rw [bd_e e5]
        exact wp_s ⟨rfl, n5, f4.tr f5⟩
      · rw [if_neg c1]
        unfold sFire
        refine wp_i (fun c2 => ?_) (fun c2 => ?_)
        · rw [if_pos c2]
          exact wp_s ⟨rfl, n4, f4⟩
        · rw [if_neg c2]
          obtain ⟨s5, e5, n5, f5⟩ := c_burns n4 hn
          rw [bd_e e5, bI_z]
          by_cases c3 : 0 < sW3 real w lw b 57
          · rw [if_pos c3]
            by_cases c4 : sW3 real w lw b 3 < 50
            · rw [if_neg (fun q => q.2.1 c4), if_pos c4]
              rw [if_neg (fun q => q.2 c4)] at n5
              exact wp_s ⟨rfl, n5, f4.tr f5⟩
            · rw [if_neg c4]
              rw [if_pos ⟨c3, c4⟩] at n5
              by_cases c6 : sDrawn (sW3 real w lw b) 1000 < sW3 real w lw b 57
              · rw [if_pos ⟨c3, c4, c6⟩, if_pos c6]
                obtain ⟨s6, e6, n6, f6⟩ := c_lose n5 (hw3.u_draws (inr_wr _)) hn hb2 (how := 2) (Or.inr rfl)
                rw [bd_e e6]
                exact wp_s ⟨rfl, n6, (f4.tr f5).tr f6⟩
              · rw [if_neg (fun q => c6 q.2.2), if_neg c6]
                exact wp_s ⟨rfl, n5, f4.tr f5⟩
          · rw [if_neg (fun q => c3 q.1), if_neg c3]
            rw [if_neg (fun q => c3 q.1)] at n5
            exact wp_s ⟨rfl, n5, f4.tr f5⟩
    · intro J hJ
      refine wp_i (fun c1 => ?_) (fun c1 => ?_)
      · obtain ⟨s2, e2, n2, f2⟩ := c_write n1 (WN_w1 hw lw hb2) hn 0 b (sMore w lw b)
        rw [bd_e e2]
        refine hJ s2 ?_ (f1'.tr f2)
        unfold sW2
        rw [if_pos c1]
        exact n2
      · refine hJ s1 ?_ f1'
        unfold sW2
        rw [if_neg c1]
        exact n1
  · intro J hJ
    rw [nb.1.kind hb2]
    unfold sCome at hJ
    refine wp_i (fun c1 => ?_) (fun c1 => ?_)
    · rw [if_pos c1] at hJ
      exact hJ
    · rw [if_neg c1] at hJ
      exact wp_g (by decide) hJ
end

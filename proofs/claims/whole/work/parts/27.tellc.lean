/-! ===== L3: what THE LAW tells, in the class ===== -/
theorem mab_lean {w : Int → Int} (hw : WN w) {b : Int} (hb : 0 ≤ b ∧ b < 10) : mab (wr (w (17 + b) - w (27 + b))) = sLean w b := by
  have h1 := hw.left hb
  have h2 := hw.right hb
  unfold mab sLean
  rw [wr_n (by omega)]
  by_cases h3 : w (17 + b) ≤ w (27 + b)
  · rw [if_pos h3]
    by_cases h4 : 0 ≤ w (17 + b) - w (27 + b)
    · rw [if_pos h4, wr_n (by omega)]
      omega
    · rw [if_neg h4, wr_n (by omega)]
      omega
  · rw [if_neg h3, if_pos (by omega), wr_n (by omega)]
section
variable {s : Mem} {n : Nat} {w : Int → Int}
theorem e_see (h : NR s n w) (hw : WN w) (hn : n = 2 ∨ 137 ≤ n) (b : Int) : ∃ f : Int → Int, f_X2_see 12 n b s = some (0, sr s 17 f) ∧ ∀ k : Int, 0 ≤ k → k < 10 → f k = sFx w b (k + 1) := by
  have h58 := hw.boats
  have hs : ∀ f : Int → Int, NR (sr s 17 f) n w := fun f => h.of (fun a h1 h2 => sr_o (by omega))
  have q11 : ∀ f : Int → Int, sr s 17 f n 11 = w 1 := fun f => (hs f).fog
  have q12 : ∀ f : Int → Int, sr s 17 f n 12 = w 2 := fun f => (hs f).drums
  have q10 : ∀ f : Int → Int, sr s 17 f n 10 = w 3 := fun f => (hs f).alarm
  have q14 : ∀ f : Int → Int, sr s 17 f n 14 = w 0 := fun f => (hs f).hour
  by_cases hb : hasB w b
  · have hb2 : 0 ≤ b ∧ b < 10 := by have h' : 0 ≤ b ∧ b < w 58 := hb; omega
    have hr := hw.reach hb2
    have q3 : ∀ f : Int → Int, sr s 17 f (n + 3) b = w (7 + b) := fun f => (hs f).reach hb2
    have q1 : ∀ f : Int → Int, sr s 17 f (n + 1) b = w (65 + b) := fun f => (hs f).straw hb2
    have q2 : ∀ f : Int → Int, sr s 17 f (n + 2) b = w (75 + b) := fun f => (hs f).kind hb2
    have q8 : ∀ f : Int → Int, sr s 17 f (n + 8) (w (7 + b)) = w (85 + w (7 + b)) := fun f => (hs f).archers (by omega)
    have qs : ∀ f : Int → Int, f_X4_stuckIn n b (sr s 17 f) = some (sStk w b, sr s 17 f) := fun f => e_stuckIn (hs f) hw hb2
    have ql : ∀ f : Int → Int, f_X4_lean n b (sr s 17 f) = some (sLean w b, sr s 17 f) := fun f => e_lean (hs f) hw hb2
    refine ⟨up (up (up (up (up (up (up (up (up (up (s 17) 0 (w 1)) 1 (w 2)) 2 (w 3)) 7 ((w 0).tmod 24)) 3 (w (85 + w (7 + b)))) 4 (w (65 + b))) 5 (w (75 + b))) 6 (w (7 + b))) 8 (sStk w b)) 9 (sLean w b), ?_, fun k h1 h2 => ?_⟩
    · unfold f_X2_see
      rw [bd_e (e_has h b), bI_t hb]
      have z1 : ¬ ((1 : Int) = 0) := by decide
      rw [gd_t (by decide), lm_s, gd_t (by decide), lm_s, gd_t (by decide), lm_s, gd_t (by decide), gd_t (by decide), lm_s]
      simp only [if_neg z1, jn_s, lm_s, Nat.reduceAdd]
      rw [h.fog, mup_to_sr s 17, q12, mup_sr, q10, mup_sr, q14, mup_sr]
      rw [gd_t hb2, q3, bd_e (e_within _ _ _ _), bI_z, if_pos (by omega), gd_t (by omega), q8]
      rw [gd_t (by decide), mup_sr, gd_t hb2, q1, gd_t (by decide), mup_sr, gd_t hb2, q2, gd_t (by decide), mup_sr, gd_t (by decide), mup_sr, bd_e (qs _), gd_t (by decide), mup_sr, bd_e (ql _), gd_t (by decide), mup_sr]
    · unfold sFx
      rcases (show k = 0 ∨ k = 1 ∨ k = 2 ∨ k = 3 ∨ k = 4 ∨ k = 5 ∨ k = 6 ∨ k = 7 ∨ k = 8 ∨ k = 9 by omega) with rfl | rfl | rfl | rfl | rfl | rfl | rfl | rfl | rfl | rfl
      all_goals simp [up, hb]
  · refine ⟨up (up (up (up (up (up (up (up (up (up (s 17) 0 (w 1)) 1 (w 2)) 2 (w 3)) 7 ((w 0).tmod 24)) 3 0) 4 0) 5 0) 6 0) 8 0) 9 0, ?_, fun k h1 h2 => ?_⟩
    · unfold f_X2_see
      rw [bd_e (e_has h b), bI_f hb]
      rw [gd_t (by decide), lm_s, gd_t (by decide), lm_s, gd_t (by decide), lm_s, gd_t (by decide), gd_t (by decide), lm_s]
      simp only [jn_s, lm_s, Nat.reduceAdd, if_true]
      rw [h.fog, mup_to_sr s 17, q12, mup_sr, q10, mup_sr, q14, mup_sr]
      rw [gd_t (by decide), mup_sr, gd_t (by decide), mup_sr, gd_t (by decide), mup_sr, gd_t (by decide), mup_sr, gd_t (by decide), mup_sr, gd_t (by decide), mup_sr]
    · unfold sFx
      rcases (show k = 0 ∨ k = 1 ∨ k = 2 ∨ k = 3 ∨ k = 4 ∨ k = 5 ∨ k = 6 ∨ k = 7 ∨ k = 8 ∨ k = 9 by omega) with rfl | rfl | rfl | rfl | rfl | rfl | rfl | rfl | rfl | rfl
      all_goals simp [up, hb]
end
/-- the row of lines -/
theorem c_tells {fx : Int → Int} {k110 : Int → Mem → Res} {k77 : Int → Int → Mem → Res} {wc p4 : Int} {Q : Int → Mem → Prop} {s0 : Mem} : ∀ (r : List Lin) (n : Nat) (i p : Int) (s : Mem), r.length < n → 0 ≤ i → s0 12 4 = i + r.length → i + r.length ≤ 16 → 0 ≤ p → p + nCo r ≤ 400 → LwC (s0 13) (s0 14) (s0 15) (s0 16) i p r → (∀ l ∈ r, OkL l) → (∀ a : Nat, a ≠ 18 → s a = s0 a) → (∀ k : Int, 0 ≤ k → k < 10 → s0 17 k = fx (k + 1)) →
    (∀ s1 : Mem, (∀ a : Nat, a ≠ 18 → s1 a = s0 a) → (∀ d : Int, sTell fx (wc + 10) d r = d) → wp (k110 p4 s1) Q) →
    (∀ s1 : Mem, (∀ a : Nat, a ≠ 18 → s1 a = s0 a) → ∀ (j q : Int) (E : List Sg), 0 ≤ j → j < 16 → 0 ≤ q → q + (trs E).length ≤ 400 → s0 14 j = q + (trs E).length → LsC (s0 16) q (trs E) → OkE E → (∀ d : Int, sTell fx (wc + 10) d r = (ev fx E []).headD 0) → wp (k77 q j s1) Q) →
    wp (f_X2_tells_19 12 wc p4 k110 k77 n p i s) Q := by
  intro r
  induction r with
  | nil =>
    intro n i p s hn hi hc h16 hp hp2 hL hO ho hf h110 h77
    cases n with
    | zero => exact absurd hn (Nat.not_lt_zero _)
    | succ n =>
      have e : (([] : List Lin).length : Int) = 0 := rfl
      rw [f_X2_tells_19, ho 12 (by decide), if_neg (by omega)]
      exact h110 s ho (fun _ => rfl)
  | cons l r ih =>
    intro n i p s hn hi hc h16 hp hp2 hL hO ho hf h110 h77
    have e : ((l :: r).length : Int) = (r.length : Int) + 1 := by rw [List.length_cons]; omega
    have e2 : ((nCo (l :: r) : Nat) : Int) = (trs l.2.1).length + (trs l.2.2).length + nCo r := by
      show (((trs l.2.1).length + (trs l.2.2).length + nCo r : Nat) : Int) = _
      omega
    cases n with
    | zero => exact absurd hn (Nat.not_lt_zero _)
    | succ n =>
      obtain ⟨g1, g2, g3, g4, g5, g6⟩ := hL
      have hl := hO l List.mem_cons_self
      have E2 : wr (i + 1) = i + 1 := wr_n (by omega)
      have G : 0 ≤ i ∧ i < 16 := by omega
      have hst : ∀ d : Int, sTell fx (wc + 10) d (l :: r) = if l.1 = wc + 10 then (if l.2.2.length = 0 then (ev fx l.2.1 []).headD 0 else if (ev fx l.2.2 []).headD 0 = 1 then (ev fx l.2.1 []).headD 0 else sTell fx (wc + 10) d r) else sTell fx (wc + 10) d r := fun _ => rfl
      have hnext : ∀ s1 : Mem, (∀ a : Nat, a ≠ 18 → s1 a = s0 a) → (∀ d : Int, sTell fx (wc + 10) d (l :: r) = sTell fx (wc + 10) d r) → wp (gd (0 ≤ i ∧ i < 16) (f_X2_tells_19 12 wc p4 k110 k77 n (s1 (12 + 3) i) (wr (i + 1)) s1)) Q := by
        intro s1 ho1 hs
        rw [gd_t G, E2]
        have e15 : s1 (12 + 3) i = p + (trs l.2.1).length + (trs l.2.2).length := by
          show s1 15 i = _
          rw [ho1 15 (by decide)]
          exact g3
        rw [e15]
        refine ih n (i + 1) _ s1 (by rw [List.length_cons] at hn; omega) (by omega) (by omega) (by omega) (by omega) (by omega) g6 (fun x hx => hO x (List.mem_cons_of_mem _ hx)) ho1 hf ?_ ?_
        · intro s2 ho2 hd
          exact h110 s2 ho2 (fun d => by rw [hs d, hd d])
        · intro s2 ho2 j q E x1 x2 x3 x4 x5 x6 x7 x8
          exact h77 s2 ho2 j q E x1 x2 x3 x4 x5 x6 x7 (fun d => by rw [hs d, x8 d])
      have e13 : s (12 + 1) i = l.1 - 10 := by
        show s 13 i = _
        rw [ho 13 (by decide)]
        exact g1
      have e14 : s (12 + 2) i = p + (trs l.2.1).length := by
        show s 14 i = _
        rw [ho 14 (by decide)]
        exact g2
      have e15 : s (12 + 3) i = p + (trs l.2.1).length + (trs l.2.2).length := by
        show s 15 i = _
        rw [ho 15 (by decide)]
        exact g3
      rw [f_X2_tells_19, ho 12 (by decide), if_pos (by omega), gd_t G, jn_s, e13]
      by_cases hw1 : l.1 = wc + 10
      · rw [if_pos (by omega), gd_t G, gd_t G, e14, e15]
        have yes : (l.2.2.length = 0 ∨ (ev fx l.2.2 []).headD 0 = 1) → ∀ s1 : Mem, (∀ a : Nat, a ≠ 18 → s1 a = s0 a) → wp (k77 p i s1) Q := by
          intro hso s1 ho1
          refine h77 s1 ho1 i p l.2.1 hi (by omega) hp (by omega) g2 g4 hl.2.2.1 (fun d => ?_)
          rw [hst d, if_pos hw1]
          by_cases hb0 : l.2.2.length = 0
          · rw [if_pos hb0]
          · rw [if_neg hb0, if_pos (hso.resolve_left hb0)]
        by_cases hB : l.2.2 = []
        · have hb0 : ((trs l.2.2).length : Int) = 0 := by rw [hB]; rfl
          rw [if_pos (by omega)]
          exact yes (Or.inl (by rw [hB]; rfl)) s ho
        · have hb1 := trs_pos _ hB
          rw [if_neg (by omega), gd_t G, gd_t G]
          obtain ⟨-, -, -, hB2⟩ := hl
          rcases hB2 with hB2 | ⟨-, hD, hv⟩
          · exact absurd hB2 hB
          · obtain ⟨v, hv1, hv2⟩ := hv fx
            obtain ⟨s1, e3, ho1⟩ := c_value (fx := fx) (L := l.2.2) (p := p + (trs l.2.1).length) (e := p + (trs l.2.1).length + (trs l.2.2).length) (v := v) (s := s) (by omega) rfl (by omega) (by rw [ho 16 (by decide)]; exact g5) hD hv2 (fun k h1 h2 => by rw [ho 17 (by decide)]; exact hf k h1 h2)
            have ho2 : ∀ a : Nat, a ≠ 18 → s1 a = s0 a := fun a ha => (ho1 a ha).trans (ho a ha)
            rw [bd_e e3]
            have hlen : ¬ l.2.2.length = 0 := fun q => hB (List.eq_nil_of_length_eq_zero q)
            rcases hv1 with rfl | rfl
            · rw [if_pos rfl]
              refine hnext s1 ho2 (fun d => ?_)
              rw [hst d, if_pos hw1, if_neg hlen, hv2, if_neg (by decide)]
            · rw [if_neg (by decide)]
              exact yes (Or.inr (by rw [hv2]; rfl)) s1 ho2
      · rw [if_neg (by omega)]
        refine hnext s ho (fun d => ?_)
        rw [hst d, if_neg hw1]
section
variable {s : Mem} {n : Nat} {w : Int → Int} {lw : List Lin}
/-- one of the four words -/
theorem e_tells (h : NR s n w) (hw : WN w) (hn : n = 2 ∨ 137 ≤ n) (hC : LawC s 12 lw) (hO : OkW lw) (wc b d lo hi : Int) (hd : ∀ f : Int → Int, (∀ k : Int, 0 ≤ k → k < 10 → f k = sFx w b (k + 1)) → f_X2_unsaid 12 wc (sr s 17 f) = some (d, sr s 17 f)) (hh : ∀ (v : Int) (s1 : Mem), (if wc = 11 then bd (f_X2_held v 0 100 s1) fun r8 s9 => some (r8, s9) else if wc = 12 then bd (f_X2_held v 1 999 s1) fun r11 s12 => some (r11, s12) else bd (f_X2_held v 0 99 s1) fun r13 s14 => some (r13, s14)) = some (mmx lo (mmn hi v), s1)) :
    ∃ s1 : Mem, f_X2_tells 12 wc n b s = some (mmx lo (mmn hi (sTell (sFx w b) (wc + 10) d lw)), s1) ∧ ∀ a : Nat, a ≠ 17 → a ≠ 18 → s1 a = s a := by
  obtain ⟨f, e1, hf⟩ := e_see h hw hn b
  obtain ⟨o1, o2, o3, o4⟩ := hO
  have hx := c_tells (fx := sFx w b) (wc := wc) (p4 := d) (s0 := sr s 17 f) (Q := fun r s1 => r = mmx lo (mmn hi (sTell (sFx w b) (wc + 10) d lw)) ∧ ∀ a : Nat, a ≠ 17 → a ≠ 18 → s1 a = s a)
    (k110 := fun v5 s6 => if wc = 11 then bd (f_X2_held v5 0 100 s6) fun r8 s9 => some (r8, s9) else if wc = 12 then bd (f_X2_held v5 1 999 s6) fun r11 s12 => some (r11, s12) else bd (f_X2_held v5 0 99 s6) fun r13 s14 => some (r13, s14))
    (k77 := fun v15 v16 s17 => gd ((0 : Int) ≤ v16 ∧ v16 < 16) (bd (f_X2_value 12 v15 (s17 (12 + 2) v16) s17) fun r19 s20 => if wc = 11 then bd (f_X2_held r19 0 100 s20) fun r8 s9 => some (r8, s9) else if wc = 12 then bd (f_X2_held r19 1 999 s20) fun r11 s12 => some (r11, s12) else bd (f_X2_held r19 0 99 s20) fun r13 s14 => some (r13, s14)))
    lw FU 0 0 (sr s 17 f) (fu_lt (by omega)) (by omega) (by rw [sr_o (by decide), hC.1]; omega) (by omega) (by omega) (by omega) hC.2 o4 (fun _ _ => rfl) (fun k h1 h2 => by rw [sr_e]; exact hf k h1 h2)
    (fun s1 ho hd0 => by
      rw [hh]
      exact wp_s ⟨by rw [hd0 d], fun a h17 h18 => (ho a h18).trans (sr_o h17)⟩)
    (fun s1 ho j q E x1 x2 x3 x4 x5 x6 x7 x8 => by
      obtain ⟨v, hv⟩ := x7.2 (sFx w b)
      have e14 : s1 (12 + 2) j = q + (trs E).length := by
        show s1 14 j = _
        rw [ho 14 (by decide)]
        exact x5
      obtain ⟨s2, e3, ho2⟩ := c_value (fx := sFx w b) (L := E) (p := q) (e := q + (trs E).length) (v := v) (s := s1) x3 rfl x4 (by rw [ho 16 (by decide)]; exact x6) x7.1 hv (fun k h1 h2 => by rw [ho 17 (by decide), sr_e]; exact hf k h1 h2)
      rw [gd_t ⟨x1, x2⟩, e14, bd_e e3, hh]
      refine wp_s ⟨?_, fun a h17 h18 => ((ho2 a h18).trans (ho a h18)).trans (sr_o h17)⟩
      rw [x8 d, hv]
      rfl)
  obtain ⟨r, s1, h1, h2, h3⟩ := hx
  have h1' : f_X2_tells 12 wc n b s = some (r, s1) := by
    unfold f_X2_tells
    rw [bd_e e1, bd_e (hd f hf), jn_s, jn_s]
    exact h1
  exact ⟨s1, by rw [h1', h2], h3⟩
theorem e_shot (h : NR s n w) (hw : WN w) (hn : n = 2 ∨ 137 ≤ n) (hC : LawC s 12 lw) (hO : OkW lw) {b : Int} (hb : hasB w b) : ∃ s1 : Mem, f_X2_tells 12 10 n b s = some (sShot w lw b, s1) ∧ ∀ a : Nat, a ≠ 17 → a ≠ 18 → s1 a = s a :=
  e_tells h hw hn hC hO 10 b (wr (w (85 + w (7 + b)) - wr (2 * w 1))) 0 99 (fun f hf => by
    have f3 : f 3 = w (85 + w (7 + b)) := by
      rw [hf 3 (by decide) (by decide)]
      unfold sFx
      rw [if_neg (by decide), if_neg (by decide), if_neg (by decide), if_neg (by decide), if_pos hb, if_pos (by decide)]
    have f0 : f 0 = w 1 := by
      rw [hf 0 (by decide) (by decide)]
      unfold sFx
      rw [if_pos (by decide)]
    unfold f_X2_unsaid
    rw [if_pos rfl, gd_t (by decide), gd_t (by decide)]
    show some (wr (sr s 17 f 17 3 - wr (2 * sr s 17 f 17 0)), sr s 17 f) = _
    rw [sr_e, f3, f0]) (fun v s1 => by rw [if_neg (by decide), if_neg (by decide)]; rfl)
theorem e_stick (h : NR s n w) (hw : WN w) (hn : n = 2 ∨ 137 ≤ n) (hC : LawC s 12 lw) (hO : OkW lw) {b : Int} (hb : hasB w b) : ∃ s1 : Mem, f_X2_tells 12 11 n b s = some (sStick w lw b, s1) ∧ ∀ a : Nat, a ≠ 17 → a ≠ 18 → s1 a = s a :=
  e_tells h hw hn hC hO 11 b (wr (40 + w (65 + b))) 0 100 (fun f hf => by
    have f4 : f 4 = w (65 + b) := by
      rw [hf 4 (by decide) (by decide)]
      unfold sFx
      rw [if_neg (by decide), if_neg (by decide), if_neg (by decide), if_neg (by decide), if_pos hb, if_neg (by decide), if_pos (by decide)]
    unfold f_X2_unsaid
    rw [if_neg (by decide), if_pos rfl, gd_t (by decide)]
    show some (wr (40 + sr s 17 f 17 4), sr s 17 f) = _
    rw [sr_e, f4]) (fun v s1 => by rw [if_pos rfl]; rfl)
theorem e_list (h : NR s n w) (hw : WN w) (hn : n = 2 ∨ 137 ≤ n) (hC : LawC s 12 lw) (hO : OkW lw) {b : Int} (hb : hasB w b) : ∃ s1 : Mem, f_X2_tells 12 12 n b s = some (sList w lw b, s1) ∧ ∀ a : Nat, a ≠ 17 → a ≠ 18 → s1 a = s a :=
  e_tells h hw hn hC hO 12 b (wr (10 * w (65 + b))) 1 999 (fun f hf => by
    have f4 : f 4 = w (65 + b) := by
      rw [hf 4 (by decide) (by decide)]
      unfold sFx
      rw [if_neg (by decide), if_neg (by decide), if_neg (by decide), if_neg (by decide), if_pos hb, if_neg (by decide), if_pos (by decide)]
    unfold f_X2_unsaid
    rw [if_neg (by decide), if_neg (by decide), if_pos rfl, gd_t (by decide)]
    show some (wr (10 * sr s 17 f 17 4), sr s 17 f) = _
    rw [sr_e, f4]) (fun v s1 => by rw [if_neg (by decide), if_pos rfl]; rfl)
theorem e_fade (h : NR s n w) (hw : WN w) (hn : n = 2 ∨ 137 ≤ n) (hC : LawC s 12 lw) (hO : OkW lw) : ∃ s1 : Mem, f_X2_tells 12 13 n (-1) s = some (sFade w lw, s1) ∧ ∀ a : Nat, a ≠ 17 → a ≠ 18 → s1 a = s a :=
  e_tells h hw hn hC hO 13 (-1) 5 0 99 (fun f hf => by
    unfold f_X2_unsaid
    rw [if_neg (by decide), if_neg (by decide), if_neg (by decide)]) (fun v s1 => by rw [if_neg (by decide), if_neg (by decide)]; rfl)
end

/-! ===== L3: heavy, image, feed ===== -/
def sLk (w : Int → Int) (lw : List Lin) (b : Int) : Int := wr (sList w lw b - sLean w b)
def gHv (w : Int → Int) (lw : List Lin) (b : Int) (p : Int × Int) : Int × Int := if afl w b ∧ (p.1 = -1 ∨ sLk w lw b < p.2) then (b, sLk w lw b) else p
def sHv (w : Int → Int) (lw : List Lin) : Int × Int := fo (gHv w lw) (w 58).toNat 0 (-1, 0)
section
variable {s t : Mem} {w : Int → Int} {lw : List Lin}
theorem c_lacks (h : NR s 2 w) (hw : WN w) (hC : LawC s 12 lw) (hO : OkW lw) {b : Int} (hb : hasB w b) : ∃ s1 : Mem, f_X10_lacks 1 b s = some (sLk w lw b, s1) ∧ ∀ a : Nat, a ≠ 17 → a ≠ 18 → s1 a = s a := by
  have h58 := hw.boats
  have hb1 := hb.1
  have hb2 := hb.2
  unfold f_X10_lacks
  simp only [Nat.reduceAdd]
  obtain ⟨s1, a1, a2⟩ := e_list h hw (Or.inl rfl) hC hO hb
  have n1 : NR s1 2 w := h.of (fun c q1 q2 => a2 c (by omega) (by omega))
  rw [bd_e a1, bd_e (e_lean n1 hw (b := b) (by omega))]
  exact ⟨s1, rfl, a2⟩
theorem c_heav (h : NR s 2 w) (hw : WN w) (hC : LawC s 12 lw) (hO : OkW lw) : ∀ (j fu : Nat) (p : Int × Int) (i : Int) (s1 : Mem), j < fu → 0 ≤ i → i + j = w 58 → (∀ a : Nat, a ≠ 17 → a ≠ 18 → s1 a = s a) → ∃ s2 : Mem, (f_X10_heaviest_6 1 (fun v1 s2 => some (v1, s2)) fu p.1 p.2 i s1 = some ((fo (gHv w lw) j i p).1, s2)) ∧ ∀ a : Nat, a ≠ 17 → a ≠ 18 → s2 a = s a := by
  have h58 := hw.boats
  intro j
  induction j with
  | zero =>
    intro fu p i s1 h1 h2 h3 q
    have n1 : NR s1 2 w := h.of (fun c q1 q2 => q c (by omega) (by omega))
    cases fu with
    | zero => exact absurd h1 (Nat.not_lt_zero _)
    | succ fu =>
      rw [f_X10_heaviest_6]
      simp only [Nat.reduceAdd]
      rw [n1.boats, if_neg (by omega)]
      exact ⟨s1, rfl, q⟩
  | succ j ih =>
    intro fu p i s1 h1 h2 h3 q
    have n1 : NR s1 2 w := h.of (fun c q1 q2 => q c (by omega) (by omega))
    have c1 : LawC s1 12 lw := hC.at (fun c q1 q2 => q c (by omega) (by omega))
    cases fu with
    | zero => exact absurd h1 (Nat.not_lt_zero _)
    | succ fu =>
      have e : fo (gHv w lw) (j + 1) i p = fo (gHv w lw) j (i + 1) (gHv w lw i p) := rfl
      rw [f_X10_heaviest_6, e]
      simp only [Nat.reduceAdd]
      rw [n1.boats, if_pos (by omega), bd_e (e_afloat n1 hw i), jn_s, bI_z, wr_n (x := i + 1) (by omega)]
      unfold gHv
      by_cases c : afl w i
      · obtain ⟨s2, a1, a2⟩ := c_lacks n1 hw c1 hO c.1
        have q2 : ∀ a : Nat, a ≠ 17 → a ≠ 18 → s2 a = s a := fun a g1 g2 => (a2 a g1 g2).trans (q a g1 g2)
        rw [if_pos c, bd_e a1, jn_s]
        by_cases c2 : p.1 = -1
        · rw [if_pos c2, if_pos ⟨c, Or.inl c2⟩]
          exact ih fu (i, sLk w lw i) (i + 1) s2 (by omega) (by omega) (by omega) q2
        · rw [if_neg c2]
          by_cases c3 : sLk w lw i < p.2
          · rw [if_pos c3, if_pos ⟨c, Or.inr c3⟩]
            exact ih fu (i, sLk w lw i) (i + 1) s2 (by omega) (by omega) (by omega) q2
          · rw [if_neg c3, if_neg (fun z => z.2.elim c2 c3)]
            exact ih fu p (i + 1) s2 (by omega) (by omega) (by omega) q2
      · rw [if_neg c, if_neg (fun z => c z.1)]
        exact ih fu p (i + 1) s1 (by omega) (by omega) (by omega) q
theorem m_lacks {t1 : Mem} (ht : t1 1 = w) (hw : WN w) (hM : LawM w lw) (hO : OkW lw) {b : Int} (hb : hasB w b) : ∃ t2 : Mem, f_X12_listOf 0 b t1 = some (sList w lw b, t2) ∧ f_X12_leanOf 0 b t2 = some (sLean w b, t2) ∧ t2 1 = w ∧ ∀ a : Nat, a ≠ 9 → a ≠ 10 → t2 a = t1 a := by
  have h58 := hw.boats
  have hb1 := hb.1
  have hb2 := hb.2
  obtain ⟨t2, a1, a2⟩ := e_listOf (t := t1) (lw := lw) (b := b) (by rw [ht]; exact hw) (by rw [ht]; exact hM) hO (by rw [ht]; exact hb)
  have e2 : t2 1 = w := (a2 1 (by decide) (by decide)).trans ht
  have l := e_leanOf (t := t2) (b := b) (by rw [e2]; exact hw) (by omega)
  rw [e2] at l
  rw [ht] at a1
  exact ⟨t2, a1, l, e2, a2⟩
theorem m_heav {k : Int → Mem → Res} {Q : Int → Mem → Prop} (hw : WN w) (hM : LawM w lw) (hO : OkW lw) : ∀ (j fu : Nat) (p : Int × Int) (i : Int) (t1 : Mem), j < fu → 0 ≤ i → i + j = w 58 → t1 1 = w → (∀ a : Nat, a ≠ 9 → a ≠ 10 → t1 a = t a) → (p.1 = -1 ∨ (hasB w p.1 ∧ p.2 = sLk w lw p.1)) → (∀ t2 : Mem, t2 1 = w → (∀ a : Nat, a ≠ 9 → a ≠ 10 → t2 a = t a) → ((fo (gHv w lw) j i p).1 = -1 ∨ hasB w (fo (gHv w lw) j i p).1) → wp (k (fo (gHv w lw) j i p).1 t2) Q) → wp (f_X12_heavy_4 0 k fu p.1 i t1) Q := by
  have h58 := hw.boats
  intro j
  induction j with
  | zero =>
    intro fu p i t1 h1 h2 h3 ht q hp hk
    cases fu with
    | zero => exact absurd h1 (Nat.not_lt_zero _)
    | succ fu =>
      rw [f_X12_heavy_4, gd_t (by decide), Nat.zero_add, ht, if_neg (by omega)]
      exact hk t1 ht q (hp.elim Or.inl (fun z => Or.inr z.1))
  | succ j ih =>
    intro fu p i t1 h1 h2 h3 ht q hp hk
    cases fu with
    | zero => exact absurd h1 (Nat.not_lt_zero _)
    | succ fu =>
      have e : fo (gHv w lw) (j + 1) i p = fo (gHv w lw) j (i + 1) (gHv w lw i p) := rfl
      rw [e] at hk
      have ea := e_isAfloat (t := t1) (by rw [ht]; exact hw) i
      rw [ht] at ea
      rw [f_X12_heavy_4, gd_t (by decide), Nat.zero_add, ht, if_pos (by omega), bd_e ea, jn_s, bI_z, wr_n (x := i + 1) (by omega)]
      unfold gHv at hk
      by_cases c : afl w i
      · rw [if_pos c, jn_s]
        by_cases c2 : p.1 = -1
        · rw [if_pos ⟨c, Or.inl c2⟩] at hk
          rw [if_pos c2]
          exact ih fu (i, sLk w lw i) (i + 1) t1 (by omega) (by omega) (by omega) ht q (Or.inr ⟨c.1, rfl⟩) hk
        · obtain ⟨z1, z2⟩ := hp.resolve_left c2
          obtain ⟨t2, a1, a2, a3, a4⟩ := m_lacks ht hw hM hO c.1
          obtain ⟨t3, b1, b2, b3, b4⟩ := m_lacks a3 hw hM hO z1
          have q3 : ∀ a : Nat, a ≠ 9 → a ≠ 10 → t3 a = t a := fun a g1 g2 => ((b4 a g1 g2).trans (a4 a g1 g2)).trans (q a g1 g2)
          rw [if_neg c2, bd_e a1, bd_e a2, bd_e b1, bd_e b2]
          have e1 : wr (sList w lw i - sLean w i) = sLk w lw i := rfl
          have e2 : wr (sList w lw p.1 - sLean w p.1) = sLk w lw p.1 := rfl
          rw [e1, e2, ← z2]
          by_cases c3 : sLk w lw i < p.2
          · rw [if_pos ⟨c, Or.inr c3⟩] at hk
            rw [if_pos c3]
            exact ih fu (i, sLk w lw i) (i + 1) t3 (by omega) (by omega) (by omega) b3 q3 (Or.inr ⟨c.1, rfl⟩) hk
          · rw [if_neg (fun z => z.2.elim c2 c3)] at hk
            rw [if_neg c3]
            exact ih fu p (i + 1) t3 (by omega) (by omega) (by omega) b3 q3 hp hk
      · rw [if_neg (fun z => c z.1)] at hk
        rw [if_neg c]
        exact ih fu p (i + 1) t1 (by omega) (by omega) (by omega) ht q hp hk
theorem k_heavy (h : IV s t) (what : Int) : Sim (f_X11_heavy 0 what s) (f_X12_heavy 0 what t) := by
  obtain ⟨lw, hX, hW⟩ := h.1
  have hw := h.wn
  have h58 := hw.boats
  have hC : LawC s 12 lw := hX.2.2.1
  have hM := hW.2.2.1
  have hO := hW.2.2.2.1
  obtain ⟨s1, a1, a2⟩ := c_heav h.nr hw hC hO (t 1 58).toNat FU (-1, 0) 0 s (fu_lt (by omega)) (by decide) (by omega) (fun _ _ _ => rfl)
  have e : fo (gHv (t 1) lw) (t 1 58).toNat 0 (-1, 0) = sHv (t 1) lw := rfl
  rw [e] at a1
  have n1 : NR s1 2 (t 1) := h.nr.of (fun c q1 q2 => a2 c (by omega) (by omega))
  have c1 : LawC s1 12 lw := hC.at (fun c q1 q2 => a2 c (by omega) (by omega))
  have hh : wp (f_X12_heavy 0 what t) (fun r t2 => ∃ s2 : Mem, f_X11_heavy 0 what s = some (r, s2) ∧ (∀ a : Nat, a ≠ 17 → a ≠ 18 → s2 a = s a) ∧ (∀ a : Nat, a ≠ 9 → a ≠ 10 → t2 a = t a)) := by
    unfold f_X12_heavy
    rw [jn_s]
    refine m_heav hw hM hO (t 1 58).toNat FU (-1, 0) 0 t (fu_lt (by omega)) (by decide) (by omega) rfl (fun _ _ _ => rfl) (Or.inl rfl) (fun t2 ht q hp => ?_)
    rw [e] at hp ⊢
    have e11 : f_X11_heavy 0 what s = bd (f_X10_heaviest (0 + 1) s) fun r1 s2 => if r1 = (-1) then (some ((-1000), s2)) else (bd (f_X11_within what 0 1 s2) fun r4 s5 => if r4 = 0 then (some ((-1000), s5)) else (if what = 0 then (some (r1, s5)) else (bd (f_X10_lacks (0 + 1) r1 s5) fun r8 s9 => some (r8, s9)))) := rfl
    have e12 : f_X10_heaviest 1 s = some ((sHv (t 1) lw).1, s1) := by
      unfold f_X10_heaviest
      rw [jn_s]
      exact a1
    rw [e11, Nat.zero_add, bd_e e12]
    by_cases c : (sHv (t 1) lw).1 = -1
    · rw [if_pos c, if_pos c]
      exact wp_s ⟨s1, rfl, a2, q⟩
    · have hb := hp.resolve_left c
      rw [if_neg c, if_neg c, bd_e (e_within _ _ _ _), bd_e (e_isIn _ _ _ _), bI_z, bI_z]
      by_cases cw : 0 ≤ what ∧ what ≤ 1
      · rw [if_pos cw, if_pos cw]
        by_cases c0 : what = 0
        · rw [if_pos c0, if_pos c0]
          exact wp_s ⟨s1, rfl, a2, q⟩
        · rw [if_neg c0, if_neg c0]
          obtain ⟨s2, b1, b2⟩ := c_lacks n1 hw c1 hO hb
          obtain ⟨t3, d1, d2, d3, d4⟩ := m_lacks ht hw hM hO hb
          rw [bd_e b1, bd_e d1, bd_e d2]
          exact wp_s ⟨s2, rfl, fun a g1 g2 => (b2 a g1 g2).trans (a2 a g1 g2), fun a g1 g2 => (d4 a g1 g2).trans (q a g1 g2)⟩
      · rw [if_neg cw, if_neg cw]
        exact wp_s ⟨s1, rfl, a2, q⟩
  obtain ⟨r, t2, m1, s2, m2, m3, m4⟩ := hh
  exact ⟨r, s2, t2, m2, m1, h.sc2 m3 m4⟩
end
/-! image -/
theorem LwM_cg {f g : Int → Int} (q : ∀ i : Int, 0 ≤ i → i < 1732 → g i = f i) : ∀ (r : List Lin) (i p : Int), 0 ≤ i → i + r.length ≤ 16 → 0 ≤ p → p + nSt r ≤ 410 → LwM f i p r → LwM g i p r
  | [], _, _, _, _, _, _, _ => trivial
  | l :: r, i, p, h1, h2, h3, h4, h => by
    have e : ((l :: r).length : Int) = (r.length : Int) + 1 := by rw [List.length_cons]; omega
    have e2 : (nSt (l :: r) : Int) = (l.2.1.length : Int) + l.2.2.length + nSt r := by
      show ((l.2.1.length + l.2.2.length + nSt r : Nat) : Int) = _
      omega
    obtain ⟨a1, a2, a3, a4, a5, a6, a7⟩ := h
    exact ⟨by rw [q _ (by omega) (by omega)]; exact a1, by rw [q _ (by omega) (by omega)]; exact a2, by rw [q _ (by omega) (by omega)]; exact a3, by rw [q _ (by omega) (by omega)]; exact a4, StM_cg (lo := p) (hi := p + l.2.1.length) (fun i g1 g2 => q i (by omega) (by omega)) _ _ (by omega) (by omega) a5, StM_cg (lo := p) (hi := p + l.2.1.length + l.2.2.length) (fun i g1 g2 => q i (by omega) (by omega)) _ _ (by omega) (by omega) a6, LwM_cg q r (i + 1) _ (by omega) (by omega) (by omega) (by omega) a7⟩
theorem WW.cg {w w' : Int → Int} {lw : List Lin} (h : WW w lw) (q : ∀ i : Int, 0 ≤ i → i < 1732 → w' i = w i) : WW w' lw := by
  obtain ⟨g1, g2, g3, g4, g5, g6, g7, g8, g9⟩ := h
  refine ⟨g1.cg (fun i _ _ => q i (by omega) (by omega)), by rw [q 0 (by decide) (by decide)]; exact g2, ⟨by rw [q 59 (by decide) (by decide)]; exact g3.1, LwM_cg q lw 0 0 (by decide) (by have := g4.1; omega) (by decide) (by have := g4.2.1; omega) g3.2⟩, g4, g5.of (fun i _ => q i (by omega) (by omega)), g6.of (fun i _ => q i (by omega) (by omega)), g7.of (fun i _ => q i (by omega) (by omega)), g8.of (fun i _ => q i (by omega) (by omega)), g9.of (fun i _ => q i (by omega) (by omega))⟩
theorem WX.cg {s : Mem} {a : Nat} {w w' : Int → Int} {lw : List Lin} (hX : WX s a w lw) (hW : WW w lw) (q : ∀ i : Int, 0 ≤ i → i < 1732 → w' i = w i) : WX s a w' lw := by
  obtain ⟨h1, h2, h3, h4, h5, h6, h7, h8⟩ := hX
  obtain ⟨g1, g2, g3, g4, g5, g6, g7, g8, g9⟩ := hW
  exact ⟨h1.cg (fun i _ _ => q i (by omega) (by omega)), h2.of rfl (fun i _ _ => q i (by omega) (by omega)), h3, h4.of (fun _ _ _ => rfl) (fun i _ => q i (by omega) (by omega)) g5.1.2, h5.of (fun _ _ _ => rfl) (fun i _ => q i (by omega) (by omega)) g6.1.2, h6.of (fun _ _ _ => rfl) (fun i _ => q i (by omega) (by omega)), h7.of (fun _ _ _ => rfl) (fun i _ => q i (by omega) (by omega)) g8.1.2, h8.of (fun _ _ _ => rfl) (fun i _ => q i (by omega) (by omega))⟩
def cpw (x y : Int → Int) : Int → Int := fun i => if 0 ≤ i ∧ i < 1732 then x i else y i
theorem cpw_in {x y : Int → Int} : ∀ i : Int, 0 ≤ i → i < 1732 → cpw x y i = x i := fun i h1 h2 => if_pos ⟨h1, h2⟩
section
variable {s t : Mem}
theorem m_img0 {k : Mem → Res} : f_X12_image_15 0 0 k FU 0 t = k (sr t 1 (cpw (t 2) (t 1))) := by
  have q := cpl (F := f_X12_image_15 0 0 k) (k := k) (a := 1) (b := 2) (N := 1732) (o := 0) (p := 0) (G := fun _ => True) (Or.inl (by decide)) (fun n x s hg h1 h2 => by
    rw [f_X12_image_15, if_pos h2, jn_s, if_pos rfl, gd_t (by omega), gd_t (by omega), lm_s, wr_n (x := x + 1) (by omega), Nat.zero_add, Nat.zero_add, Int.zero_add]) (fun n x s hg h1 => by
    rw [f_X12_image_15, if_neg h1]) (fun s x v hg => trivial) 1732 FU 0 t trivial (by decide) (by decide) (by decide)
  rw [q]
  refine congrArg (fun f => k (sr t 1 f)) (funext fun i => ?_)
  unfold cpw
  simp only [Int.zero_add, Int.sub_zero]
theorem m_img1 {k : Mem → Res} {x1 : Int} (hx : x1 ≠ 0) : f_X12_image_15 0 x1 k FU 0 t = k (sr t 2 (cpw (t 1) (t 2))) := by
  have q := cpl (F := f_X12_image_15 0 x1 k) (k := k) (a := 2) (b := 1) (N := 1732) (o := 0) (p := 0) (G := fun _ => True) (Or.inl (by decide)) (fun n x s hg h1 h2 => by
    rw [f_X12_image_15, if_pos h2, jn_s, if_neg hx, gd_t (by omega), gd_t (by omega), lm_s, wr_n (x := x + 1) (by omega), Nat.zero_add, Nat.zero_add, Int.zero_add]) (fun n x s hg h1 => by
    rw [f_X12_image_15, if_neg h1]) (fun s x v hg => trivial) 1732 FU 0 t trivial (by decide) (by decide) (by decide)
  rw [q]
  refine congrArg (fun f => k (sr t 2 f)) (funext fun i => ?_)
  unfold cpw
  simp only [Int.zero_add, Int.sub_zero]
theorem k_image (h : IV s t) (x : Int) : Sim (f_X11_image 0 x s) (f_X12_image 0 x t) := by
  have hI := h.2.1
  unfold f_X11_image f_X12_image f_X5_forget f_X12_forgets
  simp only [Nat.zero_add, Nat.reduceAdd]
  rw [jn_s, hI.1]
  by_cases c : x = 0
  · subst c
    rw [if_pos rfl, if_pos rfl]
    by_cases c5 : t 0 5 = 0
    · rw [if_pos c5, if_pos c5]
      exact Sim.rf h _
    · obtain ⟨e5, lw, hX, hW⟩ := hI.2 c5
      obtain ⟨s1, a1, a2, a3⟩ := bec10_e (s := s) (x := 39) (y := 1) (Or.inr (by decide)) hX hW
      rw [if_neg c5, if_neg c5, bd_e a1, lm_s, bd_s]
      show Sim _ (jn _ _)
      rw [jn_s, m_img0]
      show Sim _ (jn _ _)
      rw [jn_s, if_pos rfl, lm_s, bd_s]
      show Sim _ (lm _ _)
      rw [lm_s]
      refine Sim.eq rfl rfl rfl ?_
      have e1 : (mup (mup (sr t 1 (cpw (t 2) (t 1))) 0 4 0) 0 5 1) 1 = cpw (t 2) (t 1) := by rw [mup_o (by decide), mup_o (by decide), sr_e]
      have e0 : (mup (mup (sr t 1 (cpw (t 2) (t 1))) 0 4 0) 0 5 1) 0 = up (up (t 0) 4 0) 5 1 := by rw [mup_row, mup_row, sr_o (by decide)]
      have eo : ∀ c : Nat, c ≠ 0 → c ≠ 1 → (mup (mup (sr t 1 (cpw (t 2) (t 1))) 0 4 0) 0 5 1) c = t c := fun c g1 g2 => by rw [mup_o g1, mup_o g1, sr_o g2]
      have hX' : WX (mup s1 77 2 0) 1 (t 2) lw := a2.of hW (fun c q1 q2 => mup_o (by omega))
      obtain ⟨-, -, hP, hR, hT⟩ := h
      refine ⟨⟨lw, ?_, ?_⟩, ⟨?_, fun _ => ⟨?_, lw, ?_, ?_⟩⟩, ?_, ?_, ?_⟩
      · rw [e1]
        exact hX'.cg hW cpw_in
      · rw [e1]
        exact hW.cg cpw_in
      · rw [mup_o (by decide), a3 0 (by decide), hI.1, e0, up_eq rfl, e5]
      · rw [e0, up_eq rfl]
      · rw [eo 2 (by decide) (by decide)]
        exact hX.of hW (fun c q1 q2 => by rw [mup_o (by omega), a3 c (by omega)])
      · rw [eo 2 (by decide) (by decide)]
        exact hW
      · rw [e0, up_ne (by decide), up_eq rfl]
        exact PastC.none (mup_e rfl rfl) (by rw [mup_n (Or.inr (by decide)), a3 77 (by decide)]; exact hP.2.2.1)
      · exact hR.of (by rw [mup_o (by decide), a3 _ (by decide)]) (by rw [mup_o (by decide), a3 _ (by decide)]) (by rw [e0, up_ne (by decide), up_ne (by decide)]) (by rw [e0, up_ne (by decide), up_ne (by decide)]) (by rw [e0, up_ne (by decide), up_ne (by decide)]) (eo 8 (by decide) (by decide))
      · unfold ThC at hT ⊢
        rw [mup_o (by decide), a3 133 (by decide)]
        exact hT
  · rw [if_neg c, if_neg c]
    obtain ⟨lw, hX, hW⟩ := h.1
    obtain ⟨s1, a1, a2, a3⟩ := bec10_e (s := s) (x := 1) (y := 39) (Or.inl (by decide)) hX hW
    rw [bd_e a1, lm_s]
    show Sim _ (jn _ _)
    rw [jn_s, m_img1 c]
    show Sim _ (jn _ _)
    rw [jn_s, if_neg c]
    show Sim _ (lm _ _)
    rw [lm_s]
    refine Sim.eq rfl rfl rfl ?_
    have e1 : (mup (sr t 2 (cpw (t 1) (t 2))) 0 5 1) 1 = t 1 := by rw [mup_o (by decide), sr_o (by decide)]
    have e2 : (mup (sr t 2 (cpw (t 1) (t 2))) 0 5 1) 2 = cpw (t 1) (t 2) := by rw [mup_o (by decide), sr_e]
    have e0 : (mup (sr t 2 (cpw (t 1) (t 2))) 0 5 1) 0 = up (t 0) 5 1 := by rw [mup_row, sr_o (by decide)]
    have eo : ∀ c : Nat, c ≠ 0 → c ≠ 2 → (mup (sr t 2 (cpw (t 1) (t 2))) 0 5 1) c = t c := fun c g1 g2 => by rw [mup_o g1, sr_o g2]
    have hX' : WX (mup s1 0 5 1) 39 (t 1) lw := a2.of hW (fun c q1 q2 => mup_o (by omega))
    obtain ⟨-, -, hP, hR, hT⟩ := h
    refine ⟨⟨lw, ?_, ?_⟩, ⟨?_, fun _ => ⟨?_, lw, ?_, ?_⟩⟩, ?_, ?_, ?_⟩
    · rw [e1]
      exact hX.of hW (fun c q1 q2 => by rw [mup_o (by omega), a3 c (by omega)])
    · rw [e1]
      exact hW
    · rw [mup_e rfl rfl, e0, up_eq rfl]
    · rw [e0, up_eq rfl]
    · rw [e2]
      exact hX'.cg hW cpw_in
    · rw [e2]
      exact hW.cg cpw_in
    · rw [e0, e1, eo 3 (by decide) (by decide), up_ne (by decide)]
      exact hP.of (fun c q1 q2 => by rw [mup_o (by omega), a3 c (by omega)]) (fun _ _ _ => rfl) (fun _ _ => rfl)
    · exact hR.of (by rw [mup_o (by decide), a3 _ (by decide)]) (by rw [mup_o (by decide), a3 _ (by decide)]) (by rw [e0, up_ne (by decide)]) (by rw [e0, up_ne (by decide)]) (by rw [e0, up_ne (by decide)]) (eo 8 (by decide) (by decide))
    · unfold ThC at hT ⊢
      rw [mup_o (by decide), a3 133 (by decide)]
      exact hT
end

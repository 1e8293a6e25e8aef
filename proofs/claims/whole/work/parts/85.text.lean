/-! ===== L3: texts: the call ===== -/
theorem IV.rd {s s' t t' : Mem} (h : IV s t) (q : ∀ c : Nat, c < 236 → s' c = s c) (q4 : s' 236 4 = 0) (q16 : t' 0 16 = 0) (q5 : s' 236 5 = t' 0 23) (q6 : s' 236 6 = t' 0 25) (m : ∀ c : Nat, c = 1 ∨ c = 2 ∨ c = 3 → t' c = t c) (m4 : t' 0 4 = t 0 4) (m5 : t' 0 5 = t 0 5) : IV s' t' := by
  obtain ⟨⟨lw, hX, hW⟩, hI, hP, hR, hT⟩ := h
  refine ⟨⟨lw, ?_, ?_⟩, ?_, ?_, ?_, ?_⟩
  · rw [m 1 (by decide)]
    exact hX.of hW (fun c a1 a2 => q c (by omega))
  · rw [m 1 (by decide)]
    exact hW
  · exact hI.of (by rw [q 0 (by decide)]) m5 (m 2 (by decide)) (fun c a1 a2 => q c (by omega))
  · rw [m4, m 3 (by decide), m 1 (by decide)]
    exact hP.of (fun c a1 a2 => q c (by omega)) (fun _ _ _ => rfl) (fun _ _ => rfl)
  · refine ⟨q4.trans q16.symm, by rw [q16]; decide, fun i h1 h2 => ?_, q5, q6⟩
    rw [q16] at h2
    omega
  · unfold ThC at hT ⊢
    rw [q 133 (by decide)]
    exact hT
theorem IV.law {s s' t t' : Mem} {lw' : List Lin} (h : IV s t) (hC : LawC s' 12 lw') (hO : OkW lw') (hM : LawM (t' 1) lw') (q : ∀ c : Nat, ¬ (12 ≤ c ∧ c ≤ 16) → s' c = s c) (qw : ∀ i : Int, i ≠ 59 → i < 848 → t' 1 i = t 1 i) (q2 : ∀ c : Nat, c ≠ 1 → t' c = t c) : IV s' t' := by
  obtain ⟨lw, ⟨h1, h2, h3, h4, h5, h6, h7, h8⟩, g1, g2, g3, g4, g5, g6, g7, g8, g9⟩ := h.1
  refine h.wo (lw := lw') ⟨(h1.of (fun c q1 q2 => q c (by omega))).cg2 (fun i hi => qw i (by omega) (by omega)), h2.of (q 11 (by omega)) (fun i g1 g2 => qw i (by omega) (by omega)), hC, h4.of (fun c q1 q2 => q c (by omega)) (fun i hi => qw i (by omega) (by omega)) g5.1.2, h5.of (fun c q1 q2 => q c (by omega)) (fun i hi => qw i (by omega) (by omega)) g6.1.2, h6.of (fun c q1 q2 => q c (by omega)) (fun i hi => qw i (by omega) (by omega)), h7.of (fun c q1 q2 => q c (by omega)) (fun i hi => qw i (by omega) (by omega)) g8.1.2, h8.of (fun c q1 q2 => q c (by omega)) (fun i hi => qw i (by omega) (by omega))⟩ ⟨g1.cg2 (fun i hi => qw i (by omega) (by omega)), by rw [qw 0 (by omega) (by omega)]; exact g2, hM, hO, g5.of (fun i hi => qw i (by omega) (by omega)), g6.of (fun i hi => qw i (by omega) (by omega)), g7.of (fun i hi => qw i (by omega) (by omega)), g8.of (fun i hi => qw i (by omega) (by omega)), g9.of (fun i hi => qw i (by omega) (by omega))⟩ (fun c hc => q c (by omega)) (fun i hi => qw i (by omega) (by omega)) q2
theorem IV.cu2 {s s' t t' : Mem} (h : IV s t) (hC : CurC s' 19 (t' 1)) (hM : WC (t' 1)) (q : ∀ c : Nat, ¬ (19 ≤ c ∧ c ≤ 21) → s' c = s c) (qw : ∀ i : Int, i ≠ 60 → ¬ (101 ≤ i ∧ i < 133) → t' 1 i = t 1 i) (q2 : ∀ c : Nat, c ≠ 1 → t' c = t c) : IV s' t' := by
  obtain ⟨lw, ⟨h1, h2, h3, h4, h5, h6, h7, h8⟩, g1, g2, g3, g4, g5, g6, g7, g8, g9⟩ := h.1
  refine h.wo (lw := lw) ⟨(h1.of (fun c q1 q2 => q c (by omega))).cg2 (fun i hi => qw i (by omega) (by omega)), h2.of (q 11 (by omega)) (fun i g1 g2 => qw i (by omega) (by omega)), h3.at (fun c q1 q2 => q c (by omega)), hC, h5.of (fun c q1 q2 => q c (by omega)) (fun i hi => qw i (by omega) (by omega)) g6.1.2, h6.of (fun c q1 q2 => q c (by omega)) (fun i hi => qw i (by omega) (by omega)), h7.of (fun c q1 q2 => q c (by omega)) (fun i hi => qw i (by omega) (by omega)) g8.1.2, h8.of (fun c q1 q2 => q c (by omega)) (fun i hi => qw i (by omega) (by omega))⟩ ⟨g1.cg2 (fun i hi => qw i (by omega) (by omega)), by rw [qw 0 (by omega) (by omega)]; exact g2, g3.of (fun i hi => qw i (by omega) (by omega)), g4, hM, g6.of (fun i hi => qw i (by omega) (by omega)), g7.of (fun i hi => qw i (by omega) (by omega)), g8.of (fun i hi => qw i (by omega) (by omega)), g9.of (fun i hi => qw i (by omega) (by omega))⟩ (fun c hc => q c (by omega)) (fun i hi => qw i (by omega) (by omega)) q2
theorem IV.pl2 {s s' t t' : Mem} (h : IV s t) (hC : PlanC s' 22 (t' 1)) (hM : WPl (t' 1)) (q : ∀ c : Nat, ¬ (22 ≤ c ∧ c ≤ 26) → s' c = s c) (qw : ∀ i : Int, i ≠ 61 → ¬ (133 ≤ i ∧ i < 197) → t' 1 i = t 1 i) (q2 : ∀ c : Nat, c ≠ 1 → t' c = t c) : IV s' t' := by
  obtain ⟨lw, ⟨h1, h2, h3, h4, h5, h6, h7, h8⟩, g1, g2, g3, g4, g5, g6, g7, g8, g9⟩ := h.1
  refine h.wo (lw := lw) ⟨(h1.of (fun c q1 q2 => q c (by omega))).cg2 (fun i hi => qw i (by omega) (by omega)), h2.of (q 11 (by omega)) (fun i g1 g2 => qw i (by omega) (by omega)), h3.at (fun c q1 q2 => q c (by omega)), h4.of (fun c q1 q2 => q c (by omega)) (fun i hi => qw i (by omega) (by omega)) g5.1.2, hC, h6.of (fun c q1 q2 => q c (by omega)) (fun i hi => qw i (by omega) (by omega)), h7.of (fun c q1 q2 => q c (by omega)) (fun i hi => qw i (by omega) (by omega)) g8.1.2, h8.of (fun c q1 q2 => q c (by omega)) (fun i hi => qw i (by omega) (by omega))⟩ ⟨g1.cg2 (fun i hi => qw i (by omega) (by omega)), by rw [qw 0 (by omega) (by omega)]; exact g2, g3.of (fun i hi => qw i (by omega) (by omega)), g4, g5.of (fun i hi => qw i (by omega) (by omega)), hM, g7.of (fun i hi => qw i (by omega) (by omega)), g8.of (fun i hi => qw i (by omega) (by omega)), g9.of (fun i hi => qw i (by omega) (by omega))⟩ (fun c hc => q c (by omega)) (fun i hi => qw i (by omega) (by omega)) q2
theorem IV.vi2 {s s' t t' : Mem} (h : IV s t) (hC : VilC s' 27 (t' 1)) (hM : WV (t' 1)) (q : ∀ c : Nat, ¬ (27 ≤ c ∧ c ≤ 30) → s' c = s c) (qw : ∀ i : Int, i ≠ 62 → ¬ (197 ≤ i ∧ i < 222) → t' 1 i = t 1 i) (q2 : ∀ c : Nat, c ≠ 1 → t' c = t c) : IV s' t' := by
  obtain ⟨lw, ⟨h1, h2, h3, h4, h5, h6, h7, h8⟩, g1, g2, g3, g4, g5, g6, g7, g8, g9⟩ := h.1
  refine h.wo (lw := lw) ⟨(h1.of (fun c q1 q2 => q c (by omega))).cg2 (fun i hi => qw i (by omega) (by omega)), h2.of (q 11 (by omega)) (fun i g1 g2 => qw i (by omega) (by omega)), h3.at (fun c q1 q2 => q c (by omega)), h4.of (fun c q1 q2 => q c (by omega)) (fun i hi => qw i (by omega) (by omega)) g5.1.2, h5.of (fun c q1 q2 => q c (by omega)) (fun i hi => qw i (by omega) (by omega)) g6.1.2, hC, h7.of (fun c q1 q2 => q c (by omega)) (fun i hi => qw i (by omega) (by omega)) g8.1.2, h8.of (fun c q1 q2 => q c (by omega)) (fun i hi => qw i (by omega) (by omega))⟩ ⟨g1.cg2 (fun i hi => qw i (by omega) (by omega)), by rw [qw 0 (by omega) (by omega)]; exact g2, g3.of (fun i hi => qw i (by omega) (by omega)), g4, g5.of (fun i hi => qw i (by omega) (by omega)), g6.of (fun i hi => qw i (by omega) (by omega)), hM, g8.of (fun i hi => qw i (by omega) (by omega)), g9.of (fun i hi => qw i (by omega) (by omega))⟩ (fun c hc => q c (by omega)) (fun i hi => qw i (by omega) (by omega)) q2
theorem IV.fo {s t : Mem} (h : IV s t) : IV (mup s 77 2 0) (mup t 0 4 0) := by
  have e : mup t 0 4 0 1 = t 1 := mup_o (by decide)
  refine h.fg ?_ ?_ ?_ ?_ ?_ ?_ (fun c _ q => mup_o q) (fun i _ => by rw [e]) (fun c q _ => mup_o q)
  · rw [e]
    exact h.nr.of (fun c q1 q2 => mup_o (by omega))
  · rw [e]
    exact h.bk.of (mup_o (by decide)) (fun _ _ _ => rfl)
  · rw [e]
    exact h.wn
  · rw [e]
    exact h.h0
  · rw [mup_row]
  · rw [mup_row]
/-- what was read is put in -/
theorem ok_0 {s t0 t : Mem} {T R : List Tk} {B : Int → Int} {L : Nat} {lw : List Lin} (hT : T.length ≤ 401) (h : IV s t) (hR : R ≠ []) (hL : LI T B L R lw s t0) (e0 : ∀ i : Int, i ≠ 16 → t 0 i = t0 0 i) (eo : ∀ c : Nat, c ≠ 0 → t c = t0 c) : Sim (bd (f_X2_become 12 237 s) fun _ s6 => some (s6 12 4, s6)) (bd (f_X12_putsText 0 0 t) fun r s => some (r, s)) := by
  obtain ⟨hO, hC⟩ := hL.ok hT hR
  obtain ⟨l1, ⟨l2, l3, l4⟩, ⟨l5, l6⟩, l7, l8, l9⟩ := hL
  have hst : nSt lw = (stps lw).length := nSt_stps lw
  have h410 := hO.2.1
  obtain ⟨s1, a0, a1, a2, a3, a4, a5, a6, a7⟩ := bec2_e (s := s) (x := 237) (y := 12) (Or.inr (by decide))
  obtain ⟨t1, b1, b2, b3, b4, b5, b6⟩ := m_putsLaw (t := t) (n := lw.length) (m := (stps lw).length) l3 (by omega) ((e0 13 (by decide)).trans l5) ((e0 14 (by decide)).trans l1.2.2.2)
  unfold f_X12_putsText
  rw [if_pos rfl, bd_e a0, bd_e b1, bd_s]
  refine Sim.eq rfl rfl (a1.trans l2) (h.law (lw' := lw) (hC.to hO a1 a3 a4 a5 a6) hO ⟨b3, ?_⟩ (fun c hc => a7 c (by omega)) b6 b2)
  rw [eo 5 (by decide)] at b4
  rw [eo 6 (by decide)] at b5
  refine MA_law (f5 := t0 5) (f6 := t0 6) lw 0 0 l6 l1.2.2.1 (fun k g1 g2 => b4 k g1 (by omega)) (fun x g1 g2 => b5 x (by omega) (by omega))
theorem ok_1 {s t0 t : Mem} {n : Nat} (h : IV s t) (hC : CuR s t0 n) (e0 : ∀ i : Int, i ≠ 16 → t 0 i = t0 0 i) (eo : ∀ c : Nat, c ≠ 0 → t c = t0 c) : Sim (bd (f_X5_forget 77 s) fun _ s9 => bd (f_X1_become 19 244 s9) fun _ s11 => some (s11 19 2, s11)) (bd (f_X12_putsText 0 1 t) fun r s => some (r, s)) := by
  obtain ⟨c1, c2, c3, c4⟩ := hC
  have h1 := h.fo
  unfold f_X5_forget f_X12_putsText f_X12_forgets
  rw [if_neg (by decide), if_neg (by decide), lm_s, lm_s, bd_s, bd_s, if_pos rfl]
  have e2 : mup s 77 2 0 244 = s 244 := mup_o (by decide)
  have e3 : mup s 77 2 0 245 = s 245 := mup_o (by decide)
  have e4 : mup s 77 2 0 246 = s 246 := mup_o (by decide)
  have e7 : mup t 0 4 0 7 = t0 7 := by rw [mup_o (by decide)]; exact eo 7 (by decide)
  obtain ⟨s1, a0, a1, a2, a3, a4⟩ := bec1_e (s := mup s 77 2 0) (x := 244) (y := 19) (Or.inr (by decide))
  obtain ⟨t1, b1, b2, b3, b4, b5⟩ := m_puts (t := mup t 0 4 0) (n := n) c3 (by rw [mup_n (Or.inr (by decide)), e0 15 (by decide)]; exact c2) (a := 60) (b := 101) (c := 2) (by decide) (by decide) (Or.inl rfl)
  rw [bd_e a0, bd_e b1, bd_s]
  rw [e2] at a1
  rw [e3] at a2
  rw [e4] at a3
  rw [e7] at b4
  refine Sim.eq rfl rfl (a1.trans c1) (h1.cu2 ⟨by rw [a1, b3]; exact c1, fun i g1 g2 => ?_⟩ ⟨by rw [b3]; omega, fun i g1 g2 => ?_⟩ (fun c hc => a4 c hc) (fun i g1 g2 => b5 i g1 (by omega)) b2)
  · rw [b3] at g2
    obtain ⟨x1, x2, x3, x4⟩ := c4 i g1 g2
    have y1 := b4 (2 * i) (by omega) (by omega)
    have y2 := b4 (2 * i + 1) (by omega) (by omega)
    have e : 101 + 2 * i + 1 = 101 + (2 * i + 1) := by omega
    rw [e, y1, y2, a2 i g1 (by omega), a3 i g1 (by omega)]
    exact ⟨x1, x2⟩
  · rw [b3] at g2
    obtain ⟨x1, x2, x3, x4⟩ := c4 i g1 g2
    have y1 := b4 (2 * i) (by omega) (by omega)
    have y2 := b4 (2 * i + 1) (by omega) (by omega)
    have e : 101 + 2 * i + 1 = 101 + (2 * i + 1) := by omega
    rw [e, y1, y2]
    exact ⟨x3, x4⟩
theorem ok_2 {s t0 t : Mem} {n : Nat} {bo : Int} (h : IV s t) (hC : PlR bo s t0 n) (e0 : ∀ i : Int, i ≠ 16 → t 0 i = t0 0 i) (eo : ∀ c : Nat, c ≠ 0 → t c = t0 c) : Sim (bd (f_X5_forget 77 s) fun _ s14 => bd (f_X6_become 22 247 s14) fun _ s16 => some (s16 22 4, s16)) (bd (f_X12_putsText 0 2 t) fun r s => some (r, s)) := by
  obtain ⟨c1, c2, c3, -, c4⟩ := hC
  have h1 := h.fo
  unfold f_X5_forget f_X12_putsText f_X12_forgets
  rw [if_neg (by decide), if_neg (by decide), lm_s, lm_s, bd_s, bd_s, if_neg (by decide)]
  have e2 : mup s 77 2 0 247 = s 247 := mup_o (by decide)
  have e3 : mup s 77 2 0 248 = s 248 := mup_o (by decide)
  have e4 : mup s 77 2 0 249 = s 249 := mup_o (by decide)
  have e5 : mup s 77 2 0 250 = s 250 := mup_o (by decide)
  have e6 : mup s 77 2 0 251 = s 251 := mup_o (by decide)
  have e7 : mup t 0 4 0 7 = t0 7 := by rw [mup_o (by decide)]; exact eo 7 (by decide)
  obtain ⟨s1, a0, a1, a2, a3, a4, a5, a6⟩ := bec6_e (s := mup s 77 2 0) (x := 247) (y := 22) (Or.inr (by decide))
  obtain ⟨t1, b1, b2, b3, b4, b5⟩ := m_puts (t := mup t 0 4 0) (n := n) c3 (by rw [mup_n (Or.inr (by decide)), e0 15 (by decide)]; exact c2) (a := 61) (b := 133) (c := 4) (by decide) (by decide) (Or.inr rfl)
  rw [bd_e a0, bd_e b1, bd_s]
  rw [e2] at a1
  rw [e3] at a2
  rw [e4] at a3
  rw [e5] at a4
  rw [e6] at a5
  rw [e7] at b4
  have row : ∀ i : Int, 0 ≤ i → i < n → t1 1 (133 + 4 * i) = t0 7 (4 * i) ∧ t1 1 (133 + 4 * i + 1) = t0 7 (4 * i + 1) ∧ t1 1 (133 + 4 * i + 2) = t0 7 (4 * i + 2) ∧ t1 1 (133 + 4 * i + 3) = t0 7 (4 * i + 3) := by
    intro i g1 g2
    have f1 : 133 + 4 * i + 1 = 133 + (4 * i + 1) := by omega
    have f2 : 133 + 4 * i + 2 = 133 + (4 * i + 2) := by omega
    have f3 : 133 + 4 * i + 3 = 133 + (4 * i + 3) := by omega
    rw [f1, f2, f3]
    exact ⟨b4 _ (by omega) (by omega), b4 _ (by omega) (by omega), b4 _ (by omega) (by omega), b4 _ (by omega) (by omega)⟩
  refine Sim.eq rfl rfl (a1.trans c1) (h1.pl2 ⟨by rw [a1, b3]; exact c1, fun i g1 g2 => ?_⟩ ⟨by rw [b3]; omega, fun i g1 g2 => ?_⟩ (fun c hc => a6 c hc) (fun i g1 g2 => b5 i g1 (by omega)) b2)
  · rw [b3] at g2
    obtain ⟨x1, x2, x3, x4, x5, x6, x7, x8⟩ := c4 i g1 g2
    obtain ⟨y1, y2, y3, y4⟩ := row i g1 g2
    rw [y1, y2, y3, y4, a2 i g1 (by omega), a3 i g1 (by omega), a4 i g1 (by omega), a5 i g1 (by omega)]
    exact ⟨x1, x2, x3, x4, x5⟩
  · rw [b3] at g2
    obtain ⟨x1, x2, x3, x4, x5, x6, x7, x8⟩ := c4 i g1 g2
    obtain ⟨y1, y2, y3, y4⟩ := row i g1 g2
    rw [y2, y3, y4]
    exact ⟨x6, x7, x8⟩
theorem ok_3 {s t0 t : Mem} {n : Nat} (h : IV s t) (hC : VlR s t0 n) (e0 : ∀ i : Int, i ≠ 16 → t 0 i = t0 0 i) (eo : ∀ c : Nat, c ≠ 0 → t c = t0 c) : Sim (bd (f_X9_become 27 252 s) fun _ s18 => some (s18 27 3, s18)) (bd (f_X12_putsText 0 3 t) fun r s => some (r, s)) := by
  have hC' : VlR s t n := by
    obtain ⟨v1, v2, v3, v4⟩ := hC
    exact ⟨v1, v2, (e0 15 (by decide)).trans v3, by rw [eo 7 (by decide)]; exact v4⟩
  obtain ⟨s1, a0, a1, a2, a3, a4, a5⟩ := bec9_e (s := s) (x := 252) (y := 27) (Or.inr (by decide))
  obtain ⟨t1, b1, b2, b3, b4, b5, b6⟩ := m_putsVil hC'
  unfold f_X12_putsText
  rw [if_neg (by decide), if_pos rfl, bd_e a0, bd_e b1, bd_s]
  refine Sim.eq rfl rfl (a1.trans hC'.1.1) (h.vi2 ⟨by rw [a1, b4]; exact hC'.1.1, fun v g1 g2 => ?_⟩ b5 (fun c hc => a5 c hc) b3 b2)
  obtain ⟨x1, x2⟩ := b6 v g1 g2
  rw [a2 v g1 g2, a3 v g1 g2]
  exact ⟨x1, x2⟩
theorem text_fin {k : Int} {o1 o2 : Res} {s t s1 t1 : Mem} {Q : Mem → Mem → Prop} {C : Mem → Res} (h : IV s t) (hT : Two o1 o2 s1 t1 Q) (q : ∀ c : Nat, c < 236 → s1 c = s c) (q4 : s1 236 4 = 0 ∧ s1 236 5 = 0 ∧ s1 236 6 = -1) (m : ∀ c : Nat, c ≠ 0 → t1 c = t c) (m0 : t1 0 4 = t 0 4 ∧ t1 0 5 = t 0 5 ∧ t1 0 23 = 0 ∧ t1 0 25 = -1)
    (hok : ∀ s2 t2 : Mem, IV s2 (mup t2 0 16 0) → Q s2 t2 → FM t1 t2 → Sim (C s2) (bd (f_X12_putsText 0 k (mup t2 0 16 0)) fun r s => some (r, s))) :
    Sim (bd o1 fun r1 s2 => if r1 = 0 then (some (-1, s2)) else C s2) (bd o2 fun y12 s13 => lm (mup s13 0 16 0) fun s14 => if y12 = 0 then (lm (mup s14 0 23 (s14 0 21)) fun s16 => lm (mup s16 0 25 (s16 0 22)) fun s17 => some (-1, s17)) else (bd (f_X12_putsText 0 k s14) fun r18 s19 => some (r18, s19))) := by
  rcases hT with ⟨s2, t2, a1, a2, a3, a4, a5⟩ | ⟨s2, t2, a1, a2, a3, a4, a5⟩
  · rw [bd_e a1, bd_e a2, if_neg (by decide), lm_s, if_neg (by decide)]
    refine hok s2 t2 (h.rd (fun c hc => (a3.1 c hc).trans (q c hc)) (a3.2.1.trans q4.1) (mup_e rfl rfl) ?_ ?_ (fun c hc => ?_) ?_ ?_) a5 a4
    · rw [mup_n (Or.inr (by decide)), a3.2.2.1, a4.2 23 (by decide), q4.2.1, m0.2.2.1]
    · rw [mup_n (Or.inr (by decide)), a3.2.2.2, a4.2 25 (by decide), q4.2.2, m0.2.2.2]
    · rw [mup_o (by omega), a4.1 c (by omega) (by omega) (by omega) (by omega), m c (by omega)]
    · rw [mup_n (Or.inr (by decide)), a4.2 4 (by decide), m0.1]
    · rw [mup_n (Or.inr (by decide)), a4.2 5 (by decide), m0.2.1]
  · rw [bd_e a1, bd_e a2, if_pos rfl, lm_s, if_pos rfl, lm_s, lm_s]
    refine Sim.eq rfl rfl rfl (h.rd (fun c hc => (a4.1 c hc).trans (q c hc)) (a4.2.trans q4.1) ?_ ?_ ?_ (fun c hc => ?_) ?_ ?_)
    · rw [mup_n (Or.inr (by decide)), mup_n (Or.inr (by decide)), mup_e rfl rfl]
    · rw [mup_n (Or.inr (by decide)), mup_e rfl rfl, mup_n (Or.inr (by decide))]
      exact a3.1
    · rw [mup_e rfl rfl, mup_n (Or.inr (by decide)), mup_n (Or.inr (by decide))]
      exact a3.2
    · rw [mup_o (by omega), mup_o (by omega), mup_o (by omega), a5.1 c (by omega) (by omega) (by omega) (by omega), m c (by omega)]
    · rw [mup_n (Or.inr (by decide)), mup_n (Or.inr (by decide)), mup_n (Or.inr (by decide)), a5.2 4 (by decide), m0.1]
    · rw [mup_n (Or.inr (by decide)), mup_n (Or.inr (by decide)), mup_n (Or.inr (by decide)), a5.2 5 (by decide), m0.2.1]
theorem k_text {s t : Mem} (h : IV s t) (k : Int) : Sim (f_X11_text 0 k s) (f_X12_text 0 k t) := by
  have hR := h.2.2.2.1
  have hbo := h.wn.boats
  have hb : s 2 8 = t 1 58 := h.nr.boats
  obtain ⟨r1, r2, r3, r4, r5⟩ := hR
  obtain ⟨L, hL⟩ : ∃ L : Nat, t 0 16 = L := ⟨(t 0 16).toNat, by omega⟩
  rw [hL] at r1 r2 r3
  have hL4 : L ≤ 400 := by omega
  have hBs : Byt (s 256) L := fun i g1 g2 => by
    rw [(r3 i g1 g2).1]
    exact (r3 i g1 g2).2
  have hBt : Byt (t 8) L := fun i g1 g2 => (r3 i g1 g2).2
  have hTL : TL (s 256) L 0 = TL (t 8) L 0 := TL_cg (fun i g1 g2 => (r3 i g1 g2).1) 0
  obtain ⟨cn, cy⟩ := c_pre r1 hL4 hBs k (s 2 8)
  unfold f_X11_text f_X12_text
  simp only [Nat.zero_add, Nat.reduceAdd]
  rw [lm_s, lm_s, bd_e (e_isIn _ _ _ _), bI_z]
  by_cases hk : 0 ≤ k ∧ k ≤ 3
  · obtain ⟨s1, a1, ⟨a2, a3, a4, a5, a6, a7⟩, a8⟩ := cy hk
    rw [hTL] at a4 a8
    rw [if_pos hk, lm_s, lm_s, lm_s, a1]
    have m16 : mup (mup (mup (mup (mup t 0 23 0) 0 25 (-1)) 0 21 0) 0 17 0) 0 12 k 0 16 = L := by
      rw [mup_n (Or.inr (by decide)), mup_n (Or.inr (by decide)), mup_n (Or.inr (by decide)), mup_n (Or.inr (by decide)), mup_n (Or.inr (by decide))]
      exact hL
    have m8 : mup (mup (mup (mup (mup t 0 23 0) 0 25 (-1)) 0 21 0) 0 17 0) 0 12 k 8 = t 8 := by
      rw [mup_o (by decide), mup_o (by decide), mup_o (by decide), mup_o (by decide), mup_o (by decide)]
    have m12 : mup (mup (mup (mup (mup t 0 23 0) 0 25 (-1)) 0 21 0) 0 17 0) 0 12 k 0 12 = k := mup_e rfl rfl
    obtain ⟨t1, b1, b2, b3⟩ := m_next (t := mup (mup (mup (mup (mup t 0 23 0) 0 25 (-1)) 0 21 0) 0 17 0) 0 12 k) (L := L) (p := 0) m16 hL4 (by rw [m8]; exact hBt) (by rw [m12]; exact hk) (by rw [mup_n (Or.inr (by decide)), mup_e rfl rfl]; rfl) (Nat.zero_le _)
    rw [m8] at b3
    rw [bd_e b1]
    have hc : PC (TL (t 8) L 0) (t 8) L k := ⟨rfl, hL4, a8, hBt, hk⟩
    have hP : PT (TL (t 8) L 0) (t 8) L k s1 t1 (TL (t 8) L 0) := ⟨a4, ⟨[], rfl, a5⟩, b3, (b2.2 16 (by decide) (by decide) (by decide) (by decide)).trans m16, (b2.1 8 (by decide)).trans m8, (b2.2 12 (by decide) (by decide) (by decide) (by decide)).trans m12⟩
    have mo : ∀ c : Nat, c ≠ 0 → t1 c = t c := fun c hc => by rw [b2.1 c hc, mup_o hc, mup_o hc, mup_o hc, mup_o hc, mup_o hc]
    have m0 : t1 0 4 = t 0 4 ∧ t1 0 5 = t 0 5 ∧ t1 0 23 = 0 ∧ t1 0 25 = -1 := by
      refine ⟨?_, ?_, ?_, ?_⟩
      · rw [b2.2 4 (by decide) (by decide) (by decide) (by decide), mup_n (Or.inr (by decide)), mup_n (Or.inr (by decide)), mup_n (Or.inr (by decide)), mup_n (Or.inr (by decide)), mup_n (Or.inr (by decide))]
      · rw [b2.2 5 (by decide) (by decide) (by decide) (by decide), mup_n (Or.inr (by decide)), mup_n (Or.inr (by decide)), mup_n (Or.inr (by decide)), mup_n (Or.inr (by decide)), mup_n (Or.inr (by decide))]
      · rw [b2.2 23 (by decide) (by decide) (by decide) (by decide), mup_n (Or.inr (by decide)), mup_n (Or.inr (by decide)), mup_n (Or.inr (by decide)), mup_n (Or.inr (by decide)), mup_e rfl rfl]
      · rw [b2.2 25 (by decide) (by decide) (by decide) (by decide), mup_n (Or.inr (by decide)), mup_n (Or.inr (by decide)), mup_n (Or.inr (by decide)), mup_e rfl rfl]
    have f0 : ∀ (t2 : Mem) (i : Int), i ≠ 16 → mup t2 0 16 0 0 i = t2 0 i := fun t2 i hi => mup_n (Or.inr hi)
    have fo : ∀ (t2 : Mem) (c : Nat), c ≠ 0 → mup t2 0 16 0 c = t2 c := fun t2 c hc => mup_o hc
    rw [jn_s]
    rcases (show k = 0 ∨ k = 1 ∨ k = 2 ∨ k = 3 by omega) with rfl | rfl | rfl | rfl
    · rw [if_pos rfl]
      exact text_fin (C := fun s2 => bd (f_X2_become 12 237 s2) fun _ s6 => some (s6 12 4, s6)) h (rd_0 hc hP a6.1 a6.2.1 (s 2 8)) a2 a3 mo m0 (fun s2 t2 hi ⟨lw, R', u1, u2⟩ _ => ok_0 a8 hi u1 u2 (f0 t2) (fo t2))
    · rw [if_neg (by decide)]
      exact text_fin (C := fun s2 => bd (f_X5_forget 77 s2) fun _ s9 => bd (f_X1_become 19 244 s9) fun _ s11 => some (s11 19 2, s11)) h (rd_1 hc hP a6.2.2.1 (s 2 8)) a2 a3 mo m0 (fun s2 t2 hi ⟨n, u⟩ _ => ok_1 hi u (f0 t2) (fo t2))
    · rw [if_neg (by decide)]
      exact text_fin (C := fun s2 => bd (f_X5_forget 77 s2) fun _ s14 => bd (f_X6_become 22 247 s14) fun _ s16 => some (s16 22 4, s16)) h (rd_2 hc hP a6.2.2.2.1 (bo := s 2 8) (by omega) (by rw [mo 1 (by decide)]; exact hb.symm)) a2 a3 mo m0 (fun s2 t2 hi ⟨n, u⟩ _ => ok_2 hi u (f0 t2) (fo t2))
    · rw [if_neg (by decide)]
      exact text_fin (C := fun s2 => bd (f_X9_become 27 252 s2) fun _ s18 => some (s18 27 3, s18)) h (rd_3 hc hP a6.2.2.2.2 a7 (s 2 8)) a2 a3 mo m0 (fun s2 t2 hi ⟨n, u⟩ _ => ok_3 hi u (f0 t2) (fo t2))
  · obtain ⟨s1, a1, a2, a3, a4, a5⟩ := cn hk
    rw [if_neg hk, bd_e a1, if_pos rfl, lm_s]
    refine Sim.eq rfl rfl rfl (h.rd a2 a3 (mup_e rfl rfl) ?_ ?_ (fun c hc => ?_) ?_ ?_)
    · rw [mup_n (Or.inr (by decide)), mup_n (Or.inr (by decide)), mup_e rfl rfl]
      exact a4
    · rw [mup_n (Or.inr (by decide)), mup_e rfl rfl]
      exact a5
    · rw [mup_o (by omega), mup_o (by omega), mup_o (by omega)]
    · rw [mup_n (Or.inr (by decide)), mup_n (Or.inr (by decide)), mup_n (Or.inr (by decide))]
    · rw [mup_n (Or.inr (by decide)), mup_n (Or.inr (by decide)), mup_n (Or.inr (by decide))]

/-! ===== L3: what holds, after a change of one piece ===== -/
theorem IV.nt {s s' t t' : Mem} (h : IV s t) (hN : NR s' 2 (t' 1)) (hB : BkC s' 11 (t' 1)) (hW : WN (t' 1)) (h0 : t' 1 0 ≤ 9999) (hP : PastC s' (t' 0 4) (t' 3) (t' 1)) (q : ∀ c : Nat, ¬ (2 ≤ c ∧ c ≤ 11) → c ≠ 17 → c ≠ 18 → ¬ (77 ≤ c ∧ c ≤ 132) → ¬ (135 ≤ c ∧ c ≤ 235) → s' c = s c) (qw : ∀ i : Int, (59 ≤ i ∧ i < 65) ∨ (101 ≤ i ∧ i < 248) ∨ 848 ≤ i → t' 1 i = t 1 i) (q2 : ∀ c : Nat, c ≠ 0 → c ≠ 1 → c ≠ 3 → c ≠ 4 → c < 9 → t' c = t c) (q0 : ∀ i : Int, i = 5 ∨ i = 16 ∨ i = 23 ∨ i = 25 → t' 0 i = t 0 i) : IV s' t' := by
  obtain ⟨⟨lw, ⟨h1, h2, h3, h4, h5, h6, h7, h8⟩, hWW⟩, hI, -, hR, hT⟩ := h
  obtain ⟨g1, g2, g3, g4, g5, g6, g7, g8, g9⟩ := hWW
  refine ⟨⟨lw, ⟨hN, hB, h3.at (fun c q1 q2 => q c (by omega) (by omega) (by omega) (by omega) (by omega)), h4.of (fun c q1 q2 => q c (by omega) (by omega) (by omega) (by omega) (by omega)) (fun i hi => qw i (by omega)) g5.1.2, h5.of (fun c q1 q2 => q c (by omega) (by omega) (by omega) (by omega) (by omega)) (fun i hi => qw i (by omega)) g6.1.2, h6.of (fun c q1 q2 => q c (by omega) (by omega) (by omega) (by omega) (by omega)) (fun i hi => qw i (by omega)), h7.of (fun c q1 q2 => q c (by omega) (by omega) (by omega) (by omega) (by omega)) (fun i hi => qw i (by omega)) g8.1.2, h8.of (fun c q1 q2 => q c (by omega) (by omega) (by omega) (by omega) (by omega)) (fun i hi => qw i (by omega))⟩, hW, h0, g3.of (fun i hi => qw i (by omega)), g4, g5.of (fun i hi => qw i (by omega)), g6.of (fun i hi => qw i (by omega)), g7.of (fun i hi => qw i (by omega)), g8.of (fun i hi => qw i (by omega)), g9.of (fun i hi => qw i (by omega))⟩, ?_, hP, ?_, ?_⟩
  · exact hI.of (by rw [q 0 (by decide) (by decide) (by decide) (by decide) (by decide)]) (q0 5 (by decide)) (q2 2 (by decide) (by decide) (by decide) (by decide) (by decide)) (fun c a1 a2 => q c (by omega) (by omega) (by omega) (by omega) (by omega))
  · exact hR.of (q _ (by decide) (by decide) (by decide) (by decide) (by decide)) (q _ (by decide) (by decide) (by decide) (by decide) (by decide)) (q0 16 (by decide)) (q0 23 (by decide)) (q0 25 (by decide)) (q2 8 (by decide) (by decide) (by decide) (by decide) (by decide))
  · unfold ThC at hT ⊢
    rw [q 133 (by decide) (by decide) (by decide) (by decide) (by decide)]
    exact hT
theorem IV.ex {s t : Mem} (h : IV s t) : ∃ lw : List Lin, WX s 1 (t 1) lw ∧ WW (t 1) lw := h.1
theorem IV.nr {s t : Mem} (h : IV s t) : NR s 2 (t 1) := by
  obtain ⟨lw, hX, hW⟩ := h.1
  exact hX.1
theorem IV.bk {s t : Mem} (h : IV s t) : BkC s 11 (t 1) := by
  obtain ⟨lw, hX, hW⟩ := h.1
  exact hX.2.1
theorem IV.wn {s t : Mem} (h : IV s t) : WN (t 1) := by
  obtain ⟨lw, hX, hW⟩ := h.1
  exact hW.1
theorem IV.h0 {s t : Mem} (h : IV s t) : t 1 0 ≤ 9999 := by
  obtain ⟨lw, hX, hW⟩ := h.1
  exact hW.2.1
theorem IV.vil {s t : Mem} (h : IV s t) : VilC s 27 (t 1) ∧ WV (t 1) := by
  obtain ⟨lw, hX, hW⟩ := h.1
  exact ⟨hX.2.2.2.2.2.1, hW.2.2.2.2.2.2.1⟩
theorem IV.cur {s t : Mem} (h : IV s t) : CurC s 19 (t 1) ∧ WC (t 1) := by
  obtain ⟨lw, hX, hW⟩ := h.1
  exact ⟨hX.2.2.2.1, hW.2.2.2.2.1⟩
theorem IV.plan {s t : Mem} (h : IV s t) : PlanC s 22 (t 1) ∧ WPl (t 1) := by
  obtain ⟨lw, hX, hW⟩ := h.1
  exact ⟨hX.2.2.2.2.1, hW.2.2.2.2.2.1⟩
theorem IV.clu {s t : Mem} (h : IV s t) : CluC s 31 (t 1) ∧ WK (t 1) := by
  obtain ⟨lw, hX, hW⟩ := h.1
  exact ⟨hX.2.2.2.2.2.2.1, hW.2.2.2.2.2.2.2.1⟩
theorem IV.led {s t : Mem} (h : IV s t) : LedC s 36 (t 1) ∧ WM (t 1) := by
  obtain ⟨lw, hX, hW⟩ := h.1
  exact ⟨hX.2.2.2.2.2.2.2, hW.2.2.2.2.2.2.2.2⟩
/-- cells 1 to 38 and the row 1 alone have changed; neither the night's cells -/
theorem IV.wo {s s' t t' : Mem} {lw : List Lin} (h : IV s t) (hX : WX s' 1 (t' 1) lw) (hW : WW (t' 1) lw) (q : ∀ c : Nat, ¬ (1 ≤ c ∧ c ≤ 38) → s' c = s c) (qw : ∀ i : Int, (57 ≤ i ∧ i < 59) ∨ (65 ≤ i ∧ i < 101) → t' 1 i = t 1 i) (q2 : ∀ c : Nat, c ≠ 1 → t' c = t c) : IV s' t' := by
  obtain ⟨-, hI, hP, hR, hT⟩ := h
  refine ⟨⟨lw, hX, hW⟩, ?_, ?_, ?_, ?_⟩
  · exact hI.of (by rw [q 0 (by decide)]) (by rw [q2 0 (by decide)]) (q2 2 (by decide)) (fun c a1 a2 => q c (by omega))
  · rw [q2 0 (by decide), q2 3 (by decide)]
    exact hP.of (fun c a1 a2 => q c (by omega)) (fun _ _ _ => rfl) qw
  · exact hR.of (q _ (by decide)) (q _ (by decide)) (by rw [q2 0 (by decide)]) (by rw [q2 0 (by decide)]) (by rw [q2 0 (by decide)]) (q2 8 (by decide))
  · unfold ThC at hT ⊢
    rw [q 133 (by decide)]
    exact hT
theorem WX.clu {s s' : Mem} {w w' : Int → Int} {lw : List Lin} (hX : WX s 1 w lw) (hW : WW w lw) (hK : CluC s' 31 w') (hk : WK w') (q : ∀ c : Nat, c ≠ 31 → c ≠ 32 → c ≠ 33 → s' c = s c) (qw : ∀ i : Int, i ≠ 63 → ¬ (222 ≤ i ∧ i < 238) → w' i = w i) : WX s' 1 w' lw ∧ WW w' lw := by
  obtain ⟨h1, h2, h3, h4, h5, h6, h7, h8⟩ := hX
  obtain ⟨g1, g2, g3, g4, g5, g6, g7, g8, g9⟩ := hW
  exact ⟨⟨(h1.of (fun c q1 q2 => q c (by omega) (by omega) (by omega))).cg2 (fun i hi => qw i (by omega) (by omega)), h2.of (q 11 (by omega) (by omega) (by omega)) (fun i g1 g2 => qw i (by omega) (by omega)), h3.at (fun c q1 q2 => q c (by omega) (by omega) (by omega)), h4.of (fun c q1 q2 => q c (by omega) (by omega) (by omega)) (fun i hi => qw i (by omega) (by omega)) g5.1.2, h5.of (fun c q1 q2 => q c (by omega) (by omega) (by omega)) (fun i hi => qw i (by omega) (by omega)) g6.1.2, h6.of (fun c q1 q2 => q c (by omega) (by omega) (by omega)) (fun i hi => qw i (by omega) (by omega)), hK, h8.of (fun c q1 q2 => q c (by omega) (by omega) (by omega)) (fun i hi => qw i (by omega) (by omega))⟩, g1.cg2 (fun i hi => qw i (by omega) (by omega)), (by rw [qw 0 (by omega) (by omega)]; exact g2), g3.of (fun i hi => qw i (by omega) (by omega)), g4, g5.of (fun i hi => qw i (by omega) (by omega)), g6.of (fun i hi => qw i (by omega) (by omega)), g7.of (fun i hi => qw i (by omega) (by omega)), hk, g9.of (fun i hi => qw i (by omega) (by omega))⟩
theorem WX.led {s s' : Mem} {w w' : Int → Int} {lw : List Lin} (hX : WX s 1 w lw) (hW : WW w lw) (hK : LedC s' 36 w') (hk : WM w') (q : ∀ c : Nat, c ≠ 36 → c ≠ 37 → c ≠ 38 → s' c = s c) (qw : ∀ i : Int, i ≠ 64 → ¬ (238 ≤ i ∧ i < 248) → w' i = w i) : WX s' 1 w' lw ∧ WW w' lw := by
  obtain ⟨h1, h2, h3, h4, h5, h6, h7, h8⟩ := hX
  obtain ⟨g1, g2, g3, g4, g5, g6, g7, g8, g9⟩ := hW
  exact ⟨⟨(h1.of (fun c q1 q2 => q c (by omega) (by omega) (by omega))).cg2 (fun i hi => qw i (by omega) (by omega)), h2.of (q 11 (by omega) (by omega) (by omega)) (fun i g1 g2 => qw i (by omega) (by omega)), h3.at (fun c q1 q2 => q c (by omega) (by omega) (by omega)), h4.of (fun c q1 q2 => q c (by omega) (by omega) (by omega)) (fun i hi => qw i (by omega) (by omega)) g5.1.2, h5.of (fun c q1 q2 => q c (by omega) (by omega) (by omega)) (fun i hi => qw i (by omega) (by omega)) g6.1.2, h6.of (fun c q1 q2 => q c (by omega) (by omega) (by omega)) (fun i hi => qw i (by omega) (by omega)), h7.of (fun c q1 q2 => q c (by omega) (by omega) (by omega)) (fun i hi => qw i (by omega) (by omega)) g8.1.2, hK⟩, g1.cg2 (fun i hi => qw i (by omega) (by omega)), (by rw [qw 0 (by omega) (by omega)]; exact g2), g3.of (fun i hi => qw i (by omega) (by omega)), g4, g5.of (fun i hi => qw i (by omega) (by omega)), g6.of (fun i hi => qw i (by omega) (by omega)), g7.of (fun i hi => qw i (by omega) (by omega)), g8.of (fun i hi => qw i (by omega) (by omega)), hk⟩
/-- a change of the night after which nothing can be undone -/
theorem IV.fg {s s' t t' : Mem} (h : IV s t) (hN : NR s' 2 (t' 1)) (hB : BkC s' 11 (t' 1)) (hW : WN (t' 1)) (h0 : t' 1 0 ≤ 9999) (h77 : s' 77 = up (s 77) 2 0) (h4 : t' 0 = up (t 0) 4 0) (q : ∀ c : Nat, ¬ (2 ≤ c ∧ c ≤ 11) → c ≠ 77 → s' c = s c) (qw : ∀ i : Int, (59 ≤ i ∧ i < 65) ∨ (101 ≤ i ∧ i < 248) ∨ 848 ≤ i → t' 1 i = t 1 i) (q2 : ∀ c : Nat, c ≠ 0 → c ≠ 1 → t' c = t c) : IV s' t' := by
  refine h.nt hN hB hW h0 ?_ (fun c a1 _ _ a2 _ => q c a1 (by omega)) qw (fun c a0 a1 _ _ _ => q2 c a0 a1) (fun i hi => by rw [h4, up_ne (by omega)])
  rw [h4, up_eq rfl]
  exact PastC.none (by rw [h77, up_eq rfl]) (by rw [h77, up_ne (by decide)]; exact h.2.2.1.2.2.1)

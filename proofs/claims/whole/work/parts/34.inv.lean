/-! ===== L3: what holds between calls ===== -/
def VilC (s : Mem) (a : Nat) (w : Int → Int) : Prop := s a 3 = w 62 ∧ ∀ v : Int, 0 ≤ v → v < 12 → s (a + 1) v = w (198 + v) ∧ s (a + 2) v = w (210 + v)
def WV (w : Int → Int) : Prop := (0 ≤ w 62 ∧ w 62 ≤ 12) ∧ (0 ≤ w 197 ∧ w 197 < 4096) ∧ ∀ v : Int, 0 ≤ v → v < 12 → (0 ≤ w (198 + v) ∧ w (198 + v) ≤ 99) ∧ (bt (w 197) v = 1 ↔ 0 < w (198 + v)) ∧ (0 ≤ w (210 + v) ∧ w (210 + v) < 4096) ∧ iand (w (210 + v)) (w 197) = w (210 + v)
def CluC (s : Mem) (a : Nat) (w : Int → Int) : Prop := s a 4 = w 63 ∧ ∀ i : Int, 0 ≤ i → i < w 63 → s (a + 1) i = w (222 + 2 * i) ∧ s (a + 2) i = w (222 + 2 * i + 1)
def WK (w : Int → Int) : Prop := (0 ≤ w 63 ∧ w 63 ≤ 8) ∧ ∀ i : Int, 0 ≤ i → i < w 63 → (0 ≤ w (222 + 2 * i) ∧ w (222 + 2 * i) ≤ 30) ∧ (0 ≤ w (222 + 2 * i + 1) ∧ w (222 + 2 * i + 1) ≤ 1000)
def LedC (s : Mem) (a : Nat) (w : Int → Int) : Prop := s a 2 = w 64 ∧ (∀ i : Int, 0 ≤ i → i < 4 → s (a + 1) i = w (238 + i)) ∧ (∀ i : Int, 0 ≤ i → i < 6 → s (a + 2) i = w (242 + i))
def WM (w : Int → Int) : Prop := (0 ≤ w 64 ∧ w 64 ≤ 6) ∧ (∀ i : Int, 0 ≤ i → i < 4 → 0 ≤ w (238 + i) ∧ w (238 + i) ≤ 99) ∧ (∀ i : Int, 0 ≤ i → i < w 64 → 1 ≤ w (242 + i) ∧ w (242 + i) ≤ 999)
def BkC (s : Mem) (a : Nat) (w : Int → Int) : Prop := ∀ i : Int, 0 ≤ i → i < 600 → s a i = w (248 + i)
/-- the class's World at a is the row w -/
def WX (s : Mem) (a : Nat) (w : Int → Int) (lw : List Lin) : Prop := NR s (a + 1) w ∧ BkC s (a + 10) w ∧ LawC s (a + 11) lw ∧ CurC s (a + 18) w ∧ PlanC s (a + 21) w ∧ VilC s (a + 26) w ∧ CluC s (a + 30) w ∧ LedC s (a + 35) w
def WW (w : Int → Int) (lw : List Lin) : Prop := WN w ∧ w 0 ≤ 9999 ∧ LawM w lw ∧ OkW lw ∧ WC w ∧ WPl w ∧ WV w ∧ WK w ∧ WM w
/-- a kept night, as a row -/
def kr (t3 w : Int → Int) (i : Int) : Int → Int := fun j => if 0 ≤ j ∧ j < 57 then t3 (57 * i + j) else w j
def slot (f i : Int) : Nat := 79 + 9 * ((f + i).tmod 6).toNat
def PastC (s : Mem) (m : Int) (t3 w : Int → Int) : Prop := s 77 2 = m ∧ (0 ≤ m ∧ m ≤ 6) ∧ (0 ≤ s 77 1 ∧ s 77 1 ≤ 5) ∧ ∀ i : Int, 0 ≤ i → i < m → NR s (slot (s 77 1) i) (kr t3 w i) ∧ WN (kr t3 w i) ∧ kr t3 w i 0 ≤ 9999
def RdC (s t : Mem) : Prop := s 236 4 = t 0 16 ∧ (0 ≤ t 0 16 ∧ t 0 16 ≤ 400) ∧ (∀ i : Int, 0 ≤ i → i < t 0 16 → s 256 i = t 8 i ∧ 0 ≤ t 8 i ∧ t 8 i ≤ 255) ∧ s 236 5 = t 0 23 ∧ s 236 6 = t 0 25
def ThC (s : Mem) : Prop := (s 133 1 = 135 ∧ s 133 2 = 136) ∨ (s 133 1 = 136 ∧ s 133 2 = 135)
def ImC (s t : Mem) : Prop := s 0 5 = t 0 5 ∧ (t 0 5 ≠ 0 → t 0 5 = 1 ∧ ∃ lw : List Lin, WX s 39 (t 2) lw ∧ WW (t 2) lw)
def IV (s t : Mem) : Prop := (∃ lw : List Lin, WX s 1 (t 1) lw ∧ WW (t 1) lw) ∧ ImC s t ∧ PastC s (t 0 4) (t 3) (t 1) ∧ RdC s t ∧ ThC s
/-- alike answers -/
def Sim (o1 o2 : Res) : Prop := ∃ (r : Int) (s t : Mem), o1 = some (r, s) ∧ o2 = some (r, t) ∧ IV s t
/-! pieces under other memories -/
theorem NR.cg2 {s : Mem} {n : Nat} {w w' : Int → Int} (h : NR s n w) (q : ∀ i : Int, (0 ≤ i ∧ i < 59) ∨ (65 ≤ i ∧ i < 101) → w' i = w i) : NR s n w' := by
  obtain ⟨⟨a0, a1, a2, a3, a4, a5, a6, a7, a8⟩, h2, h3⟩ := h
  refine ⟨⟨by rw [q _ (by omega)]; exact a0, by rw [q _ (by omega)]; exact a1, by rw [q _ (by omega)]; exact a2, by rw [q _ (by omega)]; exact a3, by rw [q _ (by omega)]; exact a4, by rw [q _ (by omega)]; exact a5, by rw [q _ (by omega)]; exact a6, by rw [q _ (by omega)]; exact a7, by rw [q _ (by omega)]; exact a8⟩, fun b hb1 hb2 => ?_, fun r hr1 hr2 => ?_⟩
  · obtain ⟨b0, b1, b2, b3, b4, b5, b6⟩ := h2 b hb1 hb2
    exact ⟨by rw [q _ (by omega)]; exact b0, by rw [q _ (by omega)]; exact b1, by rw [q _ (by omega)]; exact b2, by rw [q _ (by omega)]; exact b3, by rw [q _ (by omega)]; exact b4, by rw [q _ (by omega)]; exact b5, by rw [q _ (by omega)]; exact b6⟩
  · rw [q _ (by omega)]
    exact h3 r hr1 hr2
theorem WN.cg2 {w w' : Int → Int} (h : WN w) (q : ∀ i : Int, (0 ≤ i ∧ i < 59) ∨ (65 ≤ i ∧ i < 101) → w' i = w i) : WN w' := by
  obtain ⟨⟨a0, a1, a2, a3, a4, a5, a6, a7, a8⟩, h2, h3⟩ := h
  refine ⟨⟨by rw [q _ (by omega)]; exact a0, by rw [q _ (by omega)]; exact a1, by rw [q _ (by omega)]; exact a2, by rw [q _ (by omega)]; exact a3, by rw [q _ (by omega)]; exact a4, by rw [q _ (by omega)]; exact a5, by rw [q _ (by omega)]; exact a6, by rw [q _ (by omega)]; exact a7, by rw [q _ (by omega)]; exact a8⟩, fun b hb1 hb2 => ?_, fun r hr1 hr2 => ?_⟩
  · obtain ⟨b0, b1, b2, b3, b4, b5, b6⟩ := h2 b hb1 hb2
    exact ⟨by rw [q _ (by omega)]; exact b0, by rw [q _ (by omega)]; exact b1, by rw [q _ (by omega)]; exact b2, by rw [q _ (by omega)]; exact b3, by rw [q _ (by omega)]; exact b4, by rw [q _ (by omega)]; exact b5, by rw [q _ (by omega)]; exact b6⟩
  · rw [q _ (by omega)]
    exact h3 r hr1 hr2
theorem LwC_cg {f1 f2 f3 f4 g1 g2 g3 g4 : Int → Int} (q1 : ∀ i : Int, 0 ≤ i → i < 16 → g1 i = f1 i) (q2 : ∀ i : Int, 0 ≤ i → i < 16 → g2 i = f2 i) (q3 : ∀ i : Int, 0 ≤ i → i < 16 → g3 i = f3 i) (q4 : ∀ i : Int, 0 ≤ i → i < 400 → g4 i = f4 i) : ∀ (r : List Lin) (i p : Int), 0 ≤ i → i + r.length ≤ 16 → 0 ≤ p → p + nCo r ≤ 400 → LwC f1 f2 f3 f4 i p r → LwC g1 g2 g3 g4 i p r
  | [], _, _, _, _, _, _, _ => trivial
  | l :: r, i, p, h1, h2, h3, h4, h => by
    have e : ((l :: r).length : Int) = (r.length : Int) + 1 := by rw [List.length_cons]; omega
    have e2 : (nCo (l :: r) : Int) = ((trs l.2.1).length : Int) + (trs l.2.2).length + nCo r := by
      show (((trs l.2.1).length + (trs l.2.2).length + nCo r : Nat) : Int) = _
      omega
    obtain ⟨a1, a2, a3, a4, a5, a6⟩ := h
    refine ⟨by rw [q1 i h1 (by omega)]; exact a1, by rw [q2 i h1 (by omega)]; exact a2, by rw [q3 i h1 (by omega)]; exact a3, LsC_cg q4 _ p h3 (by omega) a4, LsC_cg q4 _ _ (by omega) (by omega) a5, LwC_cg q1 q2 q3 q4 r (i + 1) _ (by omega) (by omega) (by omega) (by omega) a6⟩
theorem LawC.to {s s' : Mem} {a a' : Nat} {lw : List Lin} (h : LawC s a lw) (hO : OkW lw) (q0 : s' a' 4 = s a 4) (q1 : ∀ i : Int, 0 ≤ i → i < 16 → s' (a' + 1) i = s (a + 1) i) (q2 : ∀ i : Int, 0 ≤ i → i < 16 → s' (a' + 2) i = s (a + 2) i) (q3 : ∀ i : Int, 0 ≤ i → i < 16 → s' (a' + 3) i = s (a + 3) i) (q4 : ∀ i : Int, 0 ≤ i → i < 400 → s' (a' + 4) i = s (a + 4) i) : LawC s' a' lw :=
  ⟨q0.trans h.1, LwC_cg q1 q2 q3 q4 lw 0 0 (by decide) (by have := hO.1; omega) (by decide) (by have := hO.2.2.1; omega) h.2⟩
theorem LawC.at {s s' : Mem} {a : Nat} {lw : List Lin} (h : LawC s a lw) (q : ∀ c : Nat, a ≤ c → c ≤ a + 4 → s' c = s c) : LawC s' a lw := by
  unfold LawC at h ⊢
  rw [q a (by omega) (by omega), q (a + 1) (by omega) (by omega), q (a + 2) (by omega) (by omega), q (a + 3) (by omega) (by omega), q (a + 4) (by omega) (by omega)]
  exact h
theorem VilC.of {s s' : Mem} {w w' : Int → Int} {a : Nat} (h : VilC s a w) (q : ∀ c : Nat, a ≤ c → c ≤ a + 2 → s' c = s c) (q2 : ∀ i : Int, i = 62 ∨ (197 ≤ i ∧ i < 222) → w' i = w i) : VilC s' a w' := by
  unfold VilC at h ⊢
  rw [q a (by omega) (by omega), q (a + 1) (by omega) (by omega), q (a + 2) (by omega) (by omega), q2 62 (Or.inl rfl)]
  refine ⟨h.1, fun i h1 h2 => ?_⟩
  rw [q2 _ (Or.inr (by omega)), q2 _ (Or.inr (by omega))]
  exact h.2 i h1 h2
theorem CluC.of {s s' : Mem} {w w' : Int → Int} {a : Nat} (h : CluC s a w) (q : ∀ c : Nat, a ≤ c → c ≤ a + 2 → s' c = s c) (q2 : ∀ i : Int, i = 63 ∨ (222 ≤ i ∧ i < 238) → w' i = w i) (h8 : w 63 ≤ 8) : CluC s' a w' := by
  unfold CluC at h ⊢
  rw [q a (by omega) (by omega), q (a + 1) (by omega) (by omega), q (a + 2) (by omega) (by omega), q2 63 (Or.inl rfl)]
  refine ⟨h.1, fun i h1 h2 => ?_⟩
  rw [q2 _ (Or.inr (by omega)), q2 _ (Or.inr (by omega))]
  exact h.2 i h1 h2
theorem LedC.of {s s' : Mem} {w w' : Int → Int} {a : Nat} (h : LedC s a w) (q : ∀ c : Nat, a ≤ c → c ≤ a + 2 → s' c = s c) (q2 : ∀ i : Int, i = 64 ∨ (238 ≤ i ∧ i < 248) → w' i = w i) : LedC s' a w' := by
  unfold LedC at h ⊢
  rw [q a (by omega) (by omega), q (a + 1) (by omega) (by omega), q (a + 2) (by omega) (by omega), q2 64 (Or.inl rfl)]
  refine ⟨h.1, fun i h1 h2 => ?_, fun i h1 h2 => ?_⟩
  · rw [q2 _ (Or.inr (by omega))]
    exact h.2.1 i h1 h2
  · rw [q2 _ (Or.inr (by omega))]
    exact h.2.2 i h1 h2
theorem BkC.of {s s' : Mem} {w w' : Int → Int} {a : Nat} (h : BkC s a w) (q : s' a = s a) (q2 : ∀ i : Int, 248 ≤ i → i < 848 → w' i = w i) : BkC s' a w' := by
  intro i g1 g2
  rw [q, q2 _ (by omega) (by omega)]
  exact h i g1 g2
theorem WV.of {w w' : Int → Int} (h : WV w) (q2 : ∀ i : Int, i = 62 ∨ (197 ≤ i ∧ i < 222) → w' i = w i) : WV w' := by
  unfold WV at h ⊢
  rw [q2 62 (Or.inl rfl), q2 197 (Or.inr (by omega))]
  refine ⟨h.1, h.2.1, fun i h1 h2 => ?_⟩
  rw [q2 _ (Or.inr (by omega)), q2 _ (Or.inr (by omega))]
  exact h.2.2 i h1 h2
theorem WK.of {w w' : Int → Int} (h : WK w) (q2 : ∀ i : Int, i = 63 ∨ (222 ≤ i ∧ i < 238) → w' i = w i) : WK w' := by
  unfold WK at h ⊢
  rw [q2 63 (Or.inl rfl)]
  refine ⟨h.1, fun i h1 h2 => ?_⟩
  have := h.1
  rw [q2 _ (Or.inr (by omega)), q2 _ (Or.inr (by omega))]
  exact h.2 i h1 h2
theorem WM.of {w w' : Int → Int} (h : WM w) (q2 : ∀ i : Int, i = 64 ∨ (238 ≤ i ∧ i < 248) → w' i = w i) : WM w' := by
  unfold WM at h ⊢
  rw [q2 64 (Or.inl rfl)]
  have := h.1
  refine ⟨h.1, fun i h1 h2 => ?_, fun i h1 h2 => ?_⟩
  · rw [q2 _ (Or.inr (by omega))]
    exact h.2.1 i h1 h2
  · rw [q2 _ (Or.inr (by omega))]
    exact h.2.2 i h1 h2
theorem LawM.of {w w' : Int → Int} {lw : List Lin} (h : LawM w lw) (q : ∀ i : Int, i = 59 ∨ 848 ≤ i → w' i = w i) : LawM w' lw := ⟨by rw [q 59 (Or.inl rfl)]; exact h.1, LwM_hi (fun i hi => q i (Or.inr hi)) lw 0 0 (by decide) (by decide) h.2⟩
theorem WX.of {s s' : Mem} {a : Nat} {w : Int → Int} {lw : List Lin} (h : WX s a w lw) (hW : WW w lw) (q : ∀ c : Nat, a < c → c ≤ a + 37 → s' c = s c) : WX s' a w lw := by
  obtain ⟨h1, h2, h3, h4, h5, h6, h7, h8⟩ := h
  obtain ⟨g1, -, -, g4, g5, g6, g7, g8, g9⟩ := hW
  exact ⟨h1.of (fun c q1 q2 => q c (by omega) (by omega)), h2.of (q _ (by omega) (by omega)) (fun _ _ _ => rfl), h3.at (fun c q1 q2 => q c (by omega) (by omega)), h4.of (fun c q1 q2 => q c (by omega) (by omega)) (fun _ _ => rfl) g5.1.2, h5.of (fun c q1 q2 => q c (by omega) (by omega)) (fun _ _ => rfl) g6.1.2, h6.of (fun c q1 q2 => q c (by omega) (by omega)) (fun _ _ => rfl), h7.of (fun c q1 q2 => q c (by omega) (by omega)) (fun _ _ => rfl) g8.1.2, h8.of (fun c q1 q2 => q c (by omega) (by omega)) (fun _ _ => rfl)⟩
theorem kr_lo {t3 w : Int → Int} {i j : Int} (h : 0 ≤ j ∧ j < 57) : kr t3 w i j = t3 (57 * i + j) := if_pos h
theorem kr_hi {t3 w : Int → Int} {i j : Int} (h : ¬ (0 ≤ j ∧ j < 57)) : kr t3 w i j = w j := if_neg h
theorem kr_cg {t3 t3' w w' : Int → Int} {i : Int} (q1 : ∀ j : Int, 57 * i ≤ j → j < 57 * i + 57 → t3' j = t3 j) (q2 : ∀ j : Int, (57 ≤ j ∧ j < 59) ∨ (65 ≤ j ∧ j < 101) → w' j = w j) : ∀ j : Int, (0 ≤ j ∧ j < 59) ∨ (65 ≤ j ∧ j < 101) → kr t3' w' i j = kr t3 w i j := by
  intro j h1
  by_cases h : 0 ≤ j ∧ j < 57
  · rw [kr_lo h, kr_lo h, q1 _ (by omega) (by omega)]
  · rw [kr_hi h, kr_hi h, q2 _ (by omega)]
theorem slot_in {f : Int} (hf : 0 ≤ f ∧ f ≤ 5) {i : Int} (hi : 0 ≤ i ∧ i ≤ 6) : 79 ≤ slot f i ∧ slot f i + 8 ≤ 132 := by
  unfold slot
  rw [Int.tmod_eq_emod_of_nonneg (by omega)]
  omega
theorem PastC.of {s s' : Mem} {m : Int} {t3 t3' w w' : Int → Int} (h : PastC s m t3 w) (q : ∀ c : Nat, 77 ≤ c → c ≤ 132 → s' c = s c) (q1 : ∀ j : Int, 0 ≤ j → j < 342 → t3' j = t3 j) (q2 : ∀ j : Int, (57 ≤ j ∧ j < 59) ∨ (65 ≤ j ∧ j < 101) → w' j = w j) : PastC s' m t3' w' := by
  obtain ⟨h1, h2, h3, h4⟩ := h
  unfold PastC
  rw [q 77 (by decide) (by decide)]
  refine ⟨h1, h2, h3, fun i g1 g2 => ?_⟩
  obtain ⟨k1, k2, k3⟩ := h4 i g1 g2
  have hs := slot_in h3 (i := i) (by omega)
  have e := kr_cg (t3 := t3) (t3' := t3') (w := w) (w' := w') (i := i) (fun j q3 q4 => q1 j (by omega) (by omega)) q2
  exact ⟨(k1.of (fun c q3 q4 => q c (by omega) (by omega))).cg2 e, k2.cg2 e, by rw [e 0 (by decide)]; exact k3⟩
theorem PastC.none {s : Mem} {t3 w : Int → Int} (h1 : s 77 2 = 0) (h2 : 0 ≤ s 77 1 ∧ s 77 1 ≤ 5) : PastC s 0 t3 w := ⟨h1, by decide, h2, fun i g1 g2 => absurd g2 (by omega)⟩
theorem RdC.of {s s' t t' : Mem} (h : RdC s t) (q1 : s' 236 = s 236) (q2 : s' 256 = s 256) (q3 : t' 0 16 = t 0 16) (q4 : t' 0 23 = t 0 23) (q5 : t' 0 25 = t 0 25) (q6 : t' 8 = t 8) : RdC s' t' := by
  unfold RdC at h ⊢
  rw [q1, q2, q3, q4, q5, q6]
  exact h
theorem ImC.of {s s' t t' : Mem} (h : ImC s t) (q0 : s' 0 5 = s 0 5) (q1 : t' 0 5 = t 0 5) (q2 : t' 2 = t 2) (q : ∀ c : Nat, 39 < c → c ≤ 76 → s' c = s c) : ImC s' t' := by
  unfold ImC at h ⊢
  rw [q0, q1, q2]
  refine ⟨h.1, fun hh => ?_⟩
  obtain ⟨e1, lw, h1, h2⟩ := h.2 hh
  exact ⟨e1, lw, h1.of h2 q, h2⟩
/-- scratch cells alone have changed -/
theorem IV.sct {s s' t t' : Mem} (h : IV s t) (hT' : ThC s') (q : ∀ c : Nat, c ≠ 17 → c ≠ 18 → c ≠ 34 → c ≠ 35 → ¬ (133 ≤ c ∧ c ≤ 235) → s' c = s c) (q2 : ∀ c : Nat, c ≠ 0 → c ≠ 4 → c < 9 → t' c = t c) (q0 : ∀ i : Int, i = 4 ∨ i = 5 ∨ i = 16 ∨ i = 23 ∨ i = 25 → t' 0 i = t 0 i) : IV s' t' := by
  obtain ⟨⟨lw, ⟨h1, h2, h3, h4, h5, h6, h7, h8⟩, hW⟩, hI, hP, hR, hT⟩ := h
  obtain ⟨g1, g2, g3, g4, g5, g6, g7, g8, g9⟩ := hW
  have e1 : t' 1 = t 1 := q2 1 (by decide) (by decide) (by decide)
  refine ⟨⟨lw, ?_, ?_⟩, ?_, ?_, ?_, ?_⟩
  · rw [e1]
    exact ⟨h1.of (fun c q1 q2 => q c (by omega) (by omega) (by omega) (by omega) (by omega)), h2.of (q _ (by decide) (by decide) (by decide) (by decide) (by decide)) (fun _ _ _ => rfl), h3.at (fun c q1 q2 => q c (by omega) (by omega) (by omega) (by omega) (by omega)), h4.of (fun c q1 q2 => q c (by omega) (by omega) (by omega) (by omega) (by omega)) (fun _ _ => rfl) g5.1.2, h5.of (fun c q1 q2 => q c (by omega) (by omega) (by omega) (by omega) (by omega)) (fun _ _ => rfl) g6.1.2, h6.of (fun c q1 q2 => q c (by omega) (by omega) (by omega) (by omega) (by omega)) (fun _ _ => rfl), h7.of (fun c q1 q2 => q c (by omega) (by omega) (by omega) (by omega) (by omega)) (fun _ _ => rfl) g8.1.2, h8.of (fun c q1 q2 => q c (by omega) (by omega) (by omega) (by omega) (by omega)) (fun _ _ => rfl)⟩
  · rw [e1]
    exact ⟨g1, g2, g3, g4, g5, g6, g7, g8, g9⟩
  · exact hI.of (by rw [q 0 (by decide) (by decide) (by decide) (by decide) (by decide)]) (q0 5 (by decide)) (q2 2 (by decide) (by decide) (by decide)) (fun c a1 a2 => q c (by omega) (by omega) (by omega) (by omega) (by omega))
  · rw [q0 4 (by decide)]
    exact hP.of (fun c a1 a2 => q c (by omega) (by omega) (by omega) (by omega) (by omega)) (fun j _ _ => by rw [q2 3 (by decide) (by decide) (by decide)]) (fun j _ => by rw [e1])
  · exact hR.of (q _ (by decide) (by decide) (by decide) (by decide) (by decide)) (q _ (by decide) (by decide) (by decide) (by decide) (by decide)) (q0 16 (by decide)) (q0 23 (by decide)) (q0 25 (by decide)) (q2 8 (by decide) (by decide) (by decide))
  · exact hT'
theorem IV.sc {s s' t t' : Mem} (h : IV s t) (q : ∀ c : Nat, c ≠ 17 → c ≠ 18 → c ≠ 34 → c ≠ 35 → ¬ (135 ≤ c ∧ c ≤ 235) → s' c = s c) (q2 : ∀ c : Nat, c ≠ 0 → c ≠ 4 → c < 9 → t' c = t c) (q0 : ∀ i : Int, i = 4 ∨ i = 5 ∨ i = 16 ∨ i = 23 ∨ i = 25 → t' 0 i = t 0 i) : IV s' t' := by
  have hT := h.2.2.2.2
  refine h.sct ?_ (fun c a1 a2 a3 a4 a5 => q c a1 a2 a3 a4 (by omega)) q2 q0
  unfold ThC at hT ⊢
  rw [q 133 (by decide) (by decide) (by decide) (by decide) (by decide)]
  exact hT
